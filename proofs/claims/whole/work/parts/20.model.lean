theorem lf_X12_13 : Cond.fieldLink RX12 13 (TX12 1).1 (TX12 1).2.1 (TX12 1).2.2.1 ∈ gw := gw_t5 11 rfl rfl
theorem lc_X12_120 : Cond.constantLong RX12 120 255 ∈ gw := gw_t5 6 rfl rfl
theorem lf_X12_122 : Cond.fieldLink RX12 122 (TX12 11).1 (TX12 11).2.1 (TX12 11).2.2.1 ∈ gw := gw_t5 21 rfl rfl
theorem lm_X12_125 : Cond.methodLink RX12 125 yX12_in ∈ gw := gw_t5 208 rfl rfl
theorem yk_X12_in : YS yX12_in cX12_in 6 (some .boolean) 3 := ⟨gw_t5 210 rfl rfl, gw_t5 209 rfl rfl, gw_t1 12 rfl rfl, by decide +kernel⟩
theorem lc_X12_129 : Cond.constantLong RX12 129 7 ∈ gw := gw_t5 232 rfl rfl
theorem lc_X12_131 : Cond.constantLong RX12 131 40 ∈ gw := gw_t5 206 rfl rfl
theorem lc_X12_133 : Cond.constantLong RX12 133 120 ∈ gw := gw_t5 207 rfl rfl
theorem lc_X12_135 : Cond.constantLong RX12 135 99 ∈ gw := gw_t5 211 rfl rfl
theorem lc_X12_137 : Cond.constantLong RX12 137 9999 ∈ gw := gw_t5 212 rfl rfl
theorem lf_X12_23 : Cond.fieldLink RX12 23 (TX12 7).1 (TX12 7).2.1 (TX12 7).2.2.1 ∈ gw := gw_t5 17 rfl rfl
theorem lf_X12_26 : Cond.fieldLink RX12 26 (TX12 8).1 (TX12 8).2.1 (TX12 8).2.2.1 ∈ gw := gw_t5 18 rfl rfl
theorem lf_X12_29 : Cond.fieldLink RX12 29 (TX12 9).1 (TX12 9).2.1 (TX12 9).2.2.1 ∈ gw := gw_t5 19 rfl rfl
theorem lf_X12_32 : Cond.fieldLink RX12 32 (TX12 10).1 (TX12 10).2.1 (TX12 10).2.2.1 ∈ gw := gw_t5 20 rfl rfl
theorem lf_X12_35 : Cond.fieldLink RX12 35 (TX12 12).1 (TX12 12).2.1 (TX12 12).2.2.1 ∈ gw := gw_t5 22 rfl rfl
theorem lm_X12_139 : Cond.methodLink RX12 139 yX12_isRower ∈ gw := gw_t5 217 rfl rfl
theorem yk_X12_isRower : YV yX12_isRower cX12_isRower 2 (some .boolean) 1 := ⟨gw_t5 220 rfl rfl, gw_t5 219 rfl rfl, gw_s 25 rfl, gw_t1 12 rfl rfl, by decide +kernel⟩
theorem lm_X12_143 : Cond.methodLink RX12 143 yX12_seatOf ∈ gw := gw_t5 221 rfl rfl
theorem yk_X12_seatOf : YV yX12_seatOf cX12_seatOf 3 (some .int) 1 := ⟨gw_t5 224 rfl rfl, gw_t5 223 rfl rfl, gw_s 26 rfl, gw_t1 12 rfl rfl, by decide +kernel⟩
theorem lm_X12_147 : Cond.methodLink RX12 147 yX12_isSeat ∈ gw := gw_t5 229 rfl rfl
theorem yk_X12_isSeat : YS yX12_isSeat cX12_isSeat 1 (some .boolean) 1 := ⟨gw_t5 231 rfl rfl, gw_t5 230 rfl rfl, gw_t1 12 rfl rfl, by decide +kernel⟩
theorem lf_X12_41 : Cond.fieldLink RX12 41 (TX12 14).1 (TX12 14).2.1 (TX12 14).2.2.1 ∈ gw := gw_t5 24 rfl rfl
theorem lf_X12_38 : Cond.fieldLink RX12 38 (TX12 13).1 (TX12 13).2.1 (TX12 13).2.2.1 ∈ gw := gw_t5 23 rfl rfl
theorem lc_X12_150 : Cond.constantLong RX12 150 9 ∈ gw := gw_t5 237 rfl rfl
theorem lf_X12_156 : Cond.fieldLink RX12 156 (TX12 16).1 (TX12 16).2.1 (TX12 16).2.2.1 ∈ gw := gw_t5 26 rfl rfl
theorem lf_X12_117 : Cond.fieldLink RX12 117 (TX12 15).1 (TX12 15).2.1 (TX12 15).2.2.1 ∈ gw := gw_t5 25 rfl rfl
theorem lc_X12_154 : Cond.constantLong RX12 154 999 ∈ gw := gw_t6 3 rfl rfl
theorem lc_X12_152 : Cond.constantLong RX12 152 (-99) ∈ gw := gw_t6 2 rfl rfl
theorem lc_X12_159 : Cond.constantLong RX12 159 5 ∈ gw := gw_t6 8 rfl rfl
theorem lc_X12_161 : Cond.constantLong RX12 161 2 ∈ gw := gw_t6 9 rfl rfl
theorem lm_X12_171 : Cond.methodLink RX12 171 yX12_slipsOf ∈ gw := gw_t6 16 rfl rfl
theorem yk_X12_slipsOf : YS yX12_slipsOf cX12_slipsOf 1 (some .int) 1 := ⟨gw_t6 18 rfl rfl, gw_t6 17 rfl rfl, gw_t1 12 rfl rfl, by decide +kernel⟩
theorem lm_X12_167 : Cond.methodLink RX12 167 yX12_costOf ∈ gw := gw_t6 13 rfl rfl
theorem yk_X12_costOf : YS yX12_costOf cX12_costOf 2 (some .int) 2 := ⟨gw_t6 15 rfl rfl, gw_t6 14 rfl rfl, gw_t1 12 rfl rfl, by decide +kernel⟩
theorem lm_X12_163 : Cond.methodLink RX12 163 yX12_pullOf ∈ gw := gw_t6 10 rfl rfl
theorem yk_X12_pullOf : YS yX12_pullOf cX12_pullOf 4 (some .int) 3 := ⟨gw_t6 12 rfl rfl, gw_t6 11 rfl rfl, gw_t1 12 rfl rfl, by decide +kernel⟩
theorem lc_X12_174 : Cond.constantLong RX12 174 8 ∈ gw := gw_t6 23 rfl rfl
theorem lf_X12_176 : Cond.fieldLink RX12 176 (TX12 6).1 (TX12 6).2.1 (TX12 6).2.2.1 ∈ gw := gw_t5 16 rfl rfl
theorem lf_X12_20 : Cond.fieldLink RX12 20 (TX12 5).1 (TX12 5).2.1 (TX12 5).2.2.1 ∈ gw := gw_t5 15 rfl rfl
theorem lf_X12_179 : Cond.fieldLink RX12 179 (TX12 18).1 (TX12 18).2.1 (TX12 18).2.2.1 ∈ gw := gw_t5 28 rfl rfl
theorem lf_X12_182 : Cond.fieldLink RX12 182 (TX12 17).1 (TX12 17).2.1 (TX12 17).2.2.1 ∈ gw := gw_t5 27 rfl rfl
theorem lf_X12_185 : Cond.fieldLink RX12 185 (TX12 22).1 (TX12 22).2.1 (TX12 22).2.2.1 ∈ gw := gw_t5 32 rfl rfl
theorem lm_X12_188 : Cond.methodLink RX12 188 yX12_byteAt ∈ gw := gw_t6 36 rfl rfl
theorem yk_X12_byteAt : YV yX12_byteAt cX12_byteAt 2 (some .int) 1 := ⟨gw_t6 39 rfl rfl, gw_t6 38 rfl rfl, gw_s 29 rfl, gw_t1 12 rfl rfl, by decide +kernel⟩
theorem lf_X12_191 : Cond.fieldLink RX12 191 (TX12 20).1 (TX12 20).2.1 (TX12 20).2.2.1 ∈ gw := gw_t5 30 rfl rfl
theorem lf_X12_194 : Cond.fieldLink RX12 194 (TX12 19).1 (TX12 19).2.1 (TX12 19).2.2.1 ∈ gw := gw_t5 29 rfl rfl
theorem lc_X12_197 : Cond.constantLong RX12 197 97 ∈ gw := gw_t6 40 rfl rfl
theorem lc_X12_199 : Cond.constantLong RX12 199 122 ∈ gw := gw_t6 41 rfl rfl
theorem lc_X12_211 : Cond.constantLong RX12 211 48 ∈ gw := gw_t6 45 rfl rfl
theorem lc_X12_213 : Cond.constantLong RX12 213 57 ∈ gw := gw_t6 46 rfl rfl
theorem lf_X12_201 : Cond.fieldLink RX12 201 (TX12 21).1 (TX12 21).2.1 (TX12 21).2.2.1 ∈ gw := gw_t5 31 rfl rfl
theorem lc_X12_215 : Cond.constantLong RX12 215 10 ∈ gw := gw_t6 47 rfl rfl
theorem lc_X12_209 : Cond.constantLong RX12 209 (-1) ∈ gw := gw_t6 44 rfl rfl
theorem lc_X12_205 : Cond.constantLong RX12 205 27 ∈ gw := gw_t6 42 rfl rfl
theorem lc_X12_207 : Cond.constantLong RX12 207 96 ∈ gw := gw_t6 43 rfl rfl
theorem lf_X12_217 : Cond.fieldLink RX12 217 (TX12 24).1 (TX12 24).2.1 (TX12 24).2.2.1 ∈ gw := gw_t5 34 rfl rfl
theorem lf_X12_221 : Cond.fieldLink RX12 221 (TX12 25).1 (TX12 25).2.1 (TX12 25).2.2.1 ∈ gw := gw_t5 35 rfl rfl
theorem lf_X12_224 : Cond.fieldLink RX12 224 (TX12 23).1 (TX12 23).2.1 (TX12 23).2.2.1 ∈ gw := gw_t5 33 rfl rfl
theorem lm_X12_230 : Cond.methodLink RX12 230 yX12_next ∈ gw := gw_t6 32 rfl rfl
theorem yk_X12_next : YV yX12_next cX12_next 3 none 0 := ⟨gw_t6 35 rfl rfl, gw_t6 34 rfl rfl, gw_s 28 rfl, gw_t1 12 rfl rfl, by decide +kernel⟩
theorem lm_X12_227 : Cond.methodLink RX12 227 yX12_fail ∈ gw := gw_t6 57 rfl rfl
theorem yk_X12_fail : YV yX12_fail cX12_fail 1 none 0 := ⟨gw_t6 60 rfl rfl, gw_t6 59 rfl rfl, gw_s 32 rfl, gw_t1 12 rfl rfl, by decide +kernel⟩
theorem lc_X12_233 : Cond.constantLong RX12 233 3497099 ∈ gw := gw_t6 98 rfl rfl
theorem lm_X12_235 : Cond.methodLink RX12 235 yX12_isWord ∈ gw := gw_t6 53 rfl rfl
theorem yk_X12_isWord : YV yX12_isWord cX12_isWord 3 (some .boolean) 1 := ⟨gw_t6 56 rfl rfl, gw_t6 55 rfl rfl, gw_s 31 rfl, gw_t1 12 rfl rfl, by decide +kernel⟩
theorem lc_X12_242 : Cond.constantLong RX12 242 10502465 ∈ gw := gw_t6 99 rfl rfl
theorem lc_X12_247 : Cond.constantLong RX12 247 377669 ∈ gw := gw_t6 100 rfl rfl
theorem lc_X12_252 : Cond.constantLong RX12 252 141471 ∈ gw := gw_t6 101 rfl rfl
theorem lc_X12_254 : Cond.constantLong RX12 254 10416091 ∈ gw := gw_t6 102 rfl rfl
theorem lc_X12_259 : Cond.constantLong RX12 259 283623584 ∈ gw := gw_t6 103 rfl rfl
theorem lf_X12_261 : Cond.fieldLink RX12 261 (TX12 30).1 (TX12 30).2.1 (TX12 30).2.2.1 ∈ gw := gw_t5 40 rfl rfl
theorem lf_X12_256 : Cond.fieldLink RX12 256 (TX12 29).1 (TX12 29).2.1 (TX12 29).2.2.1 ∈ gw := gw_t5 39 rfl rfl
theorem lf_X12_249 : Cond.fieldLink RX12 249 (TX12 28).1 (TX12 28).2.1 (TX12 28).2.2.1 ∈ gw := gw_t5 38 rfl rfl
theorem lf_X12_244 : Cond.fieldLink RX12 244 (TX12 27).1 (TX12 27).2.1 (TX12 27).2.2.1 ∈ gw := gw_t5 37 rfl rfl
theorem lf_X12_239 : Cond.fieldLink RX12 239 (TX12 26).1 (TX12 26).2.1 (TX12 26).2.2.1 ∈ gw := gw_t5 36 rfl rfl
theorem lm_X12_264 : Cond.methodLink RX12 264 yX12_isSign ∈ gw := gw_t6 90 rfl rfl
theorem yk_X12_isSign : YV yX12_isSign cX12_isSign 2 (some .boolean) 1 := ⟨gw_t6 93 rfl rfl, gw_t6 92 rfl rfl, gw_s 40 rfl, gw_t1 12 rfl rfl, by decide +kernel⟩
theorem lm_X12_278 : Cond.methodLink RX12 278 yX12_name ∈ gw := gw_t6 94 rfl rfl
theorem yk_X12_name : YV yX12_name cX12_name 1 (some .int) 0 := ⟨gw_t6 97 rfl rfl, gw_t6 96 rfl rfl, gw_s 41 rfl, gw_t1 12 rfl rfl, by decide +kernel⟩
theorem lm_X12_267 : Cond.methodLink RX12 267 yX12_opens ∈ gw := gw_t6 74 rfl rfl
theorem yk_X12_opens : YV yX12_opens cX12_opens 1 (some .boolean) 0 := ⟨gw_t6 77 rfl rfl, gw_t6 76 rfl rfl, gw_s 36 rfl, gw_t1 12 rfl rfl, by decide +kernel⟩
theorem lm_X12_275 : Cond.methodLink RX12 275 yX12_either ∈ gw := gw_t6 61 rfl rfl
theorem yk_X12_either : YV yX12_either cX12_either 3 (some .int) 0 := ⟨gw_t6 64 rfl rfl, gw_t6 63 rfl rfl, gw_s 33 rfl, gw_t1 12 rfl rfl, by decide +kernel⟩
theorem lm_X12_271 : Cond.methodLink RX12 271 yX12_one ∈ gw := gw_t6 86 rfl rfl
theorem yk_X12_one : YV yX12_one cX12_one 2 (some .int) 0 := ⟨gw_t6 89 rfl rfl, gw_t6 88 rfl rfl, gw_s 39 rfl, gw_t1 12 rfl rfl, by decide +kernel⟩
theorem lm_X12_281 : Cond.methodLink RX12 281 yX12_term ∈ gw := gw_t6 82 rfl rfl
theorem yk_X12_term : YV yX12_term cX12_term 2 (some .int) 0 := ⟨gw_t6 85 rfl rfl, gw_t6 84 rfl rfl, gw_s 38 rfl, gw_t1 12 rfl rfl, by decide +kernel⟩
theorem lc_X12_284 : Cond.constantLong RX12 284 43 ∈ gw := gw_t6 104 rfl rfl
theorem lc_X12_286 : Cond.constantLong RX12 286 10631 ∈ gw := gw_t6 73 rfl rfl
theorem lm_X12_291 : Cond.methodLink RX12 291 yX12_added ∈ gw := gw_t6 78 rfl rfl
theorem yk_X12_added : YV yX12_added cX12_added 4 (some .int) 0 := ⟨gw_t6 81 rfl rfl, gw_t6 80 rfl rfl, gw_s 37 rfl, gw_t1 12 rfl rfl, by decide +kernel⟩
theorem lc_X12_294 : Cond.constantLong RX12 294 60 ∈ gw := gw_t6 105 rfl rfl
theorem lm_X12_288 : Cond.methodLink RX12 288 yX12_not ∈ gw := gw_t6 69 rfl rfl
theorem yk_X12_not : YV yX12_not cX12_not 4 (some .int) 0 := ⟨gw_t6 72 rfl rfl, gw_t6 71 rfl rfl, gw_s 35 rfl, gw_t1 12 rfl rfl, by decide +kernel⟩
theorem lc_X12_296 : Cond.constantLong RX12 296 1111 ∈ gw := gw_t6 106 rfl rfl
theorem lm_X12_298 : Cond.methodLink RX12 298 yX12_both ∈ gw := gw_t6 65 rfl rfl
theorem yk_X12_both : YV yX12_both cX12_both 3 (some .int) 0 := ⟨gw_t6 68 rfl rfl, gw_t6 67 rfl rfl, gw_s 34 rfl, gw_t1 12 rfl rfl, by decide +kernel⟩
theorem lc_X12_301 : Cond.constantLong RX12 301 423 ∈ gw := gw_t6 107 rfl rfl
theorem lf_X12_17 : Cond.fieldLink RX12 17 (TX12 2).1 (TX12 2).2.1 (TX12 2).2.2.1 ∈ gw := gw_t5 12 rfl rfl
theorem lc_X12_303 : Cond.constantLong RX12 303 144941 ∈ gw := gw_t6 48 rfl rfl
theorem lm_X12_305 : Cond.methodLink RX12 305 yX12_part ∈ gw := gw_t6 49 rfl rfl
theorem yk_X12_part : YV yX12_part cX12_part 4 (some .int) 1 := ⟨gw_t6 52 rfl rfl, gw_t6 51 rfl rfl, gw_s 30 rfl, gw_t1 12 rfl rfl, by decide +kernel⟩
theorem lc_X12_309 : Cond.constantLong RX12 309 91888 ∈ gw := gw_t6 108 rfl rfl
theorem lf_X12_50 : Cond.fieldLink RX12 50 (TX12 34).1 (TX12 34).2.1 (TX12 34).2.2.1 ∈ gw := gw_t5 44 rfl rfl
theorem lf_X12_114 : Cond.fieldLink RX12 114 (TX12 3).1 (TX12 3).2.1 (TX12 3).2.2.1 ∈ gw := gw_t5 13 rfl rfl
theorem lm_X12_311 : Cond.methodLink RX12 311 yX12_read ∈ gw := gw_t6 28 rfl rfl
theorem yk_X12_read : YV yX12_read cX12_read 9 (some .int) 6 := ⟨gw_t6 31 rfl rfl, gw_t6 30 rfl rfl, gw_s 27 rfl, gw_t1 12 rfl rfl, by decide +kernel⟩
theorem lf_X12_315 : Cond.fieldLink RX12 315 (TX12 4).1 (TX12 4).2.1 (TX12 4).2.2.1 ∈ gw := gw_t5 14 rfl rfl
theorem lf_X12_318 : Cond.fieldLink RX12 318 (TX12 33).1 (TX12 33).2.1 (TX12 33).2.2.1 ∈ gw := gw_t5 43 rfl rfl
theorem lm_X12_321 : Cond.methodLink RX12 321 yX12_byteHere ∈ gw := gw_t6 117 rfl rfl
theorem yk_X12_byteHere : YV yX12_byteHere cX12_byteHere 2 (some .int) 1 := ⟨gw_t6 120 rfl rfl, gw_t6 119 rfl rfl, gw_s 42 rfl, gw_t1 12 rfl rfl, by decide +kernel⟩
theorem lm_X12_324 : Cond.methodLink RX12 324 yX12_kindOf ∈ gw := gw_t6 121 rfl rfl
theorem yk_X12_kindOf : YS yX12_kindOf cX12_kindOf 1 (some .int) 1 := ⟨gw_t6 123 rfl rfl, gw_t6 122 rfl rfl, gw_t1 12 rfl rfl, by decide +kernel⟩
theorem lm_X12_327 : Cond.methodLink RX12 327 yX12_isDigit ∈ gw := gw_t6 124 rfl rfl
theorem yk_X12_isDigit : YS yX12_isDigit cX12_isDigit 1 (some .boolean) 1 := ⟨gw_t6 126 rfl rfl, gw_t6 125 rfl rfl, gw_t1 12 rfl rfl, by decide +kernel⟩
theorem lf_X12_47 : Cond.fieldLink RX12 47 (TX12 32).1 (TX12 32).2.1 (TX12 32).2.2.1 ∈ gw := gw_t5 42 rfl rfl
theorem lf_X12_44 : Cond.fieldLink RX12 44 (TX12 31).1 (TX12 31).2.1 (TX12 31).2.2.1 ∈ gw := gw_t5 41 rfl rfl
theorem lm_X12_330 : Cond.methodLink RX12 330 yX12_isPlan ∈ gw := gw_t6 131 rfl rfl
theorem yk_X12_isPlan : YV yX12_isPlan cX12_isPlan 2 (some .boolean) 1 := ⟨gw_t6 134 rfl rfl, gw_t6 133 rfl rfl, gw_s 43 rfl, gw_t1 12 rfl rfl, by decide +kernel⟩
theorem lf_X12_333 : Cond.fieldLink RX12 333 (TX12 36).1 (TX12 36).2.1 (TX12 36).2.2.1 ∈ gw := gw_t5 46 rfl rfl
theorem lf_X12_336 : Cond.fieldLink RX12 336 (TX12 37).1 (TX12 37).2.1 (TX12 37).2.2.1 ∈ gw := gw_t5 47 rfl rfl
theorem lf_X12_339 : Cond.fieldLink RX12 339 (TX12 38).1 (TX12 38).2.1 (TX12 38).2.2.1 ∈ gw := gw_t5 48 rfl rfl
theorem lf_X12_342 : Cond.fieldLink RX12 342 (TX12 39).1 (TX12 39).2.1 (TX12 39).2.2.1 ∈ gw := gw_t5 49 rfl rfl
theorem lf_X12_345 : Cond.fieldLink RX12 345 (TX12 40).1 (TX12 40).2.1 (TX12 40).2.2.1 ∈ gw := gw_t5 50 rfl rfl
theorem lf_X12_348 : Cond.fieldLink RX12 348 (TX12 41).1 (TX12 41).2.1 (TX12 41).2.2.1 ∈ gw := gw_t5 51 rfl rfl
theorem lm_X12_351 : Cond.methodLink RX12 351 yX12_within ∈ gw := gw_t6 154 rfl rfl
theorem yk_X12_within : YS yX12_within cX12_within 3 (some .int) 3 := ⟨gw_t6 156 rfl rfl, gw_t6 155 rfl rfl, gw_t1 12 rfl rfl, by decide +kernel⟩
theorem lc_X12_354 : Cond.constant RX12 354 99999 ∈ gw := gw_t6 153 rfl rfl
theorem lc_X12_355 : Cond.constantLong RX12 355 100 ∈ gw := gw_t6 157 rfl rfl
theorem lf_X12_53 : Cond.fieldLink RX12 53 (TX12 35).1 (TX12 35).2.1 (TX12 35).2.2.1 ∈ gw := gw_t5 45 rfl rfl
theorem lm_X12_357 : Cond.methodLink RX12 357 yX12_givesOf ∈ gw := gw_t6 158 rfl rfl
theorem yk_X12_givesOf : YV yX12_givesOf cX12_givesOf 4 (some .int) 1 := ⟨gw_t6 161 rfl rfl, gw_t6 160 rfl rfl, gw_s 47 rfl, gw_t1 12 rfl rfl, by decide +kernel⟩
theorem lc_X12_360 : Cond.constantLong RX12 360 4 ∈ gw := gw_t6 139 rfl rfl
theorem lm_X12_362 : Cond.methodLink RX12 362 yX12_allWeights ∈ gw := gw_t6 162 rfl rfl
theorem yk_X12_allWeights : YV yX12_allWeights cX12_allWeights 3 (some .int) 0 := ⟨gw_t6 165 rfl rfl, gw_t6 164 rfl rfl, gw_s 48 rfl, gw_t1 12 rfl rfl, by decide +kernel⟩
theorem lc_X12_365 : Cond.constantLong RX12 365 99999 ∈ gw := gw_t6 166 rfl rfl
theorem lm_X12_367 : Cond.methodLink RX12 367 yX12_begins ∈ gw := gw_t6 145 rfl rfl
theorem yk_X12_begins : YV yX12_begins cX12_begins 2 none 0 := ⟨gw_t6 148 rfl rfl, gw_t6 147 rfl rfl, gw_s 45 rfl, gw_t1 12 rfl rfl, by decide +kernel⟩
theorem lm_X12_370 : Cond.methodLink RX12 370 yX12_strokes ∈ gw := gw_t6 149 rfl rfl
theorem yk_X12_strokes : YV yX12_strokes cX12_strokes 12 none 1 := ⟨gw_t6 152 rfl rfl, gw_t6 151 rfl rfl, gw_s 46 rfl, gw_t1 12 rfl rfl, by decide +kernel⟩
theorem lc_X12_374 : Cond.constantLong RX12 374 (-4611686018427387904) ∈ gw := gw_t6 140 rfl rfl
theorem lm_X12_376 : Cond.methodLink RX12 376 yX12_goes ∈ gw := gw_t6 141 rfl rfl
theorem yk_X12_goes : YV yX12_goes cX12_goes 3 none 1 := ⟨gw_t6 144 rfl rfl, gw_t6 143 rfl rfl, gw_s 44 rfl, gw_t1 12 rfl rfl, by decide +kernel⟩
theorem lm_X12_379 : Cond.methodLink RX12 379 yX12_changes ∈ gw := gw_t6 183 rfl rfl
theorem yk_X12_changes : YV yX12_changes cX12_changes 4 none 2 := ⟨gw_t6 186 rfl rfl, gw_t6 185 rfl rfl, gw_s 50 rfl, gw_t1 12 rfl rfl, by decide +kernel⟩
theorem lm_X12_383 : Cond.methodLink RX12 383 yX12_moreOf ∈ gw := gw_t6 179 rfl rfl
theorem yk_X12_moreOf : YV yX12_moreOf cX12_moreOf 6 (some .long) 4 := ⟨gw_t6 182 rfl rfl, gw_t6 181 rfl rfl, gw_s 49 rfl, gw_t1 12 rfl rfl, by decide +kernel⟩
theorem lm_X12_391 : Cond.methodLink RX12 391 yX12_bitsOf ∈ gw := gw_t6 199 rfl rfl
theorem yk_X12_bitsOf : YS yX12_bitsOf cX12_bitsOf 3 (some .int) 1 := ⟨gw_t6 201 rfl rfl, gw_t6 200 rfl rfl, gw_t1 12 rfl rfl, by decide +kernel⟩
theorem lm_X12_387 : Cond.methodLink RX12 387 yX12_wagsBy ∈ gw := gw_t6 195 rfl rfl
theorem yk_X12_wagsBy : YV yX12_wagsBy cX12_wagsBy 5 (some .long) 1 := ⟨gw_t6 198 rfl rfl, gw_t6 197 rfl rfl, gw_s 51 rfl, gw_t1 12 rfl rfl, by decide +kernel⟩
theorem lc_X12_394 : Cond.constantLong RX12 394 (-9999) ∈ gw := gw_t6 210 rfl rfl
theorem lf_X12_396 : Cond.fieldLink RX12 396 (TX12 46).1 (TX12 46).2.1 (TX12 46).2.2.1 ∈ gw := gw_t5 56 rfl rfl
theorem lf_X12_57 : Cond.fieldLink RX12 57 (TX12 42).1 (TX12 42).2.1 (TX12 42).2.2.1 ∈ gw := gw_t5 52 rfl rfl
theorem lf_X12_60 : Cond.fieldLink RX12 60 (TX12 43).1 (TX12 43).2.1 (TX12 43).2.2.1 ∈ gw := gw_t5 53 rfl rfl
theorem lf_X12_63 : Cond.fieldLink RX12 63 (TX12 44).1 (TX12 44).2.1 (TX12 44).2.2.1 ∈ gw := gw_t5 54 rfl rfl
theorem lf_X12_66 : Cond.fieldLink RX12 66 (TX12 45).1 (TX12 45).2.1 (TX12 45).2.2.1 ∈ gw := gw_t5 55 rfl rfl
theorem lf_X12_69 : Cond.fieldLink RX12 69 (TX12 47).1 (TX12 47).2.1 (TX12 47).2.2.1 ∈ gw := gw_t5 57 rfl rfl
theorem lc_X12_399 : Cond.constantLong RX12 399 999999 ∈ gw := gw_t6 219 rfl rfl
theorem lm_X12_401 : Cond.methodLink RX12 401 yX12_bounds ∈ gw := gw_t6 220 rfl rfl
theorem yk_X12_bounds : YV yX12_bounds cX12_bounds 6 none 3 := ⟨gw_t6 223 rfl rfl, gw_t6 222 rfl rfl, gw_s 53 rfl, gw_t1 12 rfl rfl, by decide +kernel⟩
theorem lm_X12_405 : Cond.methodLink RX12 405 yX12_quarrels ∈ gw := gw_t6 215 rfl rfl
theorem yk_X12_quarrels : YV yX12_quarrels cX12_quarrels 5 (some .boolean) 1 := ⟨gw_t6 218 rfl rfl, gw_t6 217 rfl rfl, gw_s 52 rfl, gw_t1 12 rfl rfl, by decide +kernel⟩
theorem lc_X12_408 : Cond.constantLong RX12 408 (-3) ∈ gw := gw_t6 224 rfl rfl
theorem lm_X12_410 : Cond.methodLink RX12 410 yX12_isSheet ∈ gw := gw_t6 233 rfl rfl
theorem lc_X12_445 : Cond.constantLong RX12 445 3 ∈ gw := gw_t6 236 rfl rfl
theorem yk_X12_isSheet : YS yX12_isSheet cX12_isSheet 1 (some .boolean) 1 := ⟨gw_t6 235 rfl rfl, gw_t6 234 rfl rfl, gw_t1 12 rfl rfl, by decide +kernel⟩
theorem lf_X12_87 : Cond.fieldLink RX12 87 (TX12 59).1 (TX12 59).2.1 (TX12 59).2.2.1 ∈ gw := gw_t5 69 rfl rfl
theorem lf_X12_94 : Cond.fieldLink RX12 94 (TX12 61).1 (TX12 61).2.1 (TX12 61).2.2.1 ∈ gw := gw_t5 71 rfl rfl
theorem lf_X12_97 : Cond.fieldLink RX12 97 (TX12 62).1 (TX12 62).2.1 (TX12 62).2.2.1 ∈ gw := gw_t5 72 rfl rfl
theorem lf_X12_413 : Cond.fieldLink RX12 413 (TX12 49).1 (TX12 49).2.1 (TX12 49).2.2.1 ∈ gw := gw_t5 59 rfl rfl
theorem lf_X12_72 : Cond.fieldLink RX12 72 (TX12 48).1 (TX12 48).2.1 (TX12 48).2.2.1 ∈ gw := gw_t5 58 rfl rfl
theorem lm_X12_416 : Cond.methodLink RX12 416 yX12_isLane ∈ gw := gw_t7 1 rfl rfl
theorem yk_X12_isLane : YS yX12_isLane cX12_isLane 1 (some .boolean) 1 := ⟨gw_t7 3 rfl rfl, gw_t7 2 rfl rfl, gw_t1 12 rfl rfl, by decide +kernel⟩
theorem lm_X12_419 : Cond.methodLink RX12 419 yX12_common ∈ gw := gw_t7 4 rfl rfl
theorem yk_X12_common : YS yX12_common cX12_common 10 (some .long) 2 := ⟨gw_t7 6 rfl rfl, gw_t7 5 rfl rfl, gw_t1 12 rfl rfl, by decide +kernel⟩
theorem lm_X12_423 : Cond.methodLink RX12 423 yX12_isFirst ∈ gw := gw_t7 11 rfl rfl
theorem yk_X12_isFirst : YV yX12_isFirst cX12_isFirst 5 (some .boolean) 2 := ⟨gw_t7 14 rfl rfl, gw_t7 13 rfl rfl, gw_s 54 rfl, gw_t1 12 rfl rfl, by decide +kernel⟩
theorem lf_X12_427 : Cond.fieldLink RX12 427 (TX12 54).1 (TX12 54).2.1 (TX12 54).2.2.1 ∈ gw := gw_t5 64 rfl rfl
theorem lf_X12_430 : Cond.fieldLink RX12 430 (TX12 55).1 (TX12 55).2.1 (TX12 55).2.2.1 ∈ gw := gw_t5 65 rfl rfl
theorem lf_X12_433 : Cond.fieldLink RX12 433 (TX12 56).1 (TX12 56).2.1 (TX12 56).2.2.1 ∈ gw := gw_t5 66 rfl rfl
theorem lf_X12_436 : Cond.fieldLink RX12 436 (TX12 57).1 (TX12 57).2.1 (TX12 57).2.2.1 ∈ gw := gw_t5 67 rfl rfl
theorem lf_X12_439 : Cond.fieldLink RX12 439 (TX12 58).1 (TX12 58).2.1 (TX12 58).2.2.1 ∈ gw := gw_t5 68 rfl rfl
theorem lf_X12_75 : Cond.fieldLink RX12 75 (TX12 50).1 (TX12 50).2.1 (TX12 50).2.2.1 ∈ gw := gw_t5 60 rfl rfl
theorem lf_X12_78 : Cond.fieldLink RX12 78 (TX12 51).1 (TX12 51).2.1 (TX12 51).2.2.1 ∈ gw := gw_t5 61 rfl rfl
theorem lf_X12_81 : Cond.fieldLink RX12 81 (TX12 52).1 (TX12 52).2.1 (TX12 52).2.2.1 ∈ gw := gw_t5 62 rfl rfl
theorem lf_X12_84 : Cond.fieldLink RX12 84 (TX12 53).1 (TX12 53).2.1 (TX12 53).2.2.1 ∈ gw := gw_t5 63 rfl rfl
theorem lm_X12_442 : Cond.methodLink RX12 442 yX12_sitting ∈ gw := gw_t7 19 rfl rfl
theorem yk_X12_sitting : YV yX12_sitting cX12_sitting 3 (some .int) 0 := ⟨gw_t7 22 rfl rfl, gw_t7 21 rfl rfl, gw_s 55 rfl, gw_t1 12 rfl rfl, by decide +kernel⟩
theorem lf_X12_91 : Cond.fieldLink RX12 91 (TX12 60).1 (TX12 60).2.1 (TX12 60).2.2.1 ∈ gw := gw_t5 70 rfl rfl
theorem lm_X12_447 : Cond.methodLink RX12 447 yX12_piece ∈ gw := gw_t7 47 rfl rfl
theorem yk_X12_piece : YV yX12_piece cX12_piece 5 (some .int) 4 := ⟨gw_t6 209 rfl rfl, gw_t6 207 rfl rfl, gw_t6 208 rfl rfl, gw_t1 12 rfl rfl, by decide +kernel⟩
theorem lm_X12_451 : Cond.methodLink RX12 451 yX12_over ∈ gw := gw_t7 52 rfl rfl
theorem yk_X12_over : YS yX12_over cX12_over 1 (some .int) 1 := ⟨gw_t7 54 rfl rfl, gw_t7 53 rfl rfl, gw_t1 12 rfl rfl, by decide +kernel⟩
theorem dX12_in_0 : decode cX12_in 0 = .ok (.lload_n 0, 1) := by decide +kernel
theorem dX12_in_1 : decode cX12_in 1 = .ok (.lload_n 2, 1) := by decide +kernel
theorem dX12_in_2 : decode cX12_in 2 = .ok (.lcmp, 1) := by decide +kernel
theorem dX12_in_3 : decode cX12_in 3 = .ok (.ifCond .lt 14, 3) := by decide +kernel
theorem dX12_in_6 : decode cX12_in 6 = .ok (.lload_n 0, 1) := by decide +kernel
theorem dX12_in_7 : decode cX12_in 7 = .ok (.lload 4, 2) := by decide +kernel
theorem dX12_in_9 : decode cX12_in 9 = .ok (.lcmp, 1) := by decide +kernel
theorem dX12_in_10 : decode cX12_in 10 = .ok (.ifCond .gt 7, 3) := by decide +kernel
theorem dX12_in_13 : decode cX12_in 13 = .ok (.iconst 1, 1) := by decide +kernel
theorem dX12_in_14 : decode cX12_in 14 = .ok (.goto 4, 3) := by decide +kernel
theorem dX12_in_17 : decode cX12_in 17 = .ok (.iconst 0, 1) := by decide +kernel
theorem dX12_in_18 : decode cX12_in 18 = .ok (.ireturn, 1) := by decide +kernel
theorem dX12_spell_0 : decode cX12_spell 0 = .ok (.iconst 0, 1) := by decide +kernel
theorem dX12_spell_1 : decode cX12_spell 1 = .ok (.istore 4, 2) := by decide +kernel
theorem dX12_spell_3 : decode cX12_spell 3 = .ok (.iload 4, 2) := by decide +kernel
theorem dX12_spell_5 : decode cX12_spell 5 = .ok (.bipush 8, 2) := by decide +kernel
theorem dX12_spell_7 : decode cX12_spell 7 = .ok (.if_icmp .ge 33, 3) := by decide +kernel
theorem dX12_spell_10 : decode cX12_spell 10 = .ok (.aload_n 0, 1) := by decide +kernel
theorem dX12_spell_11 : decode cX12_spell 11 = .ok (.getfield 13, 3) := by decide +kernel
theorem dX12_spell_14 : decode cX12_spell 14 = .ok (.iload_n 1, 1) := by decide +kernel
theorem dX12_spell_15 : decode cX12_spell 15 = .ok (.iload 4, 2) := by decide +kernel
theorem dX12_spell_17 : decode cX12_spell 17 = .ok (.iadd, 1) := by decide +kernel
theorem dX12_spell_18 : decode cX12_spell 18 = .ok (.lload_n 2, 1) := by decide +kernel
theorem dX12_spell_19 : decode cX12_spell 19 = .ok (.bipush 56, 2) := by decide +kernel
theorem dX12_spell_21 : decode cX12_spell 21 = .ok (.bipush 8, 2) := by decide +kernel
theorem dX12_spell_23 : decode cX12_spell 23 = .ok (.iload 4, 2) := by decide +kernel
theorem dX12_spell_25 : decode cX12_spell 25 = .ok (.imul, 1) := by decide +kernel
theorem dX12_spell_26 : decode cX12_spell 26 = .ok (.isub, 1) := by decide +kernel
theorem dX12_spell_27 : decode cX12_spell 27 = .ok (.lshr, 1) := by decide +kernel
theorem dX12_spell_28 : decode cX12_spell 28 = .ok (.ldc2_w 120, 3) := by decide +kernel
theorem dX12_spell_31 : decode cX12_spell 31 = .ok (.land, 1) := by decide +kernel
theorem dX12_spell_32 : decode cX12_spell 32 = .ok (.l2i, 1) := by decide +kernel
theorem dX12_spell_33 : decode cX12_spell 33 = .ok (.iastore, 1) := by decide +kernel
theorem dX12_spell_34 : decode cX12_spell 34 = .ok (.iinc 4 1, 3) := by decide +kernel
theorem dX12_spell_37 : decode cX12_spell 37 = .ok (.goto (-34), 3) := by decide +kernel
theorem dX12_spell_40 : decode cX12_spell 40 = .ok (.return_, 1) := by decide +kernel
theorem dX12_isRower_0 : decode cX12_isRower 0 = .ok (.iload_n 1, 1) := by decide +kernel
theorem dX12_isRower_1 : decode cX12_isRower 1 = .ok (.i2l, 1) := by decide +kernel
theorem dX12_isRower_2 : decode cX12_isRower 2 = .ok (.lconst 0, 1) := by decide +kernel
theorem dX12_isRower_3 : decode cX12_isRower 3 = .ok (.aload_n 0, 1) := by decide +kernel
theorem dX12_isRower_4 : decode cX12_isRower 4 = .ok (.getfield 122, 3) := by decide +kernel
theorem dX12_isRower_7 : decode cX12_isRower 7 = .ok (.iconst 1, 1) := by decide +kernel
theorem dX12_isRower_8 : decode cX12_isRower 8 = .ok (.isub, 1) := by decide +kernel
theorem dX12_isRower_9 : decode cX12_isRower 9 = .ok (.i2l, 1) := by decide +kernel
theorem dX12_isRower_10 : decode cX12_isRower 10 = .ok (.invokestatic 125, 3) := by decide +kernel
theorem dX12_isRower_13 : decode cX12_isRower 13 = .ok (.ireturn, 1) := by decide +kernel
theorem dX12_isSeat_0 : decode cX12_isSeat 0 = .ok (.iload_n 0, 1) := by decide +kernel
theorem dX12_isSeat_1 : decode cX12_isSeat 1 = .ok (.i2l, 1) := by decide +kernel
theorem dX12_isSeat_2 : decode cX12_isSeat 2 = .ok (.lconst 0, 1) := by decide +kernel
theorem dX12_isSeat_3 : decode cX12_isSeat 3 = .ok (.ldc2_w 129, 3) := by decide +kernel
theorem dX12_isSeat_6 : decode cX12_isSeat 6 = .ok (.invokestatic 125, 3) := by decide +kernel
theorem dX12_isSeat_9 : decode cX12_isSeat 9 = .ok (.ireturn, 1) := by decide +kernel
theorem dX12_rower_0 : decode cX12_rower 0 = .ok (.iload_n 1, 1) := by decide +kernel
theorem dX12_rower_1 : decode cX12_rower 1 = .ok (.i2l, 1) := by decide +kernel
theorem dX12_rower_2 : decode cX12_rower 2 = .ok (.ldc2_w 131, 3) := by decide +kernel
theorem dX12_rower_5 : decode cX12_rower 5 = .ok (.ldc2_w 133, 3) := by decide +kernel
theorem dX12_rower_8 : decode cX12_rower 8 = .ok (.invokestatic 125, 3) := by decide +kernel
theorem dX12_rower_11 : decode cX12_rower 11 = .ok (.ifCond .eq 40, 3) := by decide +kernel
theorem dX12_rower_14 : decode cX12_rower 14 = .ok (.iload_n 2, 1) := by decide +kernel
theorem dX12_rower_15 : decode cX12_rower 15 = .ok (.i2l, 1) := by decide +kernel
theorem dX12_rower_16 : decode cX12_rower 16 = .ok (.lconst 1, 1) := by decide +kernel
theorem dX12_rower_17 : decode cX12_rower 17 = .ok (.ldc2_w 135, 3) := by decide +kernel
theorem dX12_rower_20 : decode cX12_rower 20 = .ok (.invokestatic 125, 3) := by decide +kernel
theorem dX12_rower_23 : decode cX12_rower 23 = .ok (.ifCond .eq 28, 3) := by decide +kernel
theorem dX12_rower_26 : decode cX12_rower 26 = .ok (.iload_n 3, 1) := by decide +kernel
theorem dX12_rower_27 : decode cX12_rower 27 = .ok (.i2l, 1) := by decide +kernel
theorem dX12_rower_28 : decode cX12_rower 28 = .ok (.lconst 0, 1) := by decide +kernel
theorem dX12_rower_29 : decode cX12_rower 29 = .ok (.ldc2_w 137, 3) := by decide +kernel
theorem dX12_rower_32 : decode cX12_rower 32 = .ok (.invokestatic 125, 3) := by decide +kernel
theorem dX12_rower_35 : decode cX12_rower 35 = .ok (.ifCond .eq 16, 3) := by decide +kernel
theorem dX12_rower_38 : decode cX12_rower 38 = .ok (.iload 4, 2) := by decide +kernel
theorem dX12_rower_40 : decode cX12_rower 40 = .ok (.i2l, 1) := by decide +kernel
theorem dX12_rower_41 : decode cX12_rower 41 = .ok (.lconst 0, 1) := by decide +kernel
theorem dX12_rower_42 : decode cX12_rower 42 = .ok (.ldc2_w 135, 3) := by decide +kernel
theorem dX12_rower_45 : decode cX12_rower 45 = .ok (.invokestatic 125, 3) := by decide +kernel
theorem dX12_rower_48 : decode cX12_rower 48 = .ok (.ifCond .ne 6, 3) := by decide +kernel
theorem dX12_rower_51 : decode cX12_rower 51 = .ok (.bipush (-2), 2) := by decide +kernel
theorem dX12_rower_53 : decode cX12_rower 53 = .ok (.ireturn, 1) := by decide +kernel
theorem dX12_rower_54 : decode cX12_rower 54 = .ok (.aload_n 0, 1) := by decide +kernel
theorem dX12_rower_55 : decode cX12_rower 55 = .ok (.getfield 122, 3) := by decide +kernel
theorem dX12_rower_58 : decode cX12_rower 58 = .ok (.bipush 16, 2) := by decide +kernel
theorem dX12_rower_60 : decode cX12_rower 60 = .ok (.if_icmp .ne 6, 3) := by decide +kernel
theorem dX12_rower_63 : decode cX12_rower 63 = .ok (.bipush (-4), 2) := by decide +kernel
theorem dX12_rower_65 : decode cX12_rower 65 = .ok (.ireturn, 1) := by decide +kernel
theorem dX12_rower_66 : decode cX12_rower 66 = .ok (.aload_n 0, 1) := by decide +kernel
theorem dX12_rower_67 : decode cX12_rower 67 = .ok (.getfield 23, 3) := by decide +kernel
theorem dX12_rower_70 : decode cX12_rower 70 = .ok (.aload_n 0, 1) := by decide +kernel
theorem dX12_rower_71 : decode cX12_rower 71 = .ok (.getfield 122, 3) := by decide +kernel
theorem dX12_rower_74 : decode cX12_rower 74 = .ok (.iload_n 1, 1) := by decide +kernel
theorem dX12_rower_75 : decode cX12_rower 75 = .ok (.iastore, 1) := by decide +kernel
theorem dX12_rower_76 : decode cX12_rower 76 = .ok (.aload_n 0, 1) := by decide +kernel
theorem dX12_rower_77 : decode cX12_rower 77 = .ok (.getfield 26, 3) := by decide +kernel
theorem dX12_rower_80 : decode cX12_rower 80 = .ok (.aload_n 0, 1) := by decide +kernel
theorem dX12_rower_81 : decode cX12_rower 81 = .ok (.getfield 122, 3) := by decide +kernel
theorem dX12_rower_84 : decode cX12_rower 84 = .ok (.iload_n 2, 1) := by decide +kernel
theorem dX12_rower_85 : decode cX12_rower 85 = .ok (.iastore, 1) := by decide +kernel
theorem dX12_rower_86 : decode cX12_rower 86 = .ok (.aload_n 0, 1) := by decide +kernel
theorem dX12_rower_87 : decode cX12_rower 87 = .ok (.getfield 29, 3) := by decide +kernel
theorem dX12_rower_90 : decode cX12_rower 90 = .ok (.aload_n 0, 1) := by decide +kernel
theorem dX12_rower_91 : decode cX12_rower 91 = .ok (.getfield 122, 3) := by decide +kernel
theorem dX12_rower_94 : decode cX12_rower 94 = .ok (.iload_n 3, 1) := by decide +kernel
theorem dX12_rower_95 : decode cX12_rower 95 = .ok (.iastore, 1) := by decide +kernel
theorem dX12_rower_96 : decode cX12_rower 96 = .ok (.aload_n 0, 1) := by decide +kernel
theorem dX12_rower_97 : decode cX12_rower 97 = .ok (.getfield 32, 3) := by decide +kernel
theorem dX12_rower_100 : decode cX12_rower 100 = .ok (.aload_n 0, 1) := by decide +kernel
theorem dX12_rower_101 : decode cX12_rower 101 = .ok (.getfield 122, 3) := by decide +kernel
theorem dX12_rower_104 : decode cX12_rower 104 = .ok (.iload 4, 2) := by decide +kernel
theorem dX12_rower_106 : decode cX12_rower 106 = .ok (.iastore, 1) := by decide +kernel
theorem dX12_rower_107 : decode cX12_rower 107 = .ok (.aload_n 0, 1) := by decide +kernel
theorem dX12_rower_108 : decode cX12_rower 108 = .ok (.dup, 1) := by decide +kernel
theorem dX12_rower_109 : decode cX12_rower 109 = .ok (.getfield 122, 3) := by decide +kernel
theorem dX12_rower_112 : decode cX12_rower 112 = .ok (.iconst 1, 1) := by decide +kernel
theorem dX12_rower_113 : decode cX12_rower 113 = .ok (.iadd, 1) := by decide +kernel
theorem dX12_rower_114 : decode cX12_rower 114 = .ok (.putfield 122, 3) := by decide +kernel
theorem dX12_rower_117 : decode cX12_rower 117 = .ok (.aload_n 0, 1) := by decide +kernel
theorem dX12_rower_118 : decode cX12_rower 118 = .ok (.getfield 122, 3) := by decide +kernel
theorem dX12_rower_121 : decode cX12_rower 121 = .ok (.iconst 1, 1) := by decide +kernel
theorem dX12_rower_122 : decode cX12_rower 122 = .ok (.isub, 1) := by decide +kernel
theorem dX12_rower_123 : decode cX12_rower 123 = .ok (.ireturn, 1) := by decide +kernel
theorem dX12_seatOf_0 : decode cX12_seatOf 0 = .ok (.iconst 0, 1) := by decide +kernel
theorem dX12_seatOf_1 : decode cX12_seatOf 1 = .ok (.istore_n 2, 1) := by decide +kernel
theorem dX12_seatOf_2 : decode cX12_seatOf 2 = .ok (.iload_n 2, 1) := by decide +kernel
theorem dX12_seatOf_3 : decode cX12_seatOf 3 = .ok (.bipush 8, 2) := by decide +kernel
theorem dX12_seatOf_5 : decode cX12_seatOf 5 = .ok (.if_icmp .ge 21, 3) := by decide +kernel
theorem dX12_seatOf_8 : decode cX12_seatOf 8 = .ok (.aload_n 0, 1) := by decide +kernel
theorem dX12_seatOf_9 : decode cX12_seatOf 9 = .ok (.getfield 35, 3) := by decide +kernel
theorem dX12_seatOf_12 : decode cX12_seatOf 12 = .ok (.iload_n 2, 1) := by decide +kernel
theorem dX12_seatOf_13 : decode cX12_seatOf 13 = .ok (.iaload, 1) := by decide +kernel
theorem dX12_seatOf_14 : decode cX12_seatOf 14 = .ok (.iload_n 1, 1) := by decide +kernel
theorem dX12_seatOf_15 : decode cX12_seatOf 15 = .ok (.if_icmp .ne 5, 3) := by decide +kernel
theorem dX12_seatOf_18 : decode cX12_seatOf 18 = .ok (.iload_n 2, 1) := by decide +kernel
theorem dX12_seatOf_19 : decode cX12_seatOf 19 = .ok (.ireturn, 1) := by decide +kernel
theorem dX12_seatOf_20 : decode cX12_seatOf 20 = .ok (.iinc 2 1, 3) := by decide +kernel
theorem dX12_seatOf_23 : decode cX12_seatOf 23 = .ok (.goto (-21), 3) := by decide +kernel
theorem dX12_seatOf_26 : decode cX12_seatOf 26 = .ok (.iconst (-1), 1) := by decide +kernel
theorem dX12_seatOf_27 : decode cX12_seatOf 27 = .ok (.ireturn, 1) := by decide +kernel
theorem dX12_rowerTold_0 : decode cX12_rowerTold 0 = .ok (.aload_n 0, 1) := by decide +kernel
theorem dX12_rowerTold_1 : decode cX12_rowerTold 1 = .ok (.iload_n 1, 1) := by decide +kernel
theorem dX12_rowerTold_2 : decode cX12_rowerTold 2 = .ok (.invokevirtual 139, 3) := by decide +kernel
theorem dX12_rowerTold_5 : decode cX12_rowerTold 5 = .ok (.ifCond .ne 6, 3) := by decide +kernel
theorem dX12_rowerTold_8 : decode cX12_rowerTold 8 = .ok (.bipush (-5), 2) := by decide +kernel
theorem dX12_rowerTold_10 : decode cX12_rowerTold 10 = .ok (.ireturn, 1) := by decide +kernel
theorem dX12_rowerTold_11 : decode cX12_rowerTold 11 = .ok (.iload_n 2, 1) := by decide +kernel
theorem dX12_rowerTold_12 : decode cX12_rowerTold 12 = .ok (.tableswitch 70 0 4 #[36, 43, 50, 57, 64], 36) := by decide +kernel
theorem dX12_rowerTold_48 : decode cX12_rowerTold 48 = .ok (.aload_n 0, 1) := by decide +kernel
theorem dX12_rowerTold_49 : decode cX12_rowerTold 49 = .ok (.getfield 23, 3) := by decide +kernel
theorem dX12_rowerTold_52 : decode cX12_rowerTold 52 = .ok (.iload_n 1, 1) := by decide +kernel
theorem dX12_rowerTold_53 : decode cX12_rowerTold 53 = .ok (.iaload, 1) := by decide +kernel
theorem dX12_rowerTold_54 : decode cX12_rowerTold 54 = .ok (.ireturn, 1) := by decide +kernel
theorem dX12_rowerTold_55 : decode cX12_rowerTold 55 = .ok (.aload_n 0, 1) := by decide +kernel
theorem dX12_rowerTold_56 : decode cX12_rowerTold 56 = .ok (.getfield 26, 3) := by decide +kernel
theorem dX12_rowerTold_59 : decode cX12_rowerTold 59 = .ok (.iload_n 1, 1) := by decide +kernel
theorem dX12_rowerTold_60 : decode cX12_rowerTold 60 = .ok (.iaload, 1) := by decide +kernel
theorem dX12_rowerTold_61 : decode cX12_rowerTold 61 = .ok (.ireturn, 1) := by decide +kernel
theorem dX12_rowerTold_62 : decode cX12_rowerTold 62 = .ok (.aload_n 0, 1) := by decide +kernel
theorem dX12_rowerTold_63 : decode cX12_rowerTold 63 = .ok (.getfield 29, 3) := by decide +kernel
theorem dX12_rowerTold_66 : decode cX12_rowerTold 66 = .ok (.iload_n 1, 1) := by decide +kernel
theorem dX12_rowerTold_67 : decode cX12_rowerTold 67 = .ok (.iaload, 1) := by decide +kernel
theorem dX12_rowerTold_68 : decode cX12_rowerTold 68 = .ok (.ireturn, 1) := by decide +kernel
theorem dX12_rowerTold_69 : decode cX12_rowerTold 69 = .ok (.aload_n 0, 1) := by decide +kernel
theorem dX12_rowerTold_70 : decode cX12_rowerTold 70 = .ok (.getfield 32, 3) := by decide +kernel
theorem dX12_rowerTold_73 : decode cX12_rowerTold 73 = .ok (.iload_n 1, 1) := by decide +kernel
theorem dX12_rowerTold_74 : decode cX12_rowerTold 74 = .ok (.iaload, 1) := by decide +kernel
theorem dX12_rowerTold_75 : decode cX12_rowerTold 75 = .ok (.ireturn, 1) := by decide +kernel
theorem dX12_rowerTold_76 : decode cX12_rowerTold 76 = .ok (.aload_n 0, 1) := by decide +kernel
theorem dX12_rowerTold_77 : decode cX12_rowerTold 77 = .ok (.iload_n 1, 1) := by decide +kernel
theorem dX12_rowerTold_78 : decode cX12_rowerTold 78 = .ok (.invokevirtual 143, 3) := by decide +kernel
theorem dX12_rowerTold_81 : decode cX12_rowerTold 81 = .ok (.ireturn, 1) := by decide +kernel
theorem dX12_rowerTold_82 : decode cX12_rowerTold 82 = .ok (.bipush (-5), 2) := by decide +kernel
theorem dX12_rowerTold_84 : decode cX12_rowerTold 84 = .ok (.ireturn, 1) := by decide +kernel
theorem dX12_sit_0 : decode cX12_sit 0 = .ok (.iload_n 1, 1) := by decide +kernel
theorem dX12_sit_1 : decode cX12_sit 1 = .ok (.invokestatic 147, 3) := by decide +kernel
theorem dX12_sit_4 : decode cX12_sit 4 = .ok (.ifCond .eq 16, 3) := by decide +kernel
theorem dX12_sit_7 : decode cX12_sit 7 = .ok (.iload_n 2, 1) := by decide +kernel
theorem dX12_sit_8 : decode cX12_sit 8 = .ok (.iconst (-1), 1) := by decide +kernel
theorem dX12_sit_9 : decode cX12_sit 9 = .ok (.if_icmp .eq 14, 3) := by decide +kernel
theorem dX12_sit_12 : decode cX12_sit 12 = .ok (.aload_n 0, 1) := by decide +kernel
theorem dX12_sit_13 : decode cX12_sit 13 = .ok (.iload_n 2, 1) := by decide +kernel
theorem dX12_sit_14 : decode cX12_sit 14 = .ok (.invokevirtual 139, 3) := by decide +kernel
theorem dX12_sit_17 : decode cX12_sit 17 = .ok (.ifCond .ne 6, 3) := by decide +kernel
theorem dX12_sit_20 : decode cX12_sit 20 = .ok (.bipush (-5), 2) := by decide +kernel
theorem dX12_sit_22 : decode cX12_sit 22 = .ok (.ireturn, 1) := by decide +kernel
theorem dX12_sit_23 : decode cX12_sit 23 = .ok (.aload_n 0, 1) := by decide +kernel
theorem dX12_sit_24 : decode cX12_sit 24 = .ok (.getfield 35, 3) := by decide +kernel
theorem dX12_sit_27 : decode cX12_sit 27 = .ok (.iload_n 1, 1) := by decide +kernel
theorem dX12_sit_28 : decode cX12_sit 28 = .ok (.iaload, 1) := by decide +kernel
theorem dX12_sit_29 : decode cX12_sit 29 = .ok (.istore_n 3, 1) := by decide +kernel
theorem dX12_sit_30 : decode cX12_sit 30 = .ok (.iload_n 2, 1) := by decide +kernel
theorem dX12_sit_31 : decode cX12_sit 31 = .ok (.iconst (-1), 1) := by decide +kernel
theorem dX12_sit_32 : decode cX12_sit 32 = .ok (.if_icmp .ne 7, 3) := by decide +kernel
theorem dX12_sit_35 : decode cX12_sit 35 = .ok (.iconst (-1), 1) := by decide +kernel
theorem dX12_sit_36 : decode cX12_sit 36 = .ok (.goto 8, 3) := by decide +kernel
theorem dX12_sit_39 : decode cX12_sit 39 = .ok (.aload_n 0, 1) := by decide +kernel
theorem dX12_sit_40 : decode cX12_sit 40 = .ok (.iload_n 2, 1) := by decide +kernel
theorem dX12_sit_41 : decode cX12_sit 41 = .ok (.invokevirtual 143, 3) := by decide +kernel
theorem dX12_sit_44 : decode cX12_sit 44 = .ok (.istore 4, 2) := by decide +kernel
theorem dX12_sit_46 : decode cX12_sit 46 = .ok (.iload 4, 2) := by decide +kernel
theorem dX12_sit_48 : decode cX12_sit 48 = .ok (.iconst (-1), 1) := by decide +kernel
theorem dX12_sit_49 : decode cX12_sit 49 = .ok (.if_icmp .eq 11, 3) := by decide +kernel
theorem dX12_sit_52 : decode cX12_sit 52 = .ok (.aload_n 0, 1) := by decide +kernel
theorem dX12_sit_53 : decode cX12_sit 53 = .ok (.getfield 35, 3) := by decide +kernel
theorem dX12_sit_56 : decode cX12_sit 56 = .ok (.iload 4, 2) := by decide +kernel
theorem dX12_sit_58 : decode cX12_sit 58 = .ok (.iconst (-1), 1) := by decide +kernel
theorem dX12_sit_59 : decode cX12_sit 59 = .ok (.iastore, 1) := by decide +kernel
theorem dX12_sit_60 : decode cX12_sit 60 = .ok (.aload_n 0, 1) := by decide +kernel
theorem dX12_sit_61 : decode cX12_sit 61 = .ok (.getfield 35, 3) := by decide +kernel
theorem dX12_sit_64 : decode cX12_sit 64 = .ok (.iload_n 1, 1) := by decide +kernel
theorem dX12_sit_65 : decode cX12_sit 65 = .ok (.iload_n 2, 1) := by decide +kernel
theorem dX12_sit_66 : decode cX12_sit 66 = .ok (.iastore, 1) := by decide +kernel
theorem dX12_sit_67 : decode cX12_sit 67 = .ok (.iload_n 3, 1) := by decide +kernel
theorem dX12_sit_68 : decode cX12_sit 68 = .ok (.ireturn, 1) := by decide +kernel
theorem dX12_rig_0 : decode cX12_rig 0 = .ok (.iload_n 1, 1) := by decide +kernel
theorem dX12_rig_1 : decode cX12_rig 1 = .ok (.invokestatic 147, 3) := by decide +kernel
theorem dX12_rig_4 : decode cX12_rig 4 = .ok (.ifCond .eq 34, 3) := by decide +kernel
theorem dX12_rig_7 : decode cX12_rig 7 = .ok (.iload_n 2, 1) := by decide +kernel
theorem dX12_rig_8 : decode cX12_rig 8 = .ok (.i2l, 1) := by decide +kernel
theorem dX12_rig_9 : decode cX12_rig 9 = .ok (.lconst 0, 1) := by decide +kernel
theorem dX12_rig_10 : decode cX12_rig 10 = .ok (.lconst 1, 1) := by decide +kernel
theorem dX12_rig_11 : decode cX12_rig 11 = .ok (.invokestatic 125, 3) := by decide +kernel
theorem dX12_rig_14 : decode cX12_rig 14 = .ok (.ifCond .eq 24, 3) := by decide +kernel
theorem dX12_rig_17 : decode cX12_rig 17 = .ok (.iload_n 3, 1) := by decide +kernel
theorem dX12_rig_18 : decode cX12_rig 18 = .ok (.i2l, 1) := by decide +kernel
theorem dX12_rig_19 : decode cX12_rig 19 = .ok (.iload_n 2, 1) := by decide +kernel
theorem dX12_rig_20 : decode cX12_rig 20 = .ok (.i2l, 1) := by decide +kernel
theorem dX12_rig_21 : decode cX12_rig 21 = .ok (.iload_n 2, 1) := by decide +kernel
theorem dX12_rig_22 : decode cX12_rig 22 = .ok (.ifCond .ne 7, 3) := by decide +kernel
theorem dX12_rig_25 : decode cX12_rig 25 = .ok (.lconst 1, 1) := by decide +kernel
theorem dX12_rig_26 : decode cX12_rig 26 = .ok (.goto 6, 3) := by decide +kernel
theorem dX12_rig_29 : decode cX12_rig 29 = .ok (.ldc2_w 150, 3) := by decide +kernel
theorem dX12_rig_32 : decode cX12_rig 32 = .ok (.invokestatic 125, 3) := by decide +kernel
theorem dX12_rig_35 : decode cX12_rig 35 = .ok (.ifCond .ne 6, 3) := by decide +kernel
theorem dX12_rig_38 : decode cX12_rig 38 = .ok (.bipush (-2), 2) := by decide +kernel
theorem dX12_rig_40 : decode cX12_rig 40 = .ok (.ireturn, 1) := by decide +kernel
theorem dX12_rig_41 : decode cX12_rig 41 = .ok (.iload_n 2, 1) := by decide +kernel
theorem dX12_rig_42 : decode cX12_rig 42 = .ok (.ifCond .ne 12, 3) := by decide +kernel
theorem dX12_rig_45 : decode cX12_rig 45 = .ok (.aload_n 0, 1) := by decide +kernel
theorem dX12_rig_46 : decode cX12_rig 46 = .ok (.getfield 38, 3) := by decide +kernel
theorem dX12_rig_49 : decode cX12_rig 49 = .ok (.iload_n 1, 1) := by decide +kernel
theorem dX12_rig_50 : decode cX12_rig 50 = .ok (.iaload, 1) := by decide +kernel
theorem dX12_rig_51 : decode cX12_rig 51 = .ok (.goto 9, 3) := by decide +kernel
theorem dX12_rig_54 : decode cX12_rig 54 = .ok (.aload_n 0, 1) := by decide +kernel
theorem dX12_rig_55 : decode cX12_rig 55 = .ok (.getfield 41, 3) := by decide +kernel
theorem dX12_rig_58 : decode cX12_rig 58 = .ok (.iload_n 1, 1) := by decide +kernel
theorem dX12_rig_59 : decode cX12_rig 59 = .ok (.iaload, 1) := by decide +kernel
theorem dX12_rig_60 : decode cX12_rig 60 = .ok (.istore 4, 2) := by decide +kernel
theorem dX12_rig_62 : decode cX12_rig 62 = .ok (.iload_n 2, 1) := by decide +kernel
theorem dX12_rig_63 : decode cX12_rig 63 = .ok (.ifCond .ne 13, 3) := by decide +kernel
theorem dX12_rig_66 : decode cX12_rig 66 = .ok (.aload_n 0, 1) := by decide +kernel
theorem dX12_rig_67 : decode cX12_rig 67 = .ok (.getfield 38, 3) := by decide +kernel
theorem dX12_rig_70 : decode cX12_rig 70 = .ok (.iload_n 1, 1) := by decide +kernel
theorem dX12_rig_71 : decode cX12_rig 71 = .ok (.iload_n 3, 1) := by decide +kernel
theorem dX12_rig_72 : decode cX12_rig 72 = .ok (.iastore, 1) := by decide +kernel
theorem dX12_rig_73 : decode cX12_rig 73 = .ok (.goto 10, 3) := by decide +kernel
theorem dX12_rig_76 : decode cX12_rig 76 = .ok (.aload_n 0, 1) := by decide +kernel
theorem dX12_rig_77 : decode cX12_rig 77 = .ok (.getfield 41, 3) := by decide +kernel
theorem dX12_rig_80 : decode cX12_rig 80 = .ok (.iload_n 1, 1) := by decide +kernel
theorem dX12_rig_81 : decode cX12_rig 81 = .ok (.iload_n 3, 1) := by decide +kernel
theorem dX12_rig_82 : decode cX12_rig 82 = .ok (.iastore, 1) := by decide +kernel
theorem dX12_rig_83 : decode cX12_rig 83 = .ok (.iload 4, 2) := by decide +kernel
theorem dX12_rig_85 : decode cX12_rig 85 = .ok (.ireturn, 1) := by decide +kernel
theorem dX12_water_0 : decode cX12_water 0 = .ok (.iload_n 1, 1) := by decide +kernel
theorem dX12_water_1 : decode cX12_water 1 = .ok (.i2l, 1) := by decide +kernel
theorem dX12_water_2 : decode cX12_water 2 = .ok (.lconst 0, 1) := by decide +kernel
theorem dX12_water_3 : decode cX12_water 3 = .ok (.lconst 1, 1) := by decide +kernel
theorem dX12_water_4 : decode cX12_water 4 = .ok (.invokestatic 125, 3) := by decide +kernel
theorem dX12_water_7 : decode cX12_water 7 = .ok (.ifCond .eq 35, 3) := by decide +kernel
theorem dX12_water_10 : decode cX12_water 10 = .ok (.iload_n 2, 1) := by decide +kernel
theorem dX12_water_11 : decode cX12_water 11 = .ok (.i2l, 1) := by decide +kernel
theorem dX12_water_12 : decode cX12_water 12 = .ok (.iload_n 1, 1) := by decide +kernel
theorem dX12_water_13 : decode cX12_water 13 = .ok (.ifCond .ne 7, 3) := by decide +kernel
theorem dX12_water_16 : decode cX12_water 16 = .ok (.lconst 1, 1) := by decide +kernel
theorem dX12_water_17 : decode cX12_water 17 = .ok (.goto 6, 3) := by decide +kernel
theorem dX12_water_20 : decode cX12_water 20 = .ok (.ldc2_w 152, 3) := by decide +kernel
theorem dX12_water_23 : decode cX12_water 23 = .ok (.iload_n 1, 1) := by decide +kernel
theorem dX12_water_24 : decode cX12_water 24 = .ok (.ifCond .ne 9, 3) := by decide +kernel
theorem dX12_water_27 : decode cX12_water 27 = .ok (.ldc2_w 154, 3) := by decide +kernel
theorem dX12_water_30 : decode cX12_water 30 = .ok (.goto 6, 3) := by decide +kernel
theorem dX12_water_33 : decode cX12_water 33 = .ok (.ldc2_w 135, 3) := by decide +kernel
theorem dX12_water_36 : decode cX12_water 36 = .ok (.invokestatic 125, 3) := by decide +kernel
theorem dX12_water_39 : decode cX12_water 39 = .ok (.ifCond .ne 7, 3) := by decide +kernel
theorem dX12_water_42 : decode cX12_water 42 = .ok (.sipush (-1000), 3) := by decide +kernel
theorem dX12_water_45 : decode cX12_water 45 = .ok (.ireturn, 1) := by decide +kernel
theorem dX12_water_46 : decode cX12_water 46 = .ok (.iload_n 1, 1) := by decide +kernel
theorem dX12_water_47 : decode cX12_water 47 = .ok (.ifCond .ne 10, 3) := by decide +kernel
theorem dX12_water_50 : decode cX12_water 50 = .ok (.aload_n 0, 1) := by decide +kernel
theorem dX12_water_51 : decode cX12_water 51 = .ok (.getfield 117, 3) := by decide +kernel
theorem dX12_water_54 : decode cX12_water 54 = .ok (.goto 7, 3) := by decide +kernel
theorem dX12_water_57 : decode cX12_water 57 = .ok (.aload_n 0, 1) := by decide +kernel
theorem dX12_water_58 : decode cX12_water 58 = .ok (.getfield 156, 3) := by decide +kernel
theorem dX12_water_61 : decode cX12_water 61 = .ok (.istore_n 3, 1) := by decide +kernel
theorem dX12_water_62 : decode cX12_water 62 = .ok (.iload_n 1, 1) := by decide +kernel
theorem dX12_water_63 : decode cX12_water 63 = .ok (.ifCond .ne 11, 3) := by decide +kernel
theorem dX12_water_66 : decode cX12_water 66 = .ok (.aload_n 0, 1) := by decide +kernel
theorem dX12_water_67 : decode cX12_water 67 = .ok (.iload_n 2, 1) := by decide +kernel
theorem dX12_water_68 : decode cX12_water 68 = .ok (.putfield 117, 3) := by decide +kernel
theorem dX12_water_71 : decode cX12_water 71 = .ok (.goto 8, 3) := by decide +kernel
theorem dX12_water_74 : decode cX12_water 74 = .ok (.aload_n 0, 1) := by decide +kernel
theorem dX12_water_75 : decode cX12_water 75 = .ok (.iload_n 2, 1) := by decide +kernel
theorem dX12_water_76 : decode cX12_water 76 = .ok (.putfield 156, 3) := by decide +kernel
theorem dX12_water_79 : decode cX12_water 79 = .ok (.iload_n 3, 1) := by decide +kernel
theorem dX12_water_80 : decode cX12_water 80 = .ok (.ireturn, 1) := by decide +kernel
theorem dX12_pullOf_0 : decode cX12_pullOf 0 = .ok (.iload_n 2, 1) := by decide +kernel
theorem dX12_pullOf_1 : decode cX12_pullOf 1 = .ok (.ifCond .ne 9, 3) := by decide +kernel
theorem dX12_pullOf_4 : decode cX12_pullOf 4 = .ok (.iload_n 1, 1) := by decide +kernel
theorem dX12_pullOf_5 : decode cX12_pullOf 5 = .ok (.iconst 2, 1) := by decide +kernel
theorem dX12_pullOf_6 : decode cX12_pullOf 6 = .ok (.idiv, 1) := by decide +kernel
theorem dX12_pullOf_7 : decode cX12_pullOf 7 = .ok (.goto 4, 3) := by decide +kernel
theorem dX12_pullOf_10 : decode cX12_pullOf 10 = .ok (.iload_n 1, 1) := by decide +kernel
theorem dX12_pullOf_11 : decode cX12_pullOf 11 = .ok (.istore_n 3, 1) := by decide +kernel
theorem dX12_pullOf_12 : decode cX12_pullOf 12 = .ok (.iload_n 0, 1) := by decide +kernel
theorem dX12_pullOf_13 : decode cX12_pullOf 13 = .ok (.tableswitch 70 1 5 #[35, 41, 47, 49, 62], 35) := by decide +kernel
theorem dX12_pullOf_48 : decode cX12_pullOf 48 = .ok (.iconst 2, 1) := by decide +kernel
theorem dX12_pullOf_49 : decode cX12_pullOf 49 = .ok (.iload_n 1, 1) := by decide +kernel
theorem dX12_pullOf_50 : decode cX12_pullOf 50 = .ok (.imul, 1) := by decide +kernel
theorem dX12_pullOf_51 : decode cX12_pullOf 51 = .ok (.iconst 3, 1) := by decide +kernel
theorem dX12_pullOf_52 : decode cX12_pullOf 52 = .ok (.idiv, 1) := by decide +kernel
theorem dX12_pullOf_53 : decode cX12_pullOf 53 = .ok (.ireturn, 1) := by decide +kernel
theorem dX12_pullOf_54 : decode cX12_pullOf 54 = .ok (.iload_n 1, 1) := by decide +kernel
theorem dX12_pullOf_55 : decode cX12_pullOf 55 = .ok (.iload_n 1, 1) := by decide +kernel
theorem dX12_pullOf_56 : decode cX12_pullOf 56 = .ok (.iconst 4, 1) := by decide +kernel
theorem dX12_pullOf_57 : decode cX12_pullOf 57 = .ok (.idiv, 1) := by decide +kernel
theorem dX12_pullOf_58 : decode cX12_pullOf 58 = .ok (.iadd, 1) := by decide +kernel
theorem dX12_pullOf_59 : decode cX12_pullOf 59 = .ok (.ireturn, 1) := by decide +kernel
theorem dX12_pullOf_60 : decode cX12_pullOf 60 = .ok (.iload_n 3, 1) := by decide +kernel
theorem dX12_pullOf_61 : decode cX12_pullOf 61 = .ok (.ireturn, 1) := by decide +kernel
theorem dX12_pullOf_62 : decode cX12_pullOf 62 = .ok (.iload_n 3, 1) := by decide +kernel
theorem dX12_pullOf_63 : decode cX12_pullOf 63 = .ok (.iconst 3, 1) := by decide +kernel
theorem dX12_pullOf_64 : decode cX12_pullOf 64 = .ok (.if_icmp .le 9, 3) := by decide +kernel
theorem dX12_pullOf_67 : decode cX12_pullOf 67 = .ok (.iload_n 3, 1) := by decide +kernel
theorem dX12_pullOf_68 : decode cX12_pullOf 68 = .ok (.iconst 3, 1) := by decide +kernel
theorem dX12_pullOf_69 : decode cX12_pullOf 69 = .ok (.isub, 1) := by decide +kernel
theorem dX12_pullOf_70 : decode cX12_pullOf 70 = .ok (.goto 4, 3) := by decide +kernel
theorem dX12_pullOf_73 : decode cX12_pullOf 73 = .ok (.iconst 0, 1) := by decide +kernel
theorem dX12_pullOf_74 : decode cX12_pullOf 74 = .ok (.ireturn, 1) := by decide +kernel
theorem dX12_pullOf_75 : decode cX12_pullOf 75 = .ok (.iconst 2, 1) := by decide +kernel
theorem dX12_pullOf_76 : decode cX12_pullOf 76 = .ok (.iload_n 1, 1) := by decide +kernel
theorem dX12_pullOf_77 : decode cX12_pullOf 77 = .ok (.imul, 1) := by decide +kernel
theorem dX12_pullOf_78 : decode cX12_pullOf 78 = .ok (.iconst 3, 1) := by decide +kernel
theorem dX12_pullOf_79 : decode cX12_pullOf 79 = .ok (.idiv, 1) := by decide +kernel
theorem dX12_pullOf_80 : decode cX12_pullOf 80 = .ok (.iconst 2, 1) := by decide +kernel
theorem dX12_pullOf_81 : decode cX12_pullOf 81 = .ok (.idiv, 1) := by decide +kernel
theorem dX12_pullOf_82 : decode cX12_pullOf 82 = .ok (.ireturn, 1) := by decide +kernel
theorem dX12_pullOf_83 : decode cX12_pullOf 83 = .ok (.iload_n 1, 1) := by decide +kernel
theorem dX12_pullOf_84 : decode cX12_pullOf 84 = .ok (.ireturn, 1) := by decide +kernel
theorem dX12_costOf_0 : decode cX12_costOf 0 = .ok (.iload_n 0, 1) := by decide +kernel
theorem dX12_costOf_1 : decode cX12_costOf 1 = .ok (.tableswitch 53 1 5 #[35, 39, 53, 43, 47], 35) := by decide +kernel
theorem dX12_costOf_36 : decode cX12_costOf 36 = .ok (.iload_n 1, 1) := by decide +kernel
theorem dX12_costOf_37 : decode cX12_costOf 37 = .ok (.iconst 5, 1) := by decide +kernel
theorem dX12_costOf_38 : decode cX12_costOf 38 = .ok (.iadd, 1) := by decide +kernel
theorem dX12_costOf_39 : decode cX12_costOf 39 = .ok (.ireturn, 1) := by decide +kernel
theorem dX12_costOf_40 : decode cX12_costOf 40 = .ok (.iconst 2, 1) := by decide +kernel
theorem dX12_costOf_41 : decode cX12_costOf 41 = .ok (.iload_n 1, 1) := by decide +kernel
theorem dX12_costOf_42 : decode cX12_costOf 42 = .ok (.imul, 1) := by decide +kernel
theorem dX12_costOf_43 : decode cX12_costOf 43 = .ok (.ireturn, 1) := by decide +kernel
theorem dX12_costOf_44 : decode cX12_costOf 44 = .ok (.iload_n 1, 1) := by decide +kernel
theorem dX12_costOf_45 : decode cX12_costOf 45 = .ok (.iconst 2, 1) := by decide +kernel
theorem dX12_costOf_46 : decode cX12_costOf 46 = .ok (.iadd, 1) := by decide +kernel
theorem dX12_costOf_47 : decode cX12_costOf 47 = .ok (.ireturn, 1) := by decide +kernel
theorem dX12_costOf_48 : decode cX12_costOf 48 = .ok (.iload_n 1, 1) := by decide +kernel
theorem dX12_costOf_49 : decode cX12_costOf 49 = .ok (.iconst 5, 1) := by decide +kernel
theorem dX12_costOf_50 : decode cX12_costOf 50 = .ok (.iadd, 1) := by decide +kernel
theorem dX12_costOf_51 : decode cX12_costOf 51 = .ok (.iconst 3, 1) := by decide +kernel
theorem dX12_costOf_52 : decode cX12_costOf 52 = .ok (.idiv, 1) := by decide +kernel
theorem dX12_costOf_53 : decode cX12_costOf 53 = .ok (.ireturn, 1) := by decide +kernel
theorem dX12_costOf_54 : decode cX12_costOf 54 = .ok (.iload_n 1, 1) := by decide +kernel
theorem dX12_costOf_55 : decode cX12_costOf 55 = .ok (.ireturn, 1) := by decide +kernel
theorem dX12_slipsOf_0 : decode cX12_slipsOf 0 = .ok (.iload_n 0, 1) := by decide +kernel
theorem dX12_slipsOf_1 : decode cX12_slipsOf 1 = .ok (.iconst 2, 1) := by decide +kernel
theorem dX12_slipsOf_2 : decode cX12_slipsOf 2 = .ok (.if_icmp .ne 7, 3) := by decide +kernel
theorem dX12_slipsOf_5 : decode cX12_slipsOf 5 = .ok (.iconst 1, 1) := by decide +kernel
theorem dX12_slipsOf_6 : decode cX12_slipsOf 6 = .ok (.goto 22, 3) := by decide +kernel
theorem dX12_slipsOf_9 : decode cX12_slipsOf 9 = .ok (.iload_n 0, 1) := by decide +kernel
theorem dX12_slipsOf_10 : decode cX12_slipsOf 10 = .ok (.iconst 3, 1) := by decide +kernel
theorem dX12_slipsOf_11 : decode cX12_slipsOf 11 = .ok (.if_icmp .ne 7, 3) := by decide +kernel
theorem dX12_slipsOf_14 : decode cX12_slipsOf 14 = .ok (.iconst 3, 1) := by decide +kernel
theorem dX12_slipsOf_15 : decode cX12_slipsOf 15 = .ok (.goto 13, 3) := by decide +kernel
theorem dX12_slipsOf_18 : decode cX12_slipsOf 18 = .ok (.iload_n 0, 1) := by decide +kernel
theorem dX12_slipsOf_19 : decode cX12_slipsOf 19 = .ok (.iconst 4, 1) := by decide +kernel
theorem dX12_slipsOf_20 : decode cX12_slipsOf 20 = .ok (.if_icmp .ne 7, 3) := by decide +kernel
theorem dX12_slipsOf_23 : decode cX12_slipsOf 23 = .ok (.iconst 5, 1) := by decide +kernel
theorem dX12_slipsOf_24 : decode cX12_slipsOf 24 = .ok (.goto 4, 3) := by decide +kernel
theorem dX12_slipsOf_27 : decode cX12_slipsOf 27 = .ok (.iconst 0, 1) := by decide +kernel
theorem dX12_slipsOf_28 : decode cX12_slipsOf 28 = .ok (.ireturn, 1) := by decide +kernel
theorem dX12_stroke_0 : decode cX12_stroke 0 = .ok (.iload_n 1, 1) := by decide +kernel
theorem dX12_stroke_1 : decode cX12_stroke 1 = .ok (.i2l, 1) := by decide +kernel
theorem dX12_stroke_2 : decode cX12_stroke 2 = .ok (.lconst 0, 1) := by decide +kernel
theorem dX12_stroke_3 : decode cX12_stroke 3 = .ok (.ldc2_w 159, 3) := by decide +kernel
theorem dX12_stroke_6 : decode cX12_stroke 6 = .ok (.invokestatic 125, 3) := by decide +kernel
theorem dX12_stroke_9 : decode cX12_stroke 9 = .ok (.ifCond .eq 35, 3) := by decide +kernel
theorem dX12_stroke_12 : decode cX12_stroke 12 = .ok (.iload_n 2, 1) := by decide +kernel
theorem dX12_stroke_13 : decode cX12_stroke 13 = .ok (.i2l, 1) := by decide +kernel
theorem dX12_stroke_14 : decode cX12_stroke 14 = .ok (.lconst 0, 1) := by decide +kernel
theorem dX12_stroke_15 : decode cX12_stroke 15 = .ok (.ldc2_w 154, 3) := by decide +kernel
theorem dX12_stroke_18 : decode cX12_stroke 18 = .ok (.invokestatic 125, 3) := by decide +kernel
theorem dX12_stroke_21 : decode cX12_stroke 21 = .ok (.ifCond .eq 23, 3) := by decide +kernel
theorem dX12_stroke_24 : decode cX12_stroke 24 = .ok (.iload_n 3, 1) := by decide +kernel
theorem dX12_stroke_25 : decode cX12_stroke 25 = .ok (.invokestatic 147, 3) := by decide +kernel
theorem dX12_stroke_28 : decode cX12_stroke 28 = .ok (.ifCond .eq 16, 3) := by decide +kernel
theorem dX12_stroke_31 : decode cX12_stroke 31 = .ok (.iload 4, 2) := by decide +kernel
theorem dX12_stroke_33 : decode cX12_stroke 33 = .ok (.i2l, 1) := by decide +kernel
theorem dX12_stroke_34 : decode cX12_stroke 34 = .ok (.lconst 0, 1) := by decide +kernel
theorem dX12_stroke_35 : decode cX12_stroke 35 = .ok (.ldc2_w 161, 3) := by decide +kernel
theorem dX12_stroke_38 : decode cX12_stroke 38 = .ok (.invokestatic 125, 3) := by decide +kernel
theorem dX12_stroke_41 : decode cX12_stroke 41 = .ok (.ifCond .ne 6, 3) := by decide +kernel
theorem dX12_stroke_44 : decode cX12_stroke 44 = .ok (.bipush (-2), 2) := by decide +kernel
theorem dX12_stroke_46 : decode cX12_stroke 46 = .ok (.ireturn, 1) := by decide +kernel
theorem dX12_stroke_47 : decode cX12_stroke 47 = .ok (.iload 4, 2) := by decide +kernel
theorem dX12_stroke_49 : decode cX12_stroke 49 = .ok (.ifCond .ne 12, 3) := by decide +kernel
theorem dX12_stroke_52 : decode cX12_stroke 52 = .ok (.iload_n 1, 1) := by decide +kernel
theorem dX12_stroke_53 : decode cX12_stroke 53 = .ok (.iload_n 2, 1) := by decide +kernel
theorem dX12_stroke_54 : decode cX12_stroke 54 = .ok (.iload_n 3, 1) := by decide +kernel
theorem dX12_stroke_55 : decode cX12_stroke 55 = .ok (.invokestatic 163, 3) := by decide +kernel
theorem dX12_stroke_58 : decode cX12_stroke 58 = .ok (.goto 21, 3) := by decide +kernel
theorem dX12_stroke_61 : decode cX12_stroke 61 = .ok (.iload 4, 2) := by decide +kernel
theorem dX12_stroke_63 : decode cX12_stroke 63 = .ok (.iconst 1, 1) := by decide +kernel
theorem dX12_stroke_64 : decode cX12_stroke 64 = .ok (.if_icmp .ne 11, 3) := by decide +kernel
theorem dX12_stroke_67 : decode cX12_stroke 67 = .ok (.iload_n 1, 1) := by decide +kernel
theorem dX12_stroke_68 : decode cX12_stroke 68 = .ok (.iload_n 2, 1) := by decide +kernel
theorem dX12_stroke_69 : decode cX12_stroke 69 = .ok (.invokestatic 167, 3) := by decide +kernel
theorem dX12_stroke_72 : decode cX12_stroke 72 = .ok (.goto 7, 3) := by decide +kernel
theorem dX12_stroke_75 : decode cX12_stroke 75 = .ok (.iload_n 1, 1) := by decide +kernel
theorem dX12_stroke_76 : decode cX12_stroke 76 = .ok (.invokestatic 171, 3) := by decide +kernel
theorem dX12_stroke_79 : decode cX12_stroke 79 = .ok (.ireturn, 1) := by decide +kernel
theorem dX12_feed_0 : decode cX12_feed 0 = .ok (.iload_n 1, 1) := by decide +kernel
theorem dX12_feed_1 : decode cX12_feed 1 = .ok (.i2l, 1) := by decide +kernel
theorem dX12_feed_2 : decode cX12_feed 2 = .ok (.lconst 1, 1) := by decide +kernel
theorem dX12_feed_3 : decode cX12_feed 3 = .ok (.ldc2_w 174, 3) := by decide +kernel
theorem dX12_feed_6 : decode cX12_feed 6 = .ok (.invokestatic 125, 3) := by decide +kernel
theorem dX12_feed_9 : decode cX12_feed 9 = .ok (.ifCond .ne 6, 3) := by decide +kernel
theorem dX12_feed_12 : decode cX12_feed 12 = .ok (.bipush (-2), 2) := by decide +kernel
theorem dX12_feed_14 : decode cX12_feed 14 = .ok (.ireturn, 1) := by decide +kernel
theorem dX12_feed_15 : decode cX12_feed 15 = .ok (.aload_n 0, 1) := by decide +kernel
theorem dX12_feed_16 : decode cX12_feed 16 = .ok (.getfield 176, 3) := by decide +kernel
theorem dX12_feed_19 : decode cX12_feed 19 = .ok (.iload_n 1, 1) := by decide +kernel
theorem dX12_feed_20 : decode cX12_feed 20 = .ok (.iadd, 1) := by decide +kernel
theorem dX12_feed_21 : decode cX12_feed 21 = .ok (.sipush 160, 3) := by decide +kernel
theorem dX12_feed_24 : decode cX12_feed 24 = .ok (.if_icmp .le 6, 3) := by decide +kernel
theorem dX12_feed_27 : decode cX12_feed 27 = .ok (.bipush (-4), 2) := by decide +kernel
theorem dX12_feed_29 : decode cX12_feed 29 = .ok (.ireturn, 1) := by decide +kernel
theorem dX12_feed_30 : decode cX12_feed 30 = .ok (.iconst 0, 1) := by decide +kernel
theorem dX12_feed_31 : decode cX12_feed 31 = .ok (.istore 4, 2) := by decide +kernel
theorem dX12_feed_33 : decode cX12_feed 33 = .ok (.iload 4, 2) := by decide +kernel
theorem dX12_feed_35 : decode cX12_feed 35 = .ok (.iload_n 1, 1) := by decide +kernel
theorem dX12_feed_36 : decode cX12_feed 36 = .ok (.if_icmp .ge 40, 3) := by decide +kernel
theorem dX12_feed_39 : decode cX12_feed 39 = .ok (.aload_n 0, 1) := by decide +kernel
theorem dX12_feed_40 : decode cX12_feed 40 = .ok (.getfield 20, 3) := by decide +kernel
theorem dX12_feed_43 : decode cX12_feed 43 = .ok (.aload_n 0, 1) := by decide +kernel
theorem dX12_feed_44 : decode cX12_feed 44 = .ok (.getfield 176, 3) := by decide +kernel
theorem dX12_feed_47 : decode cX12_feed 47 = .ok (.lload_n 2, 1) := by decide +kernel
theorem dX12_feed_48 : decode cX12_feed 48 = .ok (.bipush 8, 2) := by decide +kernel
theorem dX12_feed_50 : decode cX12_feed 50 = .ok (.iload 4, 2) := by decide +kernel
theorem dX12_feed_52 : decode cX12_feed 52 = .ok (.imul, 1) := by decide +kernel
theorem dX12_feed_53 : decode cX12_feed 53 = .ok (.lshr, 1) := by decide +kernel
theorem dX12_feed_54 : decode cX12_feed 54 = .ok (.ldc2_w 120, 3) := by decide +kernel
theorem dX12_feed_57 : decode cX12_feed 57 = .ok (.land, 1) := by decide +kernel
theorem dX12_feed_58 : decode cX12_feed 58 = .ok (.l2i, 1) := by decide +kernel
theorem dX12_feed_59 : decode cX12_feed 59 = .ok (.iastore, 1) := by decide +kernel
theorem dX12_feed_60 : decode cX12_feed 60 = .ok (.aload_n 0, 1) := by decide +kernel
theorem dX12_feed_61 : decode cX12_feed 61 = .ok (.dup, 1) := by decide +kernel
theorem dX12_feed_62 : decode cX12_feed 62 = .ok (.getfield 176, 3) := by decide +kernel
theorem dX12_feed_65 : decode cX12_feed 65 = .ok (.iconst 1, 1) := by decide +kernel
theorem dX12_feed_66 : decode cX12_feed 66 = .ok (.iadd, 1) := by decide +kernel
theorem dX12_feed_67 : decode cX12_feed 67 = .ok (.putfield 176, 3) := by decide +kernel
theorem dX12_feed_70 : decode cX12_feed 70 = .ok (.iinc 4 1, 3) := by decide +kernel
theorem dX12_feed_73 : decode cX12_feed 73 = .ok (.goto (-40), 3) := by decide +kernel
theorem dX12_feed_76 : decode cX12_feed 76 = .ok (.aload_n 0, 1) := by decide +kernel
theorem dX12_feed_77 : decode cX12_feed 77 = .ok (.getfield 176, 3) := by decide +kernel
theorem dX12_feed_80 : decode cX12_feed 80 = .ok (.ireturn, 1) := by decide +kernel
theorem dX12_byteAt_0 : decode cX12_byteAt 0 = .ok (.iload_n 1, 1) := by decide +kernel
theorem dX12_byteAt_1 : decode cX12_byteAt 1 = .ok (.aload_n 0, 1) := by decide +kernel
theorem dX12_byteAt_2 : decode cX12_byteAt 2 = .ok (.getfield 179, 3) := by decide +kernel
theorem dX12_byteAt_5 : decode cX12_byteAt 5 = .ok (.if_icmp .ge 17, 3) := by decide +kernel
theorem dX12_byteAt_8 : decode cX12_byteAt 8 = .ok (.aload_n 0, 1) := by decide +kernel
theorem dX12_byteAt_9 : decode cX12_byteAt 9 = .ok (.getfield 13, 3) := by decide +kernel
theorem dX12_byteAt_12 : decode cX12_byteAt 12 = .ok (.aload_n 0, 1) := by decide +kernel
theorem dX12_byteAt_13 : decode cX12_byteAt 13 = .ok (.getfield 182, 3) := by decide +kernel
theorem dX12_byteAt_16 : decode cX12_byteAt 16 = .ok (.iload_n 1, 1) := by decide +kernel
theorem dX12_byteAt_17 : decode cX12_byteAt 17 = .ok (.iadd, 1) := by decide +kernel
theorem dX12_byteAt_18 : decode cX12_byteAt 18 = .ok (.iaload, 1) := by decide +kernel
theorem dX12_byteAt_19 : decode cX12_byteAt 19 = .ok (.goto 4, 3) := by decide +kernel
theorem dX12_byteAt_22 : decode cX12_byteAt 22 = .ok (.iconst (-1), 1) := by decide +kernel
theorem dX12_byteAt_23 : decode cX12_byteAt 23 = .ok (.ireturn, 1) := by decide +kernel
theorem dX12_next_0 : decode cX12_next 0 = .ok (.aload_n 0, 1) := by decide +kernel
theorem dX12_next_1 : decode cX12_next 1 = .ok (.aload_n 0, 1) := by decide +kernel
theorem dX12_next_2 : decode cX12_next 2 = .ok (.getfield 185, 3) := by decide +kernel
theorem dX12_next_5 : decode cX12_next 5 = .ok (.invokevirtual 188, 3) := by decide +kernel
theorem dX12_next_8 : decode cX12_next 8 = .ok (.bipush 32, 2) := by decide +kernel
theorem dX12_next_10 : decode cX12_next 10 = .ok (.if_icmp .eq 16, 3) := by decide +kernel
theorem dX12_next_13 : decode cX12_next 13 = .ok (.aload_n 0, 1) := by decide +kernel
theorem dX12_next_14 : decode cX12_next 14 = .ok (.aload_n 0, 1) := by decide +kernel
theorem dX12_next_15 : decode cX12_next 15 = .ok (.getfield 185, 3) := by decide +kernel
theorem dX12_next_18 : decode cX12_next 18 = .ok (.invokevirtual 188, 3) := by decide +kernel
theorem dX12_next_21 : decode cX12_next 21 = .ok (.bipush 10, 2) := by decide +kernel
theorem dX12_next_23 : decode cX12_next 23 = .ok (.if_icmp .ne 16, 3) := by decide +kernel
theorem dX12_next_26 : decode cX12_next 26 = .ok (.aload_n 0, 1) := by decide +kernel
theorem dX12_next_27 : decode cX12_next 27 = .ok (.dup, 1) := by decide +kernel
theorem dX12_next_28 : decode cX12_next 28 = .ok (.getfield 185, 3) := by decide +kernel
theorem dX12_next_31 : decode cX12_next 31 = .ok (.iconst 1, 1) := by decide +kernel
theorem dX12_next_32 : decode cX12_next 32 = .ok (.iadd, 1) := by decide +kernel
theorem dX12_next_33 : decode cX12_next 33 = .ok (.putfield 185, 3) := by decide +kernel
theorem dX12_next_36 : decode cX12_next 36 = .ok (.goto (-36), 3) := by decide +kernel
theorem dX12_next_39 : decode cX12_next 39 = .ok (.aload_n 0, 1) := by decide +kernel
theorem dX12_next_40 : decode cX12_next 40 = .ok (.aload_n 0, 1) := by decide +kernel
theorem dX12_next_41 : decode cX12_next 41 = .ok (.getfield 185, 3) := by decide +kernel
theorem dX12_next_44 : decode cX12_next 44 = .ok (.putfield 191, 3) := by decide +kernel
theorem dX12_next_47 : decode cX12_next 47 = .ok (.aload_n 0, 1) := by decide +kernel
theorem dX12_next_48 : decode cX12_next 48 = .ok (.aload_n 0, 1) := by decide +kernel
theorem dX12_next_49 : decode cX12_next 49 = .ok (.getfield 185, 3) := by decide +kernel
theorem dX12_next_52 : decode cX12_next 52 = .ok (.invokevirtual 188, 3) := by decide +kernel
theorem dX12_next_55 : decode cX12_next 55 = .ok (.istore_n 1, 1) := by decide +kernel
theorem dX12_next_56 : decode cX12_next 56 = .ok (.aload_n 0, 1) := by decide +kernel
theorem dX12_next_57 : decode cX12_next 57 = .ok (.iconst 4, 1) := by decide +kernel
theorem dX12_next_58 : decode cX12_next 58 = .ok (.putfield 194, 3) := by decide +kernel
theorem dX12_next_61 : decode cX12_next 61 = .ok (.iload_n 1, 1) := by decide +kernel
theorem dX12_next_62 : decode cX12_next 62 = .ok (.ifCond .ge 19, 3) := by decide +kernel
theorem dX12_next_65 : decode cX12_next 65 = .ok (.aload_n 0, 1) := by decide +kernel
theorem dX12_next_66 : decode cX12_next 66 = .ok (.iconst 0, 1) := by decide +kernel
theorem dX12_next_67 : decode cX12_next 67 = .ok (.putfield 194, 3) := by decide +kernel
theorem dX12_next_70 : decode cX12_next 70 = .ok (.aload_n 0, 1) := by decide +kernel
theorem dX12_next_71 : decode cX12_next 71 = .ok (.aload_n 0, 1) := by decide +kernel
theorem dX12_next_72 : decode cX12_next 72 = .ok (.getfield 179, 3) := by decide +kernel
theorem dX12_next_75 : decode cX12_next 75 = .ok (.putfield 191, 3) := by decide +kernel
theorem dX12_next_78 : decode cX12_next 78 = .ok (.goto 294, 3) := by decide +kernel
theorem dX12_next_81 : decode cX12_next 81 = .ok (.iload_n 1, 1) := by decide +kernel
theorem dX12_next_82 : decode cX12_next 82 = .ok (.i2l, 1) := by decide +kernel
theorem dX12_next_83 : decode cX12_next 83 = .ok (.ldc2_w 197, 3) := by decide +kernel
theorem dX12_next_86 : decode cX12_next 86 = .ok (.ldc2_w 199, 3) := by decide +kernel
theorem dX12_next_89 : decode cX12_next 89 = .ok (.invokestatic 125, 3) := by decide +kernel
theorem dX12_next_92 : decode cX12_next 92 = .ok (.ifCond .eq 93, 3) := by decide +kernel
theorem dX12_next_95 : decode cX12_next 95 = .ok (.aload_n 0, 1) := by decide +kernel
theorem dX12_next_96 : decode cX12_next 96 = .ok (.iconst 1, 1) := by decide +kernel
theorem dX12_next_97 : decode cX12_next 97 = .ok (.putfield 194, 3) := by decide +kernel
theorem dX12_next_100 : decode cX12_next 100 = .ok (.aload_n 0, 1) := by decide +kernel
theorem dX12_next_101 : decode cX12_next 101 = .ok (.lconst 0, 1) := by decide +kernel
theorem dX12_next_102 : decode cX12_next 102 = .ok (.putfield 201, 3) := by decide +kernel
theorem dX12_next_105 : decode cX12_next 105 = .ok (.iconst 0, 1) := by decide +kernel
theorem dX12_next_106 : decode cX12_next 106 = .ok (.istore_n 2, 1) := by decide +kernel
theorem dX12_next_107 : decode cX12_next 107 = .ok (.aload_n 0, 1) := by decide +kernel
theorem dX12_next_108 : decode cX12_next 108 = .ok (.aload_n 0, 1) := by decide +kernel
theorem dX12_next_109 : decode cX12_next 109 = .ok (.getfield 185, 3) := by decide +kernel
theorem dX12_next_112 : decode cX12_next 112 = .ok (.invokevirtual 188, 3) := by decide +kernel
theorem dX12_next_115 : decode cX12_next 115 = .ok (.i2l, 1) := by decide +kernel
theorem dX12_next_116 : decode cX12_next 116 = .ok (.ldc2_w 197, 3) := by decide +kernel
theorem dX12_next_119 : decode cX12_next 119 = .ok (.ldc2_w 199, 3) := by decide +kernel
theorem dX12_next_122 : decode cX12_next 122 = .ok (.invokestatic 125, 3) := by decide +kernel
theorem dX12_next_125 : decode cX12_next 125 = .ok (.ifCond .eq 57, 3) := by decide +kernel
theorem dX12_next_128 : decode cX12_next 128 = .ok (.aload_n 0, 1) := by decide +kernel
theorem dX12_next_129 : decode cX12_next 129 = .ok (.iload_n 2, 1) := by decide +kernel
theorem dX12_next_130 : decode cX12_next 130 = .ok (.bipush 8, 2) := by decide +kernel
theorem dX12_next_132 : decode cX12_next 132 = .ok (.if_icmp .ge 28, 3) := by decide +kernel
theorem dX12_next_135 : decode cX12_next 135 = .ok (.ldc2_w 205, 3) := by decide +kernel
theorem dX12_next_138 : decode cX12_next 138 = .ok (.aload_n 0, 1) := by decide +kernel
theorem dX12_next_139 : decode cX12_next 139 = .ok (.getfield 201, 3) := by decide +kernel
theorem dX12_next_142 : decode cX12_next 142 = .ok (.lmul, 1) := by decide +kernel
theorem dX12_next_143 : decode cX12_next 143 = .ok (.aload_n 0, 1) := by decide +kernel
theorem dX12_next_144 : decode cX12_next 144 = .ok (.aload_n 0, 1) := by decide +kernel
theorem dX12_next_145 : decode cX12_next 145 = .ok (.getfield 185, 3) := by decide +kernel
theorem dX12_next_148 : decode cX12_next 148 = .ok (.invokevirtual 188, 3) := by decide +kernel
theorem dX12_next_151 : decode cX12_next 151 = .ok (.i2l, 1) := by decide +kernel
theorem dX12_next_152 : decode cX12_next 152 = .ok (.ladd, 1) := by decide +kernel
theorem dX12_next_153 : decode cX12_next 153 = .ok (.ldc2_w 207, 3) := by decide +kernel
theorem dX12_next_156 : decode cX12_next 156 = .ok (.lsub, 1) := by decide +kernel
theorem dX12_next_157 : decode cX12_next 157 = .ok (.goto 6, 3) := by decide +kernel
theorem dX12_next_160 : decode cX12_next 160 = .ok (.ldc2_w 209, 3) := by decide +kernel
theorem dX12_next_163 : decode cX12_next 163 = .ok (.putfield 201, 3) := by decide +kernel
theorem dX12_next_166 : decode cX12_next 166 = .ok (.iinc 2 1, 3) := by decide +kernel
theorem dX12_next_169 : decode cX12_next 169 = .ok (.aload_n 0, 1) := by decide +kernel
theorem dX12_next_170 : decode cX12_next 170 = .ok (.dup, 1) := by decide +kernel
theorem dX12_next_171 : decode cX12_next 171 = .ok (.getfield 185, 3) := by decide +kernel
theorem dX12_next_174 : decode cX12_next 174 = .ok (.iconst 1, 1) := by decide +kernel
theorem dX12_next_175 : decode cX12_next 175 = .ok (.iadd, 1) := by decide +kernel
theorem dX12_next_176 : decode cX12_next 176 = .ok (.putfield 185, 3) := by decide +kernel
theorem dX12_next_179 : decode cX12_next 179 = .ok (.goto (-72), 3) := by decide +kernel
theorem dX12_next_182 : decode cX12_next 182 = .ok (.goto 190, 3) := by decide +kernel
theorem dX12_next_185 : decode cX12_next 185 = .ok (.iload_n 1, 1) := by decide +kernel
theorem dX12_next_186 : decode cX12_next 186 = .ok (.i2l, 1) := by decide +kernel
theorem dX12_next_187 : decode cX12_next 187 = .ok (.ldc2_w 211, 3) := by decide +kernel
theorem dX12_next_190 : decode cX12_next 190 = .ok (.ldc2_w 213, 3) := by decide +kernel
theorem dX12_next_193 : decode cX12_next 193 = .ok (.invokestatic 125, 3) := by decide +kernel
theorem dX12_next_196 : decode cX12_next 196 = .ok (.ifCond .eq 107, 3) := by decide +kernel
theorem dX12_next_199 : decode cX12_next 199 = .ok (.aload_n 0, 1) := by decide +kernel
theorem dX12_next_200 : decode cX12_next 200 = .ok (.iconst 2, 1) := by decide +kernel
theorem dX12_next_201 : decode cX12_next 201 = .ok (.putfield 194, 3) := by decide +kernel
theorem dX12_next_204 : decode cX12_next 204 = .ok (.aload_n 0, 1) := by decide +kernel
theorem dX12_next_205 : decode cX12_next 205 = .ok (.lconst 0, 1) := by decide +kernel
theorem dX12_next_206 : decode cX12_next 206 = .ok (.putfield 201, 3) := by decide +kernel
theorem dX12_next_209 : decode cX12_next 209 = .ok (.iconst 0, 1) := by decide +kernel
theorem dX12_next_210 : decode cX12_next 210 = .ok (.istore_n 2, 1) := by decide +kernel
theorem dX12_next_211 : decode cX12_next 211 = .ok (.aload_n 0, 1) := by decide +kernel
theorem dX12_next_212 : decode cX12_next 212 = .ok (.aload_n 0, 1) := by decide +kernel
theorem dX12_next_213 : decode cX12_next 213 = .ok (.getfield 185, 3) := by decide +kernel
theorem dX12_next_216 : decode cX12_next 216 = .ok (.invokevirtual 188, 3) := by decide +kernel
theorem dX12_next_219 : decode cX12_next 219 = .ok (.i2l, 1) := by decide +kernel
theorem dX12_next_220 : decode cX12_next 220 = .ok (.ldc2_w 211, 3) := by decide +kernel
theorem dX12_next_223 : decode cX12_next 223 = .ok (.ldc2_w 213, 3) := by decide +kernel
theorem dX12_next_226 : decode cX12_next 226 = .ok (.invokestatic 125, 3) := by decide +kernel
theorem dX12_next_229 : decode cX12_next 229 = .ok (.ifCond .eq 57, 3) := by decide +kernel
theorem dX12_next_232 : decode cX12_next 232 = .ok (.aload_n 0, 1) := by decide +kernel
theorem dX12_next_233 : decode cX12_next 233 = .ok (.iload_n 2, 1) := by decide +kernel
theorem dX12_next_234 : decode cX12_next 234 = .ok (.iconst 4, 1) := by decide +kernel
theorem dX12_next_235 : decode cX12_next 235 = .ok (.if_icmp .ge 28, 3) := by decide +kernel
theorem dX12_next_238 : decode cX12_next 238 = .ok (.ldc2_w 215, 3) := by decide +kernel
theorem dX12_next_241 : decode cX12_next 241 = .ok (.aload_n 0, 1) := by decide +kernel
theorem dX12_next_242 : decode cX12_next 242 = .ok (.getfield 201, 3) := by decide +kernel
theorem dX12_next_245 : decode cX12_next 245 = .ok (.lmul, 1) := by decide +kernel
theorem dX12_next_246 : decode cX12_next 246 = .ok (.aload_n 0, 1) := by decide +kernel
theorem dX12_next_247 : decode cX12_next 247 = .ok (.aload_n 0, 1) := by decide +kernel
theorem dX12_next_248 : decode cX12_next 248 = .ok (.getfield 185, 3) := by decide +kernel
theorem dX12_next_251 : decode cX12_next 251 = .ok (.invokevirtual 188, 3) := by decide +kernel
theorem dX12_next_254 : decode cX12_next 254 = .ok (.i2l, 1) := by decide +kernel
theorem dX12_next_255 : decode cX12_next 255 = .ok (.ladd, 1) := by decide +kernel
theorem dX12_next_256 : decode cX12_next 256 = .ok (.ldc2_w 211, 3) := by decide +kernel
theorem dX12_next_259 : decode cX12_next 259 = .ok (.lsub, 1) := by decide +kernel
theorem dX12_next_260 : decode cX12_next 260 = .ok (.goto 7, 3) := by decide +kernel
theorem dX12_next_263 : decode cX12_next 263 = .ok (.aload_n 0, 1) := by decide +kernel
theorem dX12_next_264 : decode cX12_next 264 = .ok (.getfield 201, 3) := by decide +kernel
theorem dX12_next_267 : decode cX12_next 267 = .ok (.putfield 201, 3) := by decide +kernel
theorem dX12_next_270 : decode cX12_next 270 = .ok (.iinc 2 1, 3) := by decide +kernel
theorem dX12_next_273 : decode cX12_next 273 = .ok (.aload_n 0, 1) := by decide +kernel
theorem dX12_next_274 : decode cX12_next 274 = .ok (.dup, 1) := by decide +kernel
theorem dX12_next_275 : decode cX12_next 275 = .ok (.getfield 185, 3) := by decide +kernel
theorem dX12_next_278 : decode cX12_next 278 = .ok (.iconst 1, 1) := by decide +kernel
theorem dX12_next_279 : decode cX12_next 279 = .ok (.iadd, 1) := by decide +kernel
theorem dX12_next_280 : decode cX12_next 280 = .ok (.putfield 185, 3) := by decide +kernel
theorem dX12_next_283 : decode cX12_next 283 = .ok (.goto (-72), 3) := by decide +kernel
theorem dX12_next_286 : decode cX12_next 286 = .ok (.aload_n 0, 1) := by decide +kernel
theorem dX12_next_287 : decode cX12_next 287 = .ok (.iload_n 2, 1) := by decide +kernel
theorem dX12_next_288 : decode cX12_next 288 = .ok (.iconst 4, 1) := by decide +kernel
theorem dX12_next_289 : decode cX12_next 289 = .ok (.if_icmp .le 7, 3) := by decide +kernel
theorem dX12_next_292 : decode cX12_next 292 = .ok (.iconst 4, 1) := by decide +kernel
theorem dX12_next_293 : decode cX12_next 293 = .ok (.goto 4, 3) := by decide +kernel
theorem dX12_next_296 : decode cX12_next 296 = .ok (.iconst 2, 1) := by decide +kernel
theorem dX12_next_297 : decode cX12_next 297 = .ok (.putfield 194, 3) := by decide +kernel
theorem dX12_next_300 : decode cX12_next 300 = .ok (.goto 72, 3) := by decide +kernel
theorem dX12_next_303 : decode cX12_next 303 = .ok (.iload_n 1, 1) := by decide +kernel
theorem dX12_next_304 : decode cX12_next 304 = .ok (.bipush 40, 2) := by decide +kernel
theorem dX12_next_306 : decode cX12_next 306 = .ok (.if_icmp .eq 45, 3) := by decide +kernel
theorem dX12_next_309 : decode cX12_next 309 = .ok (.iload_n 1, 1) := by decide +kernel
theorem dX12_next_310 : decode cX12_next 310 = .ok (.bipush 41, 2) := by decide +kernel
theorem dX12_next_312 : decode cX12_next 312 = .ok (.if_icmp .eq 39, 3) := by decide +kernel
theorem dX12_next_315 : decode cX12_next 315 = .ok (.iload_n 1, 1) := by decide +kernel
theorem dX12_next_316 : decode cX12_next 316 = .ok (.bipush 59, 2) := by decide +kernel
theorem dX12_next_318 : decode cX12_next 318 = .ok (.if_icmp .eq 33, 3) := by decide +kernel
theorem dX12_next_321 : decode cX12_next 321 = .ok (.iload_n 1, 1) := by decide +kernel
theorem dX12_next_322 : decode cX12_next 322 = .ok (.bipush 43, 2) := by decide +kernel
theorem dX12_next_324 : decode cX12_next 324 = .ok (.if_icmp .eq 27, 3) := by decide +kernel
theorem dX12_next_327 : decode cX12_next 327 = .ok (.iload_n 1, 1) := by decide +kernel
theorem dX12_next_328 : decode cX12_next 328 = .ok (.bipush 45, 2) := by decide +kernel
theorem dX12_next_330 : decode cX12_next 330 = .ok (.if_icmp .eq 21, 3) := by decide +kernel
theorem dX12_next_333 : decode cX12_next 333 = .ok (.iload_n 1, 1) := by decide +kernel
theorem dX12_next_334 : decode cX12_next 334 = .ok (.bipush 42, 2) := by decide +kernel
theorem dX12_next_336 : decode cX12_next 336 = .ok (.if_icmp .eq 15, 3) := by decide +kernel
theorem dX12_next_339 : decode cX12_next 339 = .ok (.iload_n 1, 1) := by decide +kernel
theorem dX12_next_340 : decode cX12_next 340 = .ok (.bipush 60, 2) := by decide +kernel
theorem dX12_next_342 : decode cX12_next 342 = .ok (.if_icmp .eq 9, 3) := by decide +kernel
theorem dX12_next_345 : decode cX12_next 345 = .ok (.iload_n 1, 1) := by decide +kernel
theorem dX12_next_346 : decode cX12_next 346 = .ok (.bipush 61, 2) := by decide +kernel
theorem dX12_next_348 : decode cX12_next 348 = .ok (.if_icmp .ne 24, 3) := by decide +kernel
theorem dX12_next_351 : decode cX12_next 351 = .ok (.aload_n 0, 1) := by decide +kernel
theorem dX12_next_352 : decode cX12_next 352 = .ok (.iconst 3, 1) := by decide +kernel
theorem dX12_next_353 : decode cX12_next 353 = .ok (.putfield 194, 3) := by decide +kernel
theorem dX12_next_356 : decode cX12_next 356 = .ok (.aload_n 0, 1) := by decide +kernel
theorem dX12_next_357 : decode cX12_next 357 = .ok (.iload_n 1, 1) := by decide +kernel
theorem dX12_next_358 : decode cX12_next 358 = .ok (.i2l, 1) := by decide +kernel
theorem dX12_next_359 : decode cX12_next 359 = .ok (.putfield 201, 3) := by decide +kernel
theorem dX12_next_362 : decode cX12_next 362 = .ok (.aload_n 0, 1) := by decide +kernel
theorem dX12_next_363 : decode cX12_next 363 = .ok (.dup, 1) := by decide +kernel
theorem dX12_next_364 : decode cX12_next 364 = .ok (.getfield 185, 3) := by decide +kernel
theorem dX12_next_367 : decode cX12_next 367 = .ok (.iconst 1, 1) := by decide +kernel
theorem dX12_next_368 : decode cX12_next 368 = .ok (.iadd, 1) := by decide +kernel
theorem dX12_next_369 : decode cX12_next 369 = .ok (.putfield 185, 3) := by decide +kernel
theorem dX12_next_372 : decode cX12_next 372 = .ok (.return_, 1) := by decide +kernel
theorem dX12_fail_0 : decode cX12_fail 0 = .ok (.aload_n 0, 1) := by decide +kernel
theorem dX12_fail_1 : decode cX12_fail 1 = .ok (.getfield 217, 3) := by decide +kernel
theorem dX12_fail_4 : decode cX12_fail 4 = .ok (.ifCond .ne 16, 3) := by decide +kernel
theorem dX12_fail_7 : decode cX12_fail 7 = .ok (.aload_n 0, 1) := by decide +kernel
theorem dX12_fail_8 : decode cX12_fail 8 = .ok (.iconst 1, 1) := by decide +kernel
theorem dX12_fail_9 : decode cX12_fail 9 = .ok (.putfield 217, 3) := by decide +kernel
theorem dX12_fail_12 : decode cX12_fail 12 = .ok (.aload_n 0, 1) := by decide +kernel
theorem dX12_fail_13 : decode cX12_fail 13 = .ok (.aload_n 0, 1) := by decide +kernel
theorem dX12_fail_14 : decode cX12_fail 14 = .ok (.getfield 191, 3) := by decide +kernel
theorem dX12_fail_17 : decode cX12_fail 17 = .ok (.putfield 221, 3) := by decide +kernel
theorem dX12_fail_20 : decode cX12_fail 20 = .ok (.return_, 1) := by decide +kernel
theorem dX12_isWord_0 : decode cX12_isWord 0 = .ok (.aload_n 0, 1) := by decide +kernel
theorem dX12_isWord_1 : decode cX12_isWord 1 = .ok (.getfield 217, 3) := by decide +kernel
theorem dX12_isWord_4 : decode cX12_isWord 4 = .ok (.ifCond .ne 24, 3) := by decide +kernel
theorem dX12_isWord_7 : decode cX12_isWord 7 = .ok (.aload_n 0, 1) := by decide +kernel
theorem dX12_isWord_8 : decode cX12_isWord 8 = .ok (.getfield 194, 3) := by decide +kernel
theorem dX12_isWord_11 : decode cX12_isWord 11 = .ok (.iconst 1, 1) := by decide +kernel
theorem dX12_isWord_12 : decode cX12_isWord 12 = .ok (.if_icmp .ne 16, 3) := by decide +kernel
theorem dX12_isWord_15 : decode cX12_isWord 15 = .ok (.aload_n 0, 1) := by decide +kernel
theorem dX12_isWord_16 : decode cX12_isWord 16 = .ok (.getfield 201, 3) := by decide +kernel
theorem dX12_isWord_19 : decode cX12_isWord 19 = .ok (.lload_n 1, 1) := by decide +kernel
theorem dX12_isWord_20 : decode cX12_isWord 20 = .ok (.lcmp, 1) := by decide +kernel
theorem dX12_isWord_21 : decode cX12_isWord 21 = .ok (.ifCond .ne 7, 3) := by decide +kernel
theorem dX12_isWord_24 : decode cX12_isWord 24 = .ok (.iconst 1, 1) := by decide +kernel
theorem dX12_isWord_25 : decode cX12_isWord 25 = .ok (.goto 4, 3) := by decide +kernel
theorem dX12_isWord_28 : decode cX12_isWord 28 = .ok (.iconst 0, 1) := by decide +kernel
theorem dX12_isWord_29 : decode cX12_isWord 29 = .ok (.ireturn, 1) := by decide +kernel
theorem dX12_isSign_0 : decode cX12_isSign 0 = .ok (.aload_n 0, 1) := by decide +kernel
theorem dX12_isSign_1 : decode cX12_isSign 1 = .ok (.getfield 217, 3) := by decide +kernel
theorem dX12_isSign_4 : decode cX12_isSign 4 = .ok (.ifCond .ne 25, 3) := by decide +kernel
theorem dX12_isSign_7 : decode cX12_isSign 7 = .ok (.aload_n 0, 1) := by decide +kernel
theorem dX12_isSign_8 : decode cX12_isSign 8 = .ok (.getfield 194, 3) := by decide +kernel
theorem dX12_isSign_11 : decode cX12_isSign 11 = .ok (.iconst 3, 1) := by decide +kernel
theorem dX12_isSign_12 : decode cX12_isSign 12 = .ok (.if_icmp .ne 17, 3) := by decide +kernel
theorem dX12_isSign_15 : decode cX12_isSign 15 = .ok (.aload_n 0, 1) := by decide +kernel
theorem dX12_isSign_16 : decode cX12_isSign 16 = .ok (.getfield 201, 3) := by decide +kernel
theorem dX12_isSign_19 : decode cX12_isSign 19 = .ok (.iload_n 1, 1) := by decide +kernel
theorem dX12_isSign_20 : decode cX12_isSign 20 = .ok (.i2l, 1) := by decide +kernel
theorem dX12_isSign_21 : decode cX12_isSign 21 = .ok (.lcmp, 1) := by decide +kernel
theorem dX12_isSign_22 : decode cX12_isSign 22 = .ok (.ifCond .ne 7, 3) := by decide +kernel
theorem dX12_isSign_25 : decode cX12_isSign 25 = .ok (.iconst 1, 1) := by decide +kernel
theorem dX12_isSign_26 : decode cX12_isSign 26 = .ok (.goto 4, 3) := by decide +kernel
theorem dX12_isSign_29 : decode cX12_isSign 29 = .ok (.iconst 0, 1) := by decide +kernel
theorem dX12_isSign_30 : decode cX12_isSign 30 = .ok (.ireturn, 1) := by decide +kernel
theorem dX12_opens_0 : decode cX12_opens 0 = .ok (.aload_n 0, 1) := by decide +kernel
theorem dX12_opens_1 : decode cX12_opens 1 = .ok (.getfield 224, 3) := by decide +kernel
theorem dX12_opens_4 : decode cX12_opens 4 = .ok (.iconst 5, 1) := by decide +kernel
theorem dX12_opens_5 : decode cX12_opens 5 = .ok (.if_icmp .ne 9, 3) := by decide +kernel
theorem dX12_opens_8 : decode cX12_opens 8 = .ok (.aload_n 0, 1) := by decide +kernel
theorem dX12_opens_9 : decode cX12_opens 9 = .ok (.invokevirtual 227, 3) := by decide +kernel
theorem dX12_opens_12 : decode cX12_opens 12 = .ok (.iconst 0, 1) := by decide +kernel
theorem dX12_opens_13 : decode cX12_opens 13 = .ok (.ireturn, 1) := by decide +kernel
theorem dX12_opens_14 : decode cX12_opens 14 = .ok (.aload_n 0, 1) := by decide +kernel
theorem dX12_opens_15 : decode cX12_opens 15 = .ok (.dup, 1) := by decide +kernel
theorem dX12_opens_16 : decode cX12_opens 16 = .ok (.getfield 224, 3) := by decide +kernel
theorem dX12_opens_19 : decode cX12_opens 19 = .ok (.iconst 1, 1) := by decide +kernel
theorem dX12_opens_20 : decode cX12_opens 20 = .ok (.iadd, 1) := by decide +kernel
theorem dX12_opens_21 : decode cX12_opens 21 = .ok (.putfield 224, 3) := by decide +kernel
theorem dX12_opens_24 : decode cX12_opens 24 = .ok (.aload_n 0, 1) := by decide +kernel
theorem dX12_opens_25 : decode cX12_opens 25 = .ok (.invokevirtual 230, 3) := by decide +kernel
theorem dX12_opens_28 : decode cX12_opens 28 = .ok (.iconst 1, 1) := by decide +kernel
theorem dX12_opens_29 : decode cX12_opens 29 = .ok (.ireturn, 1) := by decide +kernel
theorem dX12_name_0 : decode cX12_name 0 = .ok (.aload_n 0, 1) := by decide +kernel
theorem dX12_name_1 : decode cX12_name 1 = .ok (.ldc2_w 233, 3) := by decide +kernel
theorem dX12_name_4 : decode cX12_name 4 = .ok (.invokevirtual 235, 3) := by decide +kernel
theorem dX12_name_7 : decode cX12_name 7 = .ok (.ifCond .eq 8, 3) := by decide +kernel
theorem dX12_name_10 : decode cX12_name 10 = .ok (.aload_n 0, 1) := by decide +kernel
theorem dX12_name_11 : decode cX12_name 11 = .ok (.getfield 239, 3) := by decide +kernel
theorem dX12_name_14 : decode cX12_name 14 = .ok (.ireturn, 1) := by decide +kernel
theorem dX12_name_15 : decode cX12_name 15 = .ok (.aload_n 0, 1) := by decide +kernel
theorem dX12_name_16 : decode cX12_name 16 = .ok (.ldc2_w 242, 3) := by decide +kernel
theorem dX12_name_19 : decode cX12_name 19 = .ok (.invokevirtual 235, 3) := by decide +kernel
theorem dX12_name_22 : decode cX12_name 22 = .ok (.ifCond .eq 8, 3) := by decide +kernel
theorem dX12_name_25 : decode cX12_name 25 = .ok (.aload_n 0, 1) := by decide +kernel
theorem dX12_name_26 : decode cX12_name 26 = .ok (.getfield 244, 3) := by decide +kernel
theorem dX12_name_29 : decode cX12_name 29 = .ok (.ireturn, 1) := by decide +kernel
theorem dX12_name_30 : decode cX12_name 30 = .ok (.aload_n 0, 1) := by decide +kernel
theorem dX12_name_31 : decode cX12_name 31 = .ok (.ldc2_w 247, 3) := by decide +kernel
theorem dX12_name_34 : decode cX12_name 34 = .ok (.invokevirtual 235, 3) := by decide +kernel
theorem dX12_name_37 : decode cX12_name 37 = .ok (.ifCond .eq 8, 3) := by decide +kernel
theorem dX12_name_40 : decode cX12_name 40 = .ok (.aload_n 0, 1) := by decide +kernel
theorem dX12_name_41 : decode cX12_name 41 = .ok (.getfield 249, 3) := by decide +kernel
theorem dX12_name_44 : decode cX12_name 44 = .ok (.ireturn, 1) := by decide +kernel
theorem dX12_name_45 : decode cX12_name 45 = .ok (.aload_n 0, 1) := by decide +kernel
theorem dX12_name_46 : decode cX12_name 46 = .ok (.ldc2_w 252, 3) := by decide +kernel
theorem dX12_name_49 : decode cX12_name 49 = .ok (.invokevirtual 235, 3) := by decide +kernel
theorem dX12_name_52 : decode cX12_name 52 = .ok (.ifCond .eq 13, 3) := by decide +kernel
theorem dX12_name_55 : decode cX12_name 55 = .ok (.aload_n 0, 1) := by decide +kernel
theorem dX12_name_56 : decode cX12_name 56 = .ok (.getfield 41, 3) := by decide +kernel
theorem dX12_name_59 : decode cX12_name 59 = .ok (.aload_n 0, 1) := by decide +kernel
theorem dX12_name_60 : decode cX12_name 60 = .ok (.getfield 249, 3) := by decide +kernel
theorem dX12_name_63 : decode cX12_name 63 = .ok (.iaload, 1) := by decide +kernel
theorem dX12_name_64 : decode cX12_name 64 = .ok (.ireturn, 1) := by decide +kernel
theorem dX12_name_65 : decode cX12_name 65 = .ok (.aload_n 0, 1) := by decide +kernel
theorem dX12_name_66 : decode cX12_name 66 = .ok (.ldc2_w 254, 3) := by decide +kernel
theorem dX12_name_69 : decode cX12_name 69 = .ok (.invokevirtual 235, 3) := by decide +kernel
theorem dX12_name_72 : decode cX12_name 72 = .ok (.ifCond .eq 8, 3) := by decide +kernel
theorem dX12_name_75 : decode cX12_name 75 = .ok (.aload_n 0, 1) := by decide +kernel
theorem dX12_name_76 : decode cX12_name 76 = .ok (.getfield 256, 3) := by decide +kernel
theorem dX12_name_79 : decode cX12_name 79 = .ok (.ireturn, 1) := by decide +kernel
theorem dX12_name_80 : decode cX12_name 80 = .ok (.aload_n 0, 1) := by decide +kernel
theorem dX12_name_81 : decode cX12_name 81 = .ok (.ldc2_w 259, 3) := by decide +kernel
theorem dX12_name_84 : decode cX12_name 84 = .ok (.invokevirtual 235, 3) := by decide +kernel
theorem dX12_name_87 : decode cX12_name 87 = .ok (.ifCond .eq 8, 3) := by decide +kernel
theorem dX12_name_90 : decode cX12_name 90 = .ok (.aload_n 0, 1) := by decide +kernel
theorem dX12_name_91 : decode cX12_name 91 = .ok (.getfield 261, 3) := by decide +kernel
theorem dX12_name_94 : decode cX12_name 94 = .ok (.ireturn, 1) := by decide +kernel
theorem dX12_name_95 : decode cX12_name 95 = .ok (.aload_n 0, 1) := by decide +kernel
theorem dX12_name_96 : decode cX12_name 96 = .ok (.invokevirtual 227, 3) := by decide +kernel
theorem dX12_name_99 : decode cX12_name 99 = .ok (.iconst 0, 1) := by decide +kernel
theorem dX12_name_100 : decode cX12_name 100 = .ok (.ireturn, 1) := by decide +kernel
theorem dX12_one_0 : decode cX12_one 0 = .ok (.iconst 0, 1) := by decide +kernel
theorem dX12_one_1 : decode cX12_one 1 = .ok (.istore_n 1, 1) := by decide +kernel
theorem dX12_one_2 : decode cX12_one 2 = .ok (.aload_n 0, 1) := by decide +kernel
theorem dX12_one_3 : decode cX12_one 3 = .ok (.bipush 45, 2) := by decide +kernel
theorem dX12_one_5 : decode cX12_one 5 = .ok (.invokevirtual 264, 3) := by decide +kernel
theorem dX12_one_8 : decode cX12_one 8 = .ok (.ifCond .eq 29, 3) := by decide +kernel
theorem dX12_one_11 : decode cX12_one 11 = .ok (.aload_n 0, 1) := by decide +kernel
theorem dX12_one_12 : decode cX12_one 12 = .ok (.invokevirtual 267, 3) := by decide +kernel
theorem dX12_one_15 : decode cX12_one 15 = .ok (.ifCond .eq 146, 3) := by decide +kernel
theorem dX12_one_18 : decode cX12_one 18 = .ok (.aload_n 0, 1) := by decide +kernel
theorem dX12_one_19 : decode cX12_one 19 = .ok (.invokevirtual 271, 3) := by decide +kernel
theorem dX12_one_22 : decode cX12_one 22 = .ok (.ineg, 1) := by decide +kernel
theorem dX12_one_23 : decode cX12_one 23 = .ok (.istore_n 1, 1) := by decide +kernel
theorem dX12_one_24 : decode cX12_one 24 = .ok (.aload_n 0, 1) := by decide +kernel
theorem dX12_one_25 : decode cX12_one 25 = .ok (.dup, 1) := by decide +kernel
theorem dX12_one_26 : decode cX12_one 26 = .ok (.getfield 224, 3) := by decide +kernel
theorem dX12_one_29 : decode cX12_one 29 = .ok (.iconst 1, 1) := by decide +kernel
theorem dX12_one_30 : decode cX12_one 30 = .ok (.isub, 1) := by decide +kernel
theorem dX12_one_31 : decode cX12_one 31 = .ok (.putfield 224, 3) := by decide +kernel
theorem dX12_one_34 : decode cX12_one 34 = .ok (.goto 127, 3) := by decide +kernel
theorem dX12_one_37 : decode cX12_one 37 = .ok (.aload_n 0, 1) := by decide +kernel
theorem dX12_one_38 : decode cX12_one 38 = .ok (.bipush 40, 2) := by decide +kernel
theorem dX12_one_40 : decode cX12_one 40 = .ok (.invokevirtual 264, 3) := by decide +kernel
theorem dX12_one_43 : decode cX12_one 43 = .ok (.ifCond .eq 52, 3) := by decide +kernel
theorem dX12_one_46 : decode cX12_one 46 = .ok (.aload_n 0, 1) := by decide +kernel
theorem dX12_one_47 : decode cX12_one 47 = .ok (.invokevirtual 267, 3) := by decide +kernel
theorem dX12_one_50 : decode cX12_one 50 = .ok (.ifCond .eq 111, 3) := by decide +kernel
theorem dX12_one_53 : decode cX12_one 53 = .ok (.aload_n 0, 1) := by decide +kernel
theorem dX12_one_54 : decode cX12_one 54 = .ok (.invokevirtual 275, 3) := by decide +kernel
theorem dX12_one_57 : decode cX12_one 57 = .ok (.istore_n 1, 1) := by decide +kernel
theorem dX12_one_58 : decode cX12_one 58 = .ok (.aload_n 0, 1) := by decide +kernel
theorem dX12_one_59 : decode cX12_one 59 = .ok (.bipush 41, 2) := by decide +kernel
theorem dX12_one_61 : decode cX12_one 61 = .ok (.invokevirtual 264, 3) := by decide +kernel
theorem dX12_one_64 : decode cX12_one 64 = .ok (.ifCond .ne 7, 3) := by decide +kernel
theorem dX12_one_67 : decode cX12_one 67 = .ok (.aload_n 0, 1) := by decide +kernel
theorem dX12_one_68 : decode cX12_one 68 = .ok (.invokevirtual 227, 3) := by decide +kernel
theorem dX12_one_71 : decode cX12_one 71 = .ok (.aload_n 0, 1) := by decide +kernel
theorem dX12_one_72 : decode cX12_one 72 = .ok (.dup, 1) := by decide +kernel
theorem dX12_one_73 : decode cX12_one 73 = .ok (.getfield 224, 3) := by decide +kernel
theorem dX12_one_76 : decode cX12_one 76 = .ok (.iconst 1, 1) := by decide +kernel
theorem dX12_one_77 : decode cX12_one 77 = .ok (.isub, 1) := by decide +kernel
theorem dX12_one_78 : decode cX12_one 78 = .ok (.putfield 224, 3) := by decide +kernel
theorem dX12_one_81 : decode cX12_one 81 = .ok (.aload_n 0, 1) := by decide +kernel
theorem dX12_one_82 : decode cX12_one 82 = .ok (.getfield 217, 3) := by decide +kernel
theorem dX12_one_85 : decode cX12_one 85 = .ok (.ifCond .ne 76, 3) := by decide +kernel
theorem dX12_one_88 : decode cX12_one 88 = .ok (.aload_n 0, 1) := by decide +kernel
theorem dX12_one_89 : decode cX12_one 89 = .ok (.invokevirtual 230, 3) := by decide +kernel
theorem dX12_one_92 : decode cX12_one 92 = .ok (.goto 69, 3) := by decide +kernel
theorem dX12_one_95 : decode cX12_one 95 = .ok (.aload_n 0, 1) := by decide +kernel
theorem dX12_one_96 : decode cX12_one 96 = .ok (.getfield 217, 3) := by decide +kernel
theorem dX12_one_99 : decode cX12_one 99 = .ok (.ifCond .ne 24, 3) := by decide +kernel
theorem dX12_one_102 : decode cX12_one 102 = .ok (.aload_n 0, 1) := by decide +kernel
theorem dX12_one_103 : decode cX12_one 103 = .ok (.getfield 194, 3) := by decide +kernel
theorem dX12_one_106 : decode cX12_one 106 = .ok (.iconst 2, 1) := by decide +kernel
theorem dX12_one_107 : decode cX12_one 107 = .ok (.if_icmp .ne 16, 3) := by decide +kernel
theorem dX12_one_110 : decode cX12_one 110 = .ok (.aload_n 0, 1) := by decide +kernel
theorem dX12_one_111 : decode cX12_one 111 = .ok (.getfield 201, 3) := by decide +kernel
theorem dX12_one_114 : decode cX12_one 114 = .ok (.l2i, 1) := by decide +kernel
theorem dX12_one_115 : decode cX12_one 115 = .ok (.istore_n 1, 1) := by decide +kernel
theorem dX12_one_116 : decode cX12_one 116 = .ok (.aload_n 0, 1) := by decide +kernel
theorem dX12_one_117 : decode cX12_one 117 = .ok (.invokevirtual 230, 3) := by decide +kernel
theorem dX12_one_120 : decode cX12_one 120 = .ok (.goto 41, 3) := by decide +kernel
theorem dX12_one_123 : decode cX12_one 123 = .ok (.aload_n 0, 1) := by decide +kernel
theorem dX12_one_124 : decode cX12_one 124 = .ok (.getfield 217, 3) := by decide +kernel
theorem dX12_one_127 : decode cX12_one 127 = .ok (.ifCond .ne 30, 3) := by decide +kernel
theorem dX12_one_130 : decode cX12_one 130 = .ok (.aload_n 0, 1) := by decide +kernel
theorem dX12_one_131 : decode cX12_one 131 = .ok (.getfield 194, 3) := by decide +kernel
theorem dX12_one_134 : decode cX12_one 134 = .ok (.iconst 1, 1) := by decide +kernel
theorem dX12_one_135 : decode cX12_one 135 = .ok (.if_icmp .ne 22, 3) := by decide +kernel
theorem dX12_one_138 : decode cX12_one 138 = .ok (.aload_n 0, 1) := by decide +kernel
theorem dX12_one_139 : decode cX12_one 139 = .ok (.invokevirtual 278, 3) := by decide +kernel
theorem dX12_one_142 : decode cX12_one 142 = .ok (.istore_n 1, 1) := by decide +kernel
theorem dX12_one_143 : decode cX12_one 143 = .ok (.aload_n 0, 1) := by decide +kernel
theorem dX12_one_144 : decode cX12_one 144 = .ok (.getfield 217, 3) := by decide +kernel
theorem dX12_one_147 : decode cX12_one 147 = .ok (.ifCond .ne 14, 3) := by decide +kernel
theorem dX12_one_150 : decode cX12_one 150 = .ok (.aload_n 0, 1) := by decide +kernel
theorem dX12_one_151 : decode cX12_one 151 = .ok (.invokevirtual 230, 3) := by decide +kernel
theorem dX12_one_154 : decode cX12_one 154 = .ok (.goto 7, 3) := by decide +kernel
theorem dX12_one_157 : decode cX12_one 157 = .ok (.aload_n 0, 1) := by decide +kernel
theorem dX12_one_158 : decode cX12_one 158 = .ok (.invokevirtual 227, 3) := by decide +kernel
theorem dX12_one_161 : decode cX12_one 161 = .ok (.iload_n 1, 1) := by decide +kernel
theorem dX12_one_162 : decode cX12_one 162 = .ok (.ireturn, 1) := by decide +kernel
theorem dX12_term_0 : decode cX12_term 0 = .ok (.aload_n 0, 1) := by decide +kernel
theorem dX12_term_1 : decode cX12_term 1 = .ok (.invokevirtual 271, 3) := by decide +kernel
theorem dX12_term_4 : decode cX12_term 4 = .ok (.istore_n 1, 1) := by decide +kernel
theorem dX12_term_5 : decode cX12_term 5 = .ok (.aload_n 0, 1) := by decide +kernel
theorem dX12_term_6 : decode cX12_term 6 = .ok (.bipush 42, 2) := by decide +kernel
theorem dX12_term_8 : decode cX12_term 8 = .ok (.invokevirtual 264, 3) := by decide +kernel
theorem dX12_term_11 : decode cX12_term 11 = .ok (.ifCond .eq 17, 3) := by decide +kernel
theorem dX12_term_14 : decode cX12_term 14 = .ok (.aload_n 0, 1) := by decide +kernel
theorem dX12_term_15 : decode cX12_term 15 = .ok (.invokevirtual 230, 3) := by decide +kernel
theorem dX12_term_18 : decode cX12_term 18 = .ok (.iload_n 1, 1) := by decide +kernel
theorem dX12_term_19 : decode cX12_term 19 = .ok (.aload_n 0, 1) := by decide +kernel
theorem dX12_term_20 : decode cX12_term 20 = .ok (.invokevirtual 271, 3) := by decide +kernel
theorem dX12_term_23 : decode cX12_term 23 = .ok (.imul, 1) := by decide +kernel
theorem dX12_term_24 : decode cX12_term 24 = .ok (.istore_n 1, 1) := by decide +kernel
theorem dX12_term_25 : decode cX12_term 25 = .ok (.goto (-20), 3) := by decide +kernel
theorem dX12_term_28 : decode cX12_term 28 = .ok (.iload_n 1, 1) := by decide +kernel
theorem dX12_term_29 : decode cX12_term 29 = .ok (.ireturn, 1) := by decide +kernel
theorem dX12_added_0 : decode cX12_added 0 = .ok (.aload_n 0, 1) := by decide +kernel
theorem dX12_added_1 : decode cX12_added 1 = .ok (.invokevirtual 281, 3) := by decide +kernel
theorem dX12_added_4 : decode cX12_added 4 = .ok (.istore_n 1, 1) := by decide +kernel
theorem dX12_added_5 : decode cX12_added 5 = .ok (.aload_n 0, 1) := by decide +kernel
theorem dX12_added_6 : decode cX12_added 6 = .ok (.bipush 43, 2) := by decide +kernel
theorem dX12_added_8 : decode cX12_added 8 = .ok (.invokevirtual 264, 3) := by decide +kernel
theorem dX12_added_11 : decode cX12_added 11 = .ok (.ifCond .ne 12, 3) := by decide +kernel
theorem dX12_added_14 : decode cX12_added 14 = .ok (.aload_n 0, 1) := by decide +kernel
theorem dX12_added_15 : decode cX12_added 15 = .ok (.bipush 45, 2) := by decide +kernel
theorem dX12_added_17 : decode cX12_added 17 = .ok (.invokevirtual 264, 3) := by decide +kernel
theorem dX12_added_20 : decode cX12_added 20 = .ok (.ifCond .eq 46, 3) := by decide +kernel
theorem dX12_added_23 : decode cX12_added 23 = .ok (.aload_n 0, 1) := by decide +kernel
theorem dX12_added_24 : decode cX12_added 24 = .ok (.getfield 201, 3) := by decide +kernel
theorem dX12_added_27 : decode cX12_added 27 = .ok (.ldc2_w 284, 3) := by decide +kernel
theorem dX12_added_30 : decode cX12_added 30 = .ok (.lcmp, 1) := by decide +kernel
theorem dX12_added_31 : decode cX12_added 31 = .ok (.ifCond .ne 7, 3) := by decide +kernel
theorem dX12_added_34 : decode cX12_added 34 = .ok (.iconst 1, 1) := by decide +kernel
theorem dX12_added_35 : decode cX12_added 35 = .ok (.goto 4, 3) := by decide +kernel
theorem dX12_added_38 : decode cX12_added 38 = .ok (.iconst 0, 1) := by decide +kernel
theorem dX12_added_39 : decode cX12_added 39 = .ok (.istore_n 2, 1) := by decide +kernel
theorem dX12_added_40 : decode cX12_added 40 = .ok (.aload_n 0, 1) := by decide +kernel
theorem dX12_added_41 : decode cX12_added 41 = .ok (.invokevirtual 230, 3) := by decide +kernel
theorem dX12_added_44 : decode cX12_added 44 = .ok (.aload_n 0, 1) := by decide +kernel
theorem dX12_added_45 : decode cX12_added 45 = .ok (.invokevirtual 281, 3) := by decide +kernel
theorem dX12_added_48 : decode cX12_added 48 = .ok (.istore_n 3, 1) := by decide +kernel
theorem dX12_added_49 : decode cX12_added 49 = .ok (.iload_n 2, 1) := by decide +kernel
theorem dX12_added_50 : decode cX12_added 50 = .ok (.ifCond .eq 9, 3) := by decide +kernel
theorem dX12_added_53 : decode cX12_added 53 = .ok (.iload_n 1, 1) := by decide +kernel
theorem dX12_added_54 : decode cX12_added 54 = .ok (.iload_n 3, 1) := by decide +kernel
theorem dX12_added_55 : decode cX12_added 55 = .ok (.iadd, 1) := by decide +kernel
theorem dX12_added_56 : decode cX12_added 56 = .ok (.goto 6, 3) := by decide +kernel
theorem dX12_added_59 : decode cX12_added 59 = .ok (.iload_n 1, 1) := by decide +kernel
theorem dX12_added_60 : decode cX12_added 60 = .ok (.iload_n 3, 1) := by decide +kernel
theorem dX12_added_61 : decode cX12_added 61 = .ok (.isub, 1) := by decide +kernel
theorem dX12_added_62 : decode cX12_added 62 = .ok (.istore_n 1, 1) := by decide +kernel
theorem dX12_added_63 : decode cX12_added 63 = .ok (.goto (-58), 3) := by decide +kernel
theorem dX12_added_66 : decode cX12_added 66 = .ok (.iload_n 1, 1) := by decide +kernel
theorem dX12_added_67 : decode cX12_added 67 = .ok (.ireturn, 1) := by decide +kernel
theorem dX12_not_0 : decode cX12_not 0 = .ok (.aload_n 0, 1) := by decide +kernel
theorem dX12_not_1 : decode cX12_not 1 = .ok (.ldc2_w 286, 3) := by decide +kernel
theorem dX12_not_4 : decode cX12_not 4 = .ok (.invokevirtual 235, 3) := by decide +kernel
theorem dX12_not_7 : decode cX12_not 7 = .ok (.ifCond .eq 37, 3) := by decide +kernel
theorem dX12_not_10 : decode cX12_not 10 = .ok (.aload_n 0, 1) := by decide +kernel
theorem dX12_not_11 : decode cX12_not 11 = .ok (.invokevirtual 267, 3) := by decide +kernel
theorem dX12_not_14 : decode cX12_not 14 = .ok (.ifCond .ne 5, 3) := by decide +kernel
theorem dX12_not_17 : decode cX12_not 17 = .ok (.iconst 0, 1) := by decide +kernel
theorem dX12_not_18 : decode cX12_not 18 = .ok (.ireturn, 1) := by decide +kernel
theorem dX12_not_19 : decode cX12_not 19 = .ok (.aload_n 0, 1) := by decide +kernel
theorem dX12_not_20 : decode cX12_not 20 = .ok (.invokevirtual 288, 3) := by decide +kernel
theorem dX12_not_23 : decode cX12_not 23 = .ok (.istore_n 1, 1) := by decide +kernel
theorem dX12_not_24 : decode cX12_not 24 = .ok (.aload_n 0, 1) := by decide +kernel
theorem dX12_not_25 : decode cX12_not 25 = .ok (.dup, 1) := by decide +kernel
theorem dX12_not_26 : decode cX12_not 26 = .ok (.getfield 224, 3) := by decide +kernel
theorem dX12_not_29 : decode cX12_not 29 = .ok (.iconst 1, 1) := by decide +kernel
theorem dX12_not_30 : decode cX12_not 30 = .ok (.isub, 1) := by decide +kernel
theorem dX12_not_31 : decode cX12_not 31 = .ok (.putfield 224, 3) := by decide +kernel
theorem dX12_not_34 : decode cX12_not 34 = .ok (.iload_n 1, 1) := by decide +kernel
theorem dX12_not_35 : decode cX12_not 35 = .ok (.ifCond .ne 7, 3) := by decide +kernel
theorem dX12_not_38 : decode cX12_not 38 = .ok (.iconst 1, 1) := by decide +kernel
theorem dX12_not_39 : decode cX12_not 39 = .ok (.goto 4, 3) := by decide +kernel
theorem dX12_not_42 : decode cX12_not 42 = .ok (.iconst 0, 1) := by decide +kernel
theorem dX12_not_43 : decode cX12_not 43 = .ok (.ireturn, 1) := by decide +kernel
theorem dX12_not_44 : decode cX12_not 44 = .ok (.aload_n 0, 1) := by decide +kernel
theorem dX12_not_45 : decode cX12_not 45 = .ok (.invokevirtual 291, 3) := by decide +kernel
theorem dX12_not_48 : decode cX12_not 48 = .ok (.istore_n 1, 1) := by decide +kernel
theorem dX12_not_49 : decode cX12_not 49 = .ok (.aload_n 0, 1) := by decide +kernel
theorem dX12_not_50 : decode cX12_not 50 = .ok (.bipush 60, 2) := by decide +kernel
theorem dX12_not_52 : decode cX12_not 52 = .ok (.invokevirtual 264, 3) := by decide +kernel
theorem dX12_not_55 : decode cX12_not 55 = .ok (.ifCond .ne 14, 3) := by decide +kernel
theorem dX12_not_58 : decode cX12_not 58 = .ok (.aload_n 0, 1) := by decide +kernel
theorem dX12_not_59 : decode cX12_not 59 = .ok (.bipush 61, 2) := by decide +kernel
theorem dX12_not_61 : decode cX12_not 61 = .ok (.invokevirtual 264, 3) := by decide +kernel
theorem dX12_not_64 : decode cX12_not 64 = .ok (.ifCond .ne 5, 3) := by decide +kernel
theorem dX12_not_67 : decode cX12_not 67 = .ok (.iload_n 1, 1) := by decide +kernel
theorem dX12_not_68 : decode cX12_not 68 = .ok (.ireturn, 1) := by decide +kernel
theorem dX12_not_69 : decode cX12_not 69 = .ok (.aload_n 0, 1) := by decide +kernel
theorem dX12_not_70 : decode cX12_not 70 = .ok (.getfield 201, 3) := by decide +kernel
theorem dX12_not_73 : decode cX12_not 73 = .ok (.ldc2_w 294, 3) := by decide +kernel
theorem dX12_not_76 : decode cX12_not 76 = .ok (.lcmp, 1) := by decide +kernel
theorem dX12_not_77 : decode cX12_not 77 = .ok (.ifCond .ne 7, 3) := by decide +kernel
theorem dX12_not_80 : decode cX12_not 80 = .ok (.iconst 1, 1) := by decide +kernel
theorem dX12_not_81 : decode cX12_not 81 = .ok (.goto 4, 3) := by decide +kernel
theorem dX12_not_84 : decode cX12_not 84 = .ok (.iconst 0, 1) := by decide +kernel
theorem dX12_not_85 : decode cX12_not 85 = .ok (.istore_n 2, 1) := by decide +kernel
theorem dX12_not_86 : decode cX12_not 86 = .ok (.aload_n 0, 1) := by decide +kernel
theorem dX12_not_87 : decode cX12_not 87 = .ok (.invokevirtual 230, 3) := by decide +kernel
theorem dX12_not_90 : decode cX12_not 90 = .ok (.aload_n 0, 1) := by decide +kernel
theorem dX12_not_91 : decode cX12_not 91 = .ok (.invokevirtual 291, 3) := by decide +kernel
theorem dX12_not_94 : decode cX12_not 94 = .ok (.istore_n 3, 1) := by decide +kernel
theorem dX12_not_95 : decode cX12_not 95 = .ok (.iload_n 2, 1) := by decide +kernel
theorem dX12_not_96 : decode cX12_not 96 = .ok (.ifCond .eq 11, 3) := by decide +kernel
theorem dX12_not_99 : decode cX12_not 99 = .ok (.iload_n 1, 1) := by decide +kernel
theorem dX12_not_100 : decode cX12_not 100 = .ok (.iload_n 3, 1) := by decide +kernel
theorem dX12_not_101 : decode cX12_not 101 = .ok (.if_icmp .ge 15, 3) := by decide +kernel
theorem dX12_not_104 : decode cX12_not 104 = .ok (.goto 8, 3) := by decide +kernel
theorem dX12_not_107 : decode cX12_not 107 = .ok (.iload_n 1, 1) := by decide +kernel
theorem dX12_not_108 : decode cX12_not 108 = .ok (.iload_n 3, 1) := by decide +kernel
theorem dX12_not_109 : decode cX12_not 109 = .ok (.if_icmp .ne 7, 3) := by decide +kernel
theorem dX12_not_112 : decode cX12_not 112 = .ok (.iconst 1, 1) := by decide +kernel
theorem dX12_not_113 : decode cX12_not 113 = .ok (.goto 4, 3) := by decide +kernel
theorem dX12_not_116 : decode cX12_not 116 = .ok (.iconst 0, 1) := by decide +kernel
theorem dX12_not_117 : decode cX12_not 117 = .ok (.ireturn, 1) := by decide +kernel
theorem dX12_both_0 : decode cX12_both 0 = .ok (.aload_n 0, 1) := by decide +kernel
theorem dX12_both_1 : decode cX12_both 1 = .ok (.invokevirtual 288, 3) := by decide +kernel
theorem dX12_both_4 : decode cX12_both 4 = .ok (.istore_n 1, 1) := by decide +kernel
theorem dX12_both_5 : decode cX12_both 5 = .ok (.aload_n 0, 1) := by decide +kernel
theorem dX12_both_6 : decode cX12_both 6 = .ok (.ldc2_w 296, 3) := by decide +kernel
theorem dX12_both_9 : decode cX12_both 9 = .ok (.invokevirtual 235, 3) := by decide +kernel
theorem dX12_both_12 : decode cX12_both 12 = .ok (.ifCond .eq 29, 3) := by decide +kernel
theorem dX12_both_15 : decode cX12_both 15 = .ok (.aload_n 0, 1) := by decide +kernel
theorem dX12_both_16 : decode cX12_both 16 = .ok (.invokevirtual 230, 3) := by decide +kernel
theorem dX12_both_19 : decode cX12_both 19 = .ok (.aload_n 0, 1) := by decide +kernel
theorem dX12_both_20 : decode cX12_both 20 = .ok (.invokevirtual 288, 3) := by decide +kernel
theorem dX12_both_23 : decode cX12_both 23 = .ok (.istore_n 2, 1) := by decide +kernel
theorem dX12_both_24 : decode cX12_both 24 = .ok (.iload_n 1, 1) := by decide +kernel
theorem dX12_both_25 : decode cX12_both 25 = .ok (.ifCond .eq 11, 3) := by decide +kernel
theorem dX12_both_28 : decode cX12_both 28 = .ok (.iload_n 2, 1) := by decide +kernel
theorem dX12_both_29 : decode cX12_both 29 = .ok (.ifCond .eq 7, 3) := by decide +kernel
theorem dX12_both_32 : decode cX12_both 32 = .ok (.iconst 1, 1) := by decide +kernel
theorem dX12_both_33 : decode cX12_both 33 = .ok (.goto 4, 3) := by decide +kernel
theorem dX12_both_36 : decode cX12_both 36 = .ok (.iconst 0, 1) := by decide +kernel
theorem dX12_both_37 : decode cX12_both 37 = .ok (.istore_n 1, 1) := by decide +kernel
theorem dX12_both_38 : decode cX12_both 38 = .ok (.goto (-33), 3) := by decide +kernel
theorem dX12_both_41 : decode cX12_both 41 = .ok (.iload_n 1, 1) := by decide +kernel
theorem dX12_both_42 : decode cX12_both 42 = .ok (.ireturn, 1) := by decide +kernel
theorem dX12_either_0 : decode cX12_either 0 = .ok (.aload_n 0, 1) := by decide +kernel
theorem dX12_either_1 : decode cX12_either 1 = .ok (.invokevirtual 298, 3) := by decide +kernel
theorem dX12_either_4 : decode cX12_either 4 = .ok (.istore_n 1, 1) := by decide +kernel
theorem dX12_either_5 : decode cX12_either 5 = .ok (.aload_n 0, 1) := by decide +kernel
theorem dX12_either_6 : decode cX12_either 6 = .ok (.ldc2_w 301, 3) := by decide +kernel
theorem dX12_either_9 : decode cX12_either 9 = .ok (.invokevirtual 235, 3) := by decide +kernel
theorem dX12_either_12 : decode cX12_either 12 = .ok (.ifCond .eq 29, 3) := by decide +kernel
theorem dX12_either_15 : decode cX12_either 15 = .ok (.aload_n 0, 1) := by decide +kernel
theorem dX12_either_16 : decode cX12_either 16 = .ok (.invokevirtual 230, 3) := by decide +kernel
theorem dX12_either_19 : decode cX12_either 19 = .ok (.aload_n 0, 1) := by decide +kernel
theorem dX12_either_20 : decode cX12_either 20 = .ok (.invokevirtual 298, 3) := by decide +kernel
theorem dX12_either_23 : decode cX12_either 23 = .ok (.istore_n 2, 1) := by decide +kernel
theorem dX12_either_24 : decode cX12_either 24 = .ok (.iload_n 1, 1) := by decide +kernel
theorem dX12_either_25 : decode cX12_either 25 = .ok (.ifCond .ne 7, 3) := by decide +kernel
theorem dX12_either_28 : decode cX12_either 28 = .ok (.iload_n 2, 1) := by decide +kernel
theorem dX12_either_29 : decode cX12_either 29 = .ok (.ifCond .eq 7, 3) := by decide +kernel
theorem dX12_either_32 : decode cX12_either 32 = .ok (.iconst 1, 1) := by decide +kernel
theorem dX12_either_33 : decode cX12_either 33 = .ok (.goto 4, 3) := by decide +kernel
theorem dX12_either_36 : decode cX12_either 36 = .ok (.iconst 0, 1) := by decide +kernel
theorem dX12_either_37 : decode cX12_either 37 = .ok (.istore_n 1, 1) := by decide +kernel
theorem dX12_either_38 : decode cX12_either 38 = .ok (.goto (-33), 3) := by decide +kernel
theorem dX12_either_41 : decode cX12_either 41 = .ok (.iload_n 1, 1) := by decide +kernel
theorem dX12_either_42 : decode cX12_either 42 = .ok (.ireturn, 1) := by decide +kernel
theorem dX12_part_0 : decode cX12_part 0 = .ok (.aload_n 0, 1) := by decide +kernel
theorem dX12_part_1 : decode cX12_part 1 = .ok (.lload_n 1, 1) := by decide +kernel
theorem dX12_part_2 : decode cX12_part 2 = .ok (.invokevirtual 235, 3) := by decide +kernel
theorem dX12_part_5 : decode cX12_part 5 = .ok (.ifCond .ne 7, 3) := by decide +kernel
theorem dX12_part_8 : decode cX12_part 8 = .ok (.aload_n 0, 1) := by decide +kernel
theorem dX12_part_9 : decode cX12_part 9 = .ok (.invokevirtual 227, 3) := by decide +kernel
theorem dX12_part_12 : decode cX12_part 12 = .ok (.aload_n 0, 1) := by decide +kernel
theorem dX12_part_13 : decode cX12_part 13 = .ok (.getfield 217, 3) := by decide +kernel
theorem dX12_part_16 : decode cX12_part 16 = .ok (.ifCond .ne 7, 3) := by decide +kernel
theorem dX12_part_19 : decode cX12_part 19 = .ok (.aload_n 0, 1) := by decide +kernel
theorem dX12_part_20 : decode cX12_part 20 = .ok (.invokevirtual 230, 3) := by decide +kernel
theorem dX12_part_23 : decode cX12_part 23 = .ok (.aload_n 0, 1) := by decide +kernel
theorem dX12_part_24 : decode cX12_part 24 = .ok (.getfield 217, 3) := by decide +kernel
theorem dX12_part_27 : decode cX12_part 27 = .ok (.ifCond .eq 7, 3) := by decide +kernel
theorem dX12_part_30 : decode cX12_part 30 = .ok (.iconst 0, 1) := by decide +kernel
theorem dX12_part_31 : decode cX12_part 31 = .ok (.goto 7, 3) := by decide +kernel
theorem dX12_part_34 : decode cX12_part 34 = .ok (.aload_n 0, 1) := by decide +kernel
theorem dX12_part_35 : decode cX12_part 35 = .ok (.invokevirtual 275, 3) := by decide +kernel
theorem dX12_part_38 : decode cX12_part 38 = .ok (.istore_n 3, 1) := by decide +kernel
theorem dX12_part_39 : decode cX12_part 39 = .ok (.aload_n 0, 1) := by decide +kernel
theorem dX12_part_40 : decode cX12_part 40 = .ok (.bipush 59, 2) := by decide +kernel
theorem dX12_part_42 : decode cX12_part 42 = .ok (.invokevirtual 264, 3) := by decide +kernel
theorem dX12_part_45 : decode cX12_part 45 = .ok (.ifCond .ne 7, 3) := by decide +kernel
theorem dX12_part_48 : decode cX12_part 48 = .ok (.aload_n 0, 1) := by decide +kernel
theorem dX12_part_49 : decode cX12_part 49 = .ok (.invokevirtual 227, 3) := by decide +kernel
theorem dX12_part_52 : decode cX12_part 52 = .ok (.aload_n 0, 1) := by decide +kernel
theorem dX12_part_53 : decode cX12_part 53 = .ok (.getfield 217, 3) := by decide +kernel
theorem dX12_part_56 : decode cX12_part 56 = .ok (.ifCond .ne 7, 3) := by decide +kernel
theorem dX12_part_59 : decode cX12_part 59 = .ok (.aload_n 0, 1) := by decide +kernel
theorem dX12_part_60 : decode cX12_part 60 = .ok (.invokevirtual 230, 3) := by decide +kernel
theorem dX12_part_63 : decode cX12_part 63 = .ok (.iload_n 3, 1) := by decide +kernel
theorem dX12_part_64 : decode cX12_part 64 = .ok (.ireturn, 1) := by decide +kernel
theorem dX12_read_0 : decode cX12_read 0 = .ok (.aload_n 0, 1) := by decide +kernel
theorem dX12_read_1 : decode cX12_read 1 = .ok (.iload_n 2, 1) := by decide +kernel
theorem dX12_read_2 : decode cX12_read 2 = .ok (.iconst (-1), 1) := by decide +kernel
theorem dX12_read_3 : decode cX12_read 3 = .ok (.if_icmp .ne 7, 3) := by decide +kernel
theorem dX12_read_6 : decode cX12_read 6 = .ok (.iconst 0, 1) := by decide +kernel
theorem dX12_read_7 : decode cX12_read 7 = .ok (.goto 9, 3) := by decide +kernel
theorem dX12_read_10 : decode cX12_read 10 = .ok (.aload_n 0, 1) := by decide +kernel
theorem dX12_read_11 : decode cX12_read 11 = .ok (.getfield 26, 3) := by decide +kernel
theorem dX12_read_14 : decode cX12_read 14 = .ok (.iload_n 2, 1) := by decide +kernel
theorem dX12_read_15 : decode cX12_read 15 = .ok (.iaload, 1) := by decide +kernel
theorem dX12_read_16 : decode cX12_read 16 = .ok (.putfield 239, 3) := by decide +kernel
theorem dX12_read_19 : decode cX12_read 19 = .ok (.aload_n 0, 1) := by decide +kernel
theorem dX12_read_20 : decode cX12_read 20 = .ok (.iload_n 2, 1) := by decide +kernel
theorem dX12_read_21 : decode cX12_read 21 = .ok (.iconst (-1), 1) := by decide +kernel
theorem dX12_read_22 : decode cX12_read 22 = .ok (.if_icmp .ne 7, 3) := by decide +kernel
theorem dX12_read_25 : decode cX12_read 25 = .ok (.iconst 0, 1) := by decide +kernel
theorem dX12_read_26 : decode cX12_read 26 = .ok (.goto 9, 3) := by decide +kernel
theorem dX12_read_29 : decode cX12_read 29 = .ok (.aload_n 0, 1) := by decide +kernel
theorem dX12_read_30 : decode cX12_read 30 = .ok (.getfield 50, 3) := by decide +kernel
theorem dX12_read_33 : decode cX12_read 33 = .ok (.iload_n 2, 1) := by decide +kernel
theorem dX12_read_34 : decode cX12_read 34 = .ok (.iaload, 1) := by decide +kernel
theorem dX12_read_35 : decode cX12_read 35 = .ok (.putfield 244, 3) := by decide +kernel
theorem dX12_read_38 : decode cX12_read 38 = .ok (.aload_n 0, 1) := by decide +kernel
theorem dX12_read_39 : decode cX12_read 39 = .ok (.iload_n 3, 1) := by decide +kernel
theorem dX12_read_40 : decode cX12_read 40 = .ok (.putfield 249, 3) := by decide +kernel
theorem dX12_read_43 : decode cX12_read 43 = .ok (.aload_n 0, 1) := by decide +kernel
theorem dX12_read_44 : decode cX12_read 44 = .ok (.iload 4, 2) := by decide +kernel
theorem dX12_read_46 : decode cX12_read 46 = .ok (.putfield 256, 3) := by decide +kernel
theorem dX12_read_49 : decode cX12_read 49 = .ok (.aload_n 0, 1) := by decide +kernel
theorem dX12_read_50 : decode cX12_read 50 = .ok (.iload 5, 2) := by decide +kernel
theorem dX12_read_52 : decode cX12_read 52 = .ok (.putfield 261, 3) := by decide +kernel
theorem dX12_read_55 : decode cX12_read 55 = .ok (.aload_n 0, 1) := by decide +kernel
theorem dX12_read_56 : decode cX12_read 56 = .ok (.sipush 160, 3) := by decide +kernel
theorem dX12_read_59 : decode cX12_read 59 = .ok (.iload_n 1, 1) := by decide +kernel
theorem dX12_read_60 : decode cX12_read 60 = .ok (.imul, 1) := by decide +kernel
theorem dX12_read_61 : decode cX12_read 61 = .ok (.putfield 182, 3) := by decide +kernel
theorem dX12_read_64 : decode cX12_read 64 = .ok (.aload_n 0, 1) := by decide +kernel
theorem dX12_read_65 : decode cX12_read 65 = .ok (.aload_n 0, 1) := by decide +kernel
theorem dX12_read_66 : decode cX12_read 66 = .ok (.getfield 17, 3) := by decide +kernel
theorem dX12_read_69 : decode cX12_read 69 = .ok (.iload_n 1, 1) := by decide +kernel
theorem dX12_read_70 : decode cX12_read 70 = .ok (.iaload, 1) := by decide +kernel
theorem dX12_read_71 : decode cX12_read 71 = .ok (.putfield 179, 3) := by decide +kernel
theorem dX12_read_74 : decode cX12_read 74 = .ok (.aload_n 0, 1) := by decide +kernel
theorem dX12_read_75 : decode cX12_read 75 = .ok (.iconst 0, 1) := by decide +kernel
theorem dX12_read_76 : decode cX12_read 76 = .ok (.putfield 185, 3) := by decide +kernel
theorem dX12_read_79 : decode cX12_read 79 = .ok (.aload_n 0, 1) := by decide +kernel
theorem dX12_read_80 : decode cX12_read 80 = .ok (.iconst 0, 1) := by decide +kernel
theorem dX12_read_81 : decode cX12_read 81 = .ok (.putfield 224, 3) := by decide +kernel
theorem dX12_read_84 : decode cX12_read 84 = .ok (.aload_n 0, 1) := by decide +kernel
theorem dX12_read_85 : decode cX12_read 85 = .ok (.iconst 0, 1) := by decide +kernel
theorem dX12_read_86 : decode cX12_read 86 = .ok (.putfield 217, 3) := by decide +kernel
theorem dX12_read_89 : decode cX12_read 89 = .ok (.aload_n 0, 1) := by decide +kernel
theorem dX12_read_90 : decode cX12_read 90 = .ok (.invokevirtual 230, 3) := by decide +kernel
theorem dX12_read_93 : decode cX12_read 93 = .ok (.aload_n 0, 1) := by decide +kernel
theorem dX12_read_94 : decode cX12_read 94 = .ok (.ldc2_w 303, 3) := by decide +kernel
theorem dX12_read_97 : decode cX12_read 97 = .ok (.invokevirtual 305, 3) := by decide +kernel
theorem dX12_read_100 : decode cX12_read 100 = .ok (.istore 7, 2) := by decide +kernel
theorem dX12_read_102 : decode cX12_read 102 = .ok (.aload_n 0, 1) := by decide +kernel
theorem dX12_read_103 : decode cX12_read 103 = .ok (.getfield 217, 3) := by decide +kernel
theorem dX12_read_106 : decode cX12_read 106 = .ok (.ifCond .eq 7, 3) := by decide +kernel
theorem dX12_read_109 : decode cX12_read 109 = .ok (.iconst 0, 1) := by decide +kernel
theorem dX12_read_110 : decode cX12_read 110 = .ok (.goto 10, 3) := by decide +kernel
theorem dX12_read_113 : decode cX12_read 113 = .ok (.aload_n 0, 1) := by decide +kernel
theorem dX12_read_114 : decode cX12_read 114 = .ok (.ldc2_w 309, 3) := by decide +kernel
theorem dX12_read_117 : decode cX12_read 117 = .ok (.invokevirtual 305, 3) := by decide +kernel
theorem dX12_read_120 : decode cX12_read 120 = .ok (.istore 8, 2) := by decide +kernel
theorem dX12_read_122 : decode cX12_read 122 = .ok (.aload_n 0, 1) := by decide +kernel
theorem dX12_read_123 : decode cX12_read 123 = .ok (.getfield 217, 3) := by decide +kernel
theorem dX12_read_126 : decode cX12_read 126 = .ok (.ifCond .ne 14, 3) := by decide +kernel
theorem dX12_read_129 : decode cX12_read 129 = .ok (.aload_n 0, 1) := by decide +kernel
theorem dX12_read_130 : decode cX12_read 130 = .ok (.getfield 194, 3) := by decide +kernel
theorem dX12_read_133 : decode cX12_read 133 = .ok (.ifCond .eq 7, 3) := by decide +kernel
theorem dX12_read_136 : decode cX12_read 136 = .ok (.aload_n 0, 1) := by decide +kernel
theorem dX12_read_137 : decode cX12_read 137 = .ok (.invokevirtual 227, 3) := by decide +kernel
theorem dX12_read_140 : decode cX12_read 140 = .ok (.iload 6, 2) := by decide +kernel
theorem dX12_read_142 : decode cX12_read 142 = .ok (.ifCond .ne 8, 3) := by decide +kernel
theorem dX12_read_145 : decode cX12_read 145 = .ok (.iload 7, 2) := by decide +kernel
theorem dX12_read_147 : decode cX12_read 147 = .ok (.goto 5, 3) := by decide +kernel
theorem dX12_read_150 : decode cX12_read 150 = .ok (.iload 8, 2) := by decide +kernel
theorem dX12_read_152 : decode cX12_read 152 = .ok (.ireturn, 1) := by decide +kernel
theorem dX12_text_0 : decode cX12_text 0 = .ok (.aload_n 0, 1) := by decide +kernel
theorem dX12_text_1 : decode cX12_text 1 = .ok (.getfield 114, 3) := by decide +kernel
theorem dX12_text_4 : decode cX12_text 4 = .ok (.bipush 6, 2) := by decide +kernel
theorem dX12_text_6 : decode cX12_text 6 = .ok (.if_icmp .ne 6, 3) := by decide +kernel
theorem dX12_text_9 : decode cX12_text 9 = .ok (.bipush (-4), 2) := by decide +kernel
theorem dX12_text_11 : decode cX12_text 11 = .ok (.ireturn, 1) := by decide +kernel
theorem dX12_text_12 : decode cX12_text 12 = .ok (.iconst 0, 1) := by decide +kernel
theorem dX12_text_13 : decode cX12_text 13 = .ok (.istore_n 1, 1) := by decide +kernel
theorem dX12_text_14 : decode cX12_text 14 = .ok (.iload_n 1, 1) := by decide +kernel
theorem dX12_text_15 : decode cX12_text 15 = .ok (.aload_n 0, 1) := by decide +kernel
theorem dX12_text_16 : decode cX12_text 16 = .ok (.getfield 176, 3) := by decide +kernel
theorem dX12_text_19 : decode cX12_text 19 = .ok (.if_icmp .ge 30, 3) := by decide +kernel
theorem dX12_text_22 : decode cX12_text 22 = .ok (.aload_n 0, 1) := by decide +kernel
theorem dX12_text_23 : decode cX12_text 23 = .ok (.getfield 13, 3) := by decide +kernel
theorem dX12_text_26 : decode cX12_text 26 = .ok (.sipush 160, 3) := by decide +kernel
theorem dX12_text_29 : decode cX12_text 29 = .ok (.aload_n 0, 1) := by decide +kernel
theorem dX12_text_30 : decode cX12_text 30 = .ok (.getfield 114, 3) := by decide +kernel
theorem dX12_text_33 : decode cX12_text 33 = .ok (.imul, 1) := by decide +kernel
theorem dX12_text_34 : decode cX12_text 34 = .ok (.iload_n 1, 1) := by decide +kernel
theorem dX12_text_35 : decode cX12_text 35 = .ok (.iadd, 1) := by decide +kernel
theorem dX12_text_36 : decode cX12_text 36 = .ok (.aload_n 0, 1) := by decide +kernel
theorem dX12_text_37 : decode cX12_text 37 = .ok (.getfield 20, 3) := by decide +kernel
theorem dX12_text_40 : decode cX12_text 40 = .ok (.iload_n 1, 1) := by decide +kernel
theorem dX12_text_41 : decode cX12_text 41 = .ok (.iaload, 1) := by decide +kernel
theorem dX12_text_42 : decode cX12_text 42 = .ok (.iastore, 1) := by decide +kernel
theorem dX12_text_43 : decode cX12_text 43 = .ok (.iinc 1 1, 3) := by decide +kernel
theorem dX12_text_46 : decode cX12_text 46 = .ok (.goto (-32), 3) := by decide +kernel
theorem dX12_text_49 : decode cX12_text 49 = .ok (.aload_n 0, 1) := by decide +kernel
theorem dX12_text_50 : decode cX12_text 50 = .ok (.getfield 17, 3) := by decide +kernel
theorem dX12_text_53 : decode cX12_text 53 = .ok (.aload_n 0, 1) := by decide +kernel
theorem dX12_text_54 : decode cX12_text 54 = .ok (.getfield 114, 3) := by decide +kernel
theorem dX12_text_57 : decode cX12_text 57 = .ok (.aload_n 0, 1) := by decide +kernel
theorem dX12_text_58 : decode cX12_text 58 = .ok (.getfield 176, 3) := by decide +kernel
theorem dX12_text_61 : decode cX12_text 61 = .ok (.iastore, 1) := by decide +kernel
theorem dX12_text_62 : decode cX12_text 62 = .ok (.aload_n 0, 1) := by decide +kernel
theorem dX12_text_63 : decode cX12_text 63 = .ok (.iconst 0, 1) := by decide +kernel
theorem dX12_text_64 : decode cX12_text 64 = .ok (.putfield 176, 3) := by decide +kernel
theorem dX12_text_67 : decode cX12_text 67 = .ok (.aload_n 0, 1) := by decide +kernel
theorem dX12_text_68 : decode cX12_text 68 = .ok (.aload_n 0, 1) := by decide +kernel
theorem dX12_text_69 : decode cX12_text 69 = .ok (.getfield 114, 3) := by decide +kernel
theorem dX12_text_72 : decode cX12_text 72 = .ok (.iconst (-1), 1) := by decide +kernel
theorem dX12_text_73 : decode cX12_text 73 = .ok (.iconst 0, 1) := by decide +kernel
theorem dX12_text_74 : decode cX12_text 74 = .ok (.iconst 0, 1) := by decide +kernel
theorem dX12_text_75 : decode cX12_text 75 = .ok (.iconst 0, 1) := by decide +kernel
theorem dX12_text_76 : decode cX12_text 76 = .ok (.iconst 0, 1) := by decide +kernel
theorem dX12_text_77 : decode cX12_text 77 = .ok (.invokevirtual 311, 3) := by decide +kernel
theorem dX12_text_80 : decode cX12_text 80 = .ok (.istore_n 1, 1) := by decide +kernel
theorem dX12_text_81 : decode cX12_text 81 = .ok (.aload_n 0, 1) := by decide +kernel
theorem dX12_text_82 : decode cX12_text 82 = .ok (.getfield 217, 3) := by decide +kernel
theorem dX12_text_85 : decode cX12_text 85 = .ok (.ifCond .eq 11, 3) := by decide +kernel
theorem dX12_text_88 : decode cX12_text 88 = .ok (.bipush (-100), 2) := by decide +kernel
theorem dX12_text_90 : decode cX12_text 90 = .ok (.aload_n 0, 1) := by decide +kernel
theorem dX12_text_91 : decode cX12_text 91 = .ok (.getfield 221, 3) := by decide +kernel
theorem dX12_text_94 : decode cX12_text 94 = .ok (.isub, 1) := by decide +kernel
theorem dX12_text_95 : decode cX12_text 95 = .ok (.ireturn, 1) := by decide +kernel
theorem dX12_text_96 : decode cX12_text 96 = .ok (.aload_n 0, 1) := by decide +kernel
theorem dX12_text_97 : decode cX12_text 97 = .ok (.dup, 1) := by decide +kernel
theorem dX12_text_98 : decode cX12_text 98 = .ok (.getfield 114, 3) := by decide +kernel
theorem dX12_text_101 : decode cX12_text 101 = .ok (.iconst 1, 1) := by decide +kernel
theorem dX12_text_102 : decode cX12_text 102 = .ok (.iadd, 1) := by decide +kernel
theorem dX12_text_103 : decode cX12_text 103 = .ok (.putfield 114, 3) := by decide +kernel
theorem dX12_text_106 : decode cX12_text 106 = .ok (.aload_n 0, 1) := by decide +kernel
theorem dX12_text_107 : decode cX12_text 107 = .ok (.getfield 114, 3) := by decide +kernel
theorem dX12_text_110 : decode cX12_text 110 = .ok (.iconst 1, 1) := by decide +kernel
theorem dX12_text_111 : decode cX12_text 111 = .ok (.isub, 1) := by decide +kernel
theorem dX12_text_112 : decode cX12_text 112 = .ok (.ireturn, 1) := by decide +kernel
theorem dX12_force_0 : decode cX12_force 0 = .ok (.iload_n 1, 1) := by decide +kernel
theorem dX12_force_1 : decode cX12_force 1 = .ok (.i2l, 1) := by decide +kernel
theorem dX12_force_2 : decode cX12_force 2 = .ok (.lconst 0, 1) := by decide +kernel
theorem dX12_force_3 : decode cX12_force 3 = .ok (.aload_n 0, 1) := by decide +kernel
theorem dX12_force_4 : decode cX12_force 4 = .ok (.getfield 114, 3) := by decide +kernel
theorem dX12_force_7 : decode cX12_force 7 = .ok (.iconst 1, 1) := by decide +kernel
theorem dX12_force_8 : decode cX12_force 8 = .ok (.isub, 1) := by decide +kernel
theorem dX12_force_9 : decode cX12_force 9 = .ok (.i2l, 1) := by decide +kernel
theorem dX12_force_10 : decode cX12_force 10 = .ok (.invokestatic 125, 3) := by decide +kernel
theorem dX12_force_13 : decode cX12_force 13 = .ok (.ifCond .ne 6, 3) := by decide +kernel
theorem dX12_force_16 : decode cX12_force 16 = .ok (.bipush (-2), 2) := by decide +kernel
theorem dX12_force_18 : decode cX12_force 18 = .ok (.ireturn, 1) := by decide +kernel
theorem dX12_force_19 : decode cX12_force 19 = .ok (.aload_n 0, 1) := by decide +kernel
theorem dX12_force_20 : decode cX12_force 20 = .ok (.getfield 315, 3) := by decide +kernel
theorem dX12_force_23 : decode cX12_force 23 = .ok (.istore_n 2, 1) := by decide +kernel
theorem dX12_force_24 : decode cX12_force 24 = .ok (.aload_n 0, 1) := by decide +kernel
theorem dX12_force_25 : decode cX12_force 25 = .ok (.iload_n 1, 1) := by decide +kernel
theorem dX12_force_26 : decode cX12_force 26 = .ok (.putfield 315, 3) := by decide +kernel
theorem dX12_force_29 : decode cX12_force 29 = .ok (.iload_n 2, 1) := by decide +kernel
theorem dX12_force_30 : decode cX12_force 30 = .ok (.ireturn, 1) := by decide +kernel
theorem dX12_kindOf_0 : decode cX12_kindOf 0 = .ok (.iload_n 0, 1) := by decide +kernel
theorem dX12_kindOf_1 : decode cX12_kindOf 1 = .ok (.bipush 114, 2) := by decide +kernel
theorem dX12_kindOf_3 : decode cX12_kindOf 3 = .ok (.if_icmp .ne 7, 3) := by decide +kernel
theorem dX12_kindOf_6 : decode cX12_kindOf 6 = .ok (.iconst 0, 1) := by decide +kernel
theorem dX12_kindOf_7 : decode cX12_kindOf 7 = .ok (.goto 54, 3) := by decide +kernel
theorem dX12_kindOf_10 : decode cX12_kindOf 10 = .ok (.iload_n 0, 1) := by decide +kernel
theorem dX12_kindOf_11 : decode cX12_kindOf 11 = .ok (.bipush 115, 2) := by decide +kernel
theorem dX12_kindOf_13 : decode cX12_kindOf 13 = .ok (.if_icmp .ne 7, 3) := by decide +kernel
theorem dX12_kindOf_16 : decode cX12_kindOf 16 = .ok (.iconst 1, 1) := by decide +kernel
theorem dX12_kindOf_17 : decode cX12_kindOf 17 = .ok (.goto 44, 3) := by decide +kernel
theorem dX12_kindOf_20 : decode cX12_kindOf 20 = .ok (.iload_n 0, 1) := by decide +kernel
theorem dX12_kindOf_21 : decode cX12_kindOf 21 = .ok (.bipush 120, 2) := by decide +kernel
theorem dX12_kindOf_23 : decode cX12_kindOf 23 = .ok (.if_icmp .ne 7, 3) := by decide +kernel
theorem dX12_kindOf_26 : decode cX12_kindOf 26 = .ok (.iconst 2, 1) := by decide +kernel
theorem dX12_kindOf_27 : decode cX12_kindOf 27 = .ok (.goto 34, 3) := by decide +kernel
theorem dX12_kindOf_30 : decode cX12_kindOf 30 = .ok (.iload_n 0, 1) := by decide +kernel
theorem dX12_kindOf_31 : decode cX12_kindOf 31 = .ok (.bipush 108, 2) := by decide +kernel
theorem dX12_kindOf_33 : decode cX12_kindOf 33 = .ok (.if_icmp .ne 7, 3) := by decide +kernel
theorem dX12_kindOf_36 : decode cX12_kindOf 36 = .ok (.iconst 3, 1) := by decide +kernel
theorem dX12_kindOf_37 : decode cX12_kindOf 37 = .ok (.goto 24, 3) := by decide +kernel
theorem dX12_kindOf_40 : decode cX12_kindOf 40 = .ok (.iload_n 0, 1) := by decide +kernel
theorem dX12_kindOf_41 : decode cX12_kindOf 41 = .ok (.bipush 119, 2) := by decide +kernel
theorem dX12_kindOf_43 : decode cX12_kindOf 43 = .ok (.if_icmp .ne 7, 3) := by decide +kernel
theorem dX12_kindOf_46 : decode cX12_kindOf 46 = .ok (.iconst 4, 1) := by decide +kernel
theorem dX12_kindOf_47 : decode cX12_kindOf 47 = .ok (.goto 14, 3) := by decide +kernel
theorem dX12_kindOf_50 : decode cX12_kindOf 50 = .ok (.iload_n 0, 1) := by decide +kernel
theorem dX12_kindOf_51 : decode cX12_kindOf 51 = .ok (.bipush 101, 2) := by decide +kernel
theorem dX12_kindOf_53 : decode cX12_kindOf 53 = .ok (.if_icmp .ne 7, 3) := by decide +kernel
theorem dX12_kindOf_56 : decode cX12_kindOf 56 = .ok (.iconst 5, 1) := by decide +kernel
theorem dX12_kindOf_57 : decode cX12_kindOf 57 = .ok (.goto 4, 3) := by decide +kernel
theorem dX12_kindOf_60 : decode cX12_kindOf 60 = .ok (.iconst (-1), 1) := by decide +kernel
theorem dX12_kindOf_61 : decode cX12_kindOf 61 = .ok (.ireturn, 1) := by decide +kernel
theorem dX12_byteHere_0 : decode cX12_byteHere 0 = .ok (.iload_n 1, 1) := by decide +kernel
theorem dX12_byteHere_1 : decode cX12_byteHere 1 = .ok (.aload_n 0, 1) := by decide +kernel
theorem dX12_byteHere_2 : decode cX12_byteHere 2 = .ok (.getfield 176, 3) := by decide +kernel
theorem dX12_byteHere_5 : decode cX12_byteHere 5 = .ok (.if_icmp .ge 12, 3) := by decide +kernel
theorem dX12_byteHere_8 : decode cX12_byteHere 8 = .ok (.aload_n 0, 1) := by decide +kernel
theorem dX12_byteHere_9 : decode cX12_byteHere 9 = .ok (.getfield 20, 3) := by decide +kernel
theorem dX12_byteHere_12 : decode cX12_byteHere 12 = .ok (.iload_n 1, 1) := by decide +kernel
theorem dX12_byteHere_13 : decode cX12_byteHere 13 = .ok (.iaload, 1) := by decide +kernel
theorem dX12_byteHere_14 : decode cX12_byteHere 14 = .ok (.goto 4, 3) := by decide +kernel
theorem dX12_byteHere_17 : decode cX12_byteHere 17 = .ok (.iconst (-1), 1) := by decide +kernel
theorem dX12_byteHere_18 : decode cX12_byteHere 18 = .ok (.ireturn, 1) := by decide +kernel
theorem dX12_isDigit_0 : decode cX12_isDigit 0 = .ok (.iload_n 0, 1) := by decide +kernel
theorem dX12_isDigit_1 : decode cX12_isDigit 1 = .ok (.bipush 48, 2) := by decide +kernel
theorem dX12_isDigit_3 : decode cX12_isDigit 3 = .ok (.if_icmp .lt 13, 3) := by decide +kernel
theorem dX12_isDigit_6 : decode cX12_isDigit 6 = .ok (.iload_n 0, 1) := by decide +kernel
theorem dX12_isDigit_7 : decode cX12_isDigit 7 = .ok (.bipush 57, 2) := by decide +kernel
theorem dX12_isDigit_9 : decode cX12_isDigit 9 = .ok (.if_icmp .gt 7, 3) := by decide +kernel
theorem dX12_isDigit_12 : decode cX12_isDigit 12 = .ok (.iconst 1, 1) := by decide +kernel
theorem dX12_isDigit_13 : decode cX12_isDigit 13 = .ok (.goto 4, 3) := by decide +kernel
theorem dX12_isDigit_16 : decode cX12_isDigit 16 = .ok (.iconst 0, 1) := by decide +kernel
theorem dX12_isDigit_17 : decode cX12_isDigit 17 = .ok (.ireturn, 1) := by decide +kernel
theorem dX12_plan_0 : decode cX12_plan 0 = .ok (.aload_n 0, 1) := by decide +kernel
theorem dX12_plan_1 : decode cX12_plan 1 = .ok (.getfield 318, 3) := by decide +kernel
theorem dX12_plan_4 : decode cX12_plan 4 = .ok (.bipush 8, 2) := by decide +kernel
theorem dX12_plan_6 : decode cX12_plan 6 = .ok (.if_icmp .ne 6, 3) := by decide +kernel
theorem dX12_plan_9 : decode cX12_plan 9 = .ok (.bipush (-4), 2) := by decide +kernel
theorem dX12_plan_11 : decode cX12_plan 11 = .ok (.ireturn, 1) := by decide +kernel
theorem dX12_plan_12 : decode cX12_plan 12 = .ok (.iconst 0, 1) := by decide +kernel
theorem dX12_plan_13 : decode cX12_plan 13 = .ok (.istore_n 1, 1) := by decide +kernel
theorem dX12_plan_14 : decode cX12_plan 14 = .ok (.iconst 0, 1) := by decide +kernel
theorem dX12_plan_15 : decode cX12_plan 15 = .ok (.istore_n 2, 1) := by decide +kernel
theorem dX12_plan_16 : decode cX12_plan 16 = .ok (.iconst 0, 1) := by decide +kernel
theorem dX12_plan_17 : decode cX12_plan 17 = .ok (.istore_n 3, 1) := by decide +kernel
theorem dX12_plan_18 : decode cX12_plan 18 = .ok (.aload_n 0, 1) := by decide +kernel
theorem dX12_plan_19 : decode cX12_plan 19 = .ok (.getfield 176, 3) := by decide +kernel
theorem dX12_plan_22 : decode cX12_plan 22 = .ok (.ifCond .ne 7, 3) := by decide +kernel
theorem dX12_plan_25 : decode cX12_plan 25 = .ok (.iconst 0, 1) := by decide +kernel
theorem dX12_plan_26 : decode cX12_plan 26 = .ok (.goto 4, 3) := by decide +kernel
theorem dX12_plan_29 : decode cX12_plan 29 = .ok (.iconst (-1), 1) := by decide +kernel
theorem dX12_plan_30 : decode cX12_plan 30 = .ok (.istore 4, 2) := by decide +kernel
theorem dX12_plan_32 : decode cX12_plan 32 = .ok (.iload 4, 2) := by decide +kernel
theorem dX12_plan_34 : decode cX12_plan 34 = .ok (.iconst (-1), 1) := by decide +kernel
theorem dX12_plan_35 : decode cX12_plan 35 = .ok (.if_icmp .ne 192, 3) := by decide +kernel
theorem dX12_plan_38 : decode cX12_plan 38 = .ok (.iload_n 1, 1) := by decide +kernel
theorem dX12_plan_39 : decode cX12_plan 39 = .ok (.aload_n 0, 1) := by decide +kernel
theorem dX12_plan_40 : decode cX12_plan 40 = .ok (.getfield 176, 3) := by decide +kernel
theorem dX12_plan_43 : decode cX12_plan 43 = .ok (.if_icmp .ge 184, 3) := by decide +kernel
theorem dX12_plan_46 : decode cX12_plan 46 = .ok (.aload_n 0, 1) := by decide +kernel
theorem dX12_plan_47 : decode cX12_plan 47 = .ok (.iload_n 1, 1) := by decide +kernel
theorem dX12_plan_48 : decode cX12_plan 48 = .ok (.invokevirtual 321, 3) := by decide +kernel
theorem dX12_plan_51 : decode cX12_plan 51 = .ok (.invokestatic 324, 3) := by decide +kernel
theorem dX12_plan_54 : decode cX12_plan 54 = .ok (.istore 5, 2) := by decide +kernel
theorem dX12_plan_56 : decode cX12_plan 56 = .ok (.iload 5, 2) := by decide +kernel
theorem dX12_plan_58 : decode cX12_plan 58 = .ok (.iconst (-1), 1) := by decide +kernel
theorem dX12_plan_59 : decode cX12_plan 59 = .ok (.if_icmp .eq 9, 3) := by decide +kernel
theorem dX12_plan_62 : decode cX12_plan 62 = .ok (.iload_n 2, 1) := by decide +kernel
theorem dX12_plan_63 : decode cX12_plan 63 = .ok (.bipush 12, 2) := by decide +kernel
theorem dX12_plan_65 : decode cX12_plan 65 = .ok (.if_icmp .ne 9, 3) := by decide +kernel
theorem dX12_plan_68 : decode cX12_plan 68 = .ok (.iload_n 1, 1) := by decide +kernel
theorem dX12_plan_69 : decode cX12_plan 69 = .ok (.istore 4, 2) := by decide +kernel
theorem dX12_plan_71 : decode cX12_plan 71 = .ok (.goto (-39), 3) := by decide +kernel
theorem dX12_plan_74 : decode cX12_plan 74 = .ok (.iinc 1 1, 3) := by decide +kernel
theorem dX12_plan_77 : decode cX12_plan 77 = .ok (.iload_n 1, 1) := by decide +kernel
theorem dX12_plan_78 : decode cX12_plan 78 = .ok (.istore 6, 2) := by decide +kernel
theorem dX12_plan_80 : decode cX12_plan 80 = .ok (.iconst 0, 1) := by decide +kernel
theorem dX12_plan_81 : decode cX12_plan 81 = .ok (.istore 7, 2) := by decide +kernel
theorem dX12_plan_83 : decode cX12_plan 83 = .ok (.aload_n 0, 1) := by decide +kernel
theorem dX12_plan_84 : decode cX12_plan 84 = .ok (.iload_n 1, 1) := by decide +kernel
theorem dX12_plan_85 : decode cX12_plan 85 = .ok (.invokevirtual 321, 3) := by decide +kernel
theorem dX12_plan_88 : decode cX12_plan 88 = .ok (.invokestatic 327, 3) := by decide +kernel
theorem dX12_plan_91 : decode cX12_plan 91 = .ok (.ifCond .eq 61, 3) := by decide +kernel
theorem dX12_plan_94 : decode cX12_plan 94 = .ok (.aload_n 0, 1) := by decide +kernel
theorem dX12_plan_95 : decode cX12_plan 95 = .ok (.iload_n 1, 1) := by decide +kernel
theorem dX12_plan_96 : decode cX12_plan 96 = .ok (.invokevirtual 321, 3) := by decide +kernel
theorem dX12_plan_99 : decode cX12_plan 99 = .ok (.bipush 48, 2) := by decide +kernel
theorem dX12_plan_101 : decode cX12_plan 101 = .ok (.isub, 1) := by decide +kernel
theorem dX12_plan_102 : decode cX12_plan 102 = .ok (.istore 7, 2) := by decide +kernel
theorem dX12_plan_104 : decode cX12_plan 104 = .ok (.iinc 1 1, 3) := by decide +kernel
theorem dX12_plan_107 : decode cX12_plan 107 = .ok (.aload_n 0, 1) := by decide +kernel
theorem dX12_plan_108 : decode cX12_plan 108 = .ok (.iload_n 1, 1) := by decide +kernel
theorem dX12_plan_109 : decode cX12_plan 109 = .ok (.invokevirtual 321, 3) := by decide +kernel
theorem dX12_plan_112 : decode cX12_plan 112 = .ok (.invokestatic 327, 3) := by decide +kernel
theorem dX12_plan_115 : decode cX12_plan 115 = .ok (.ifCond .eq 37, 3) := by decide +kernel
theorem dX12_plan_118 : decode cX12_plan 118 = .ok (.iload 7, 2) := by decide +kernel
theorem dX12_plan_120 : decode cX12_plan 120 = .ok (.ifCond .gt 13, 3) := by decide +kernel
theorem dX12_plan_123 : decode cX12_plan 123 = .ok (.aload_n 0, 1) := by decide +kernel
theorem dX12_plan_124 : decode cX12_plan 124 = .ok (.iload_n 1, 1) := by decide +kernel
theorem dX12_plan_125 : decode cX12_plan 125 = .ok (.invokevirtual 321, 3) := by decide +kernel
theorem dX12_plan_128 : decode cX12_plan 128 = .ok (.bipush 48, 2) := by decide +kernel
theorem dX12_plan_130 : decode cX12_plan 130 = .ok (.if_icmp .le 22, 3) := by decide +kernel
theorem dX12_plan_133 : decode cX12_plan 133 = .ok (.bipush 10, 2) := by decide +kernel
theorem dX12_plan_135 : decode cX12_plan 135 = .ok (.iload 7, 2) := by decide +kernel
theorem dX12_plan_137 : decode cX12_plan 137 = .ok (.imul, 1) := by decide +kernel
theorem dX12_plan_138 : decode cX12_plan 138 = .ok (.aload_n 0, 1) := by decide +kernel
theorem dX12_plan_139 : decode cX12_plan 139 = .ok (.iload_n 1, 1) := by decide +kernel
theorem dX12_plan_140 : decode cX12_plan 140 = .ok (.invokevirtual 321, 3) := by decide +kernel
theorem dX12_plan_143 : decode cX12_plan 143 = .ok (.iadd, 1) := by decide +kernel
theorem dX12_plan_144 : decode cX12_plan 144 = .ok (.bipush 48, 2) := by decide +kernel
theorem dX12_plan_146 : decode cX12_plan 146 = .ok (.isub, 1) := by decide +kernel
theorem dX12_plan_147 : decode cX12_plan 147 = .ok (.istore 7, 2) := by decide +kernel
theorem dX12_plan_149 : decode cX12_plan 149 = .ok (.iinc 1 1, 3) := by decide +kernel
theorem dX12_plan_152 : decode cX12_plan 152 = .ok (.iload 7, 2) := by decide +kernel
theorem dX12_plan_154 : decode cX12_plan 154 = .ok (.ifCond .ne 9, 3) := by decide +kernel
theorem dX12_plan_157 : decode cX12_plan 157 = .ok (.iload_n 1, 1) := by decide +kernel
theorem dX12_plan_158 : decode cX12_plan 158 = .ok (.istore 4, 2) := by decide +kernel
theorem dX12_plan_160 : decode cX12_plan 160 = .ok (.goto 64, 3) := by decide +kernel
theorem dX12_plan_163 : decode cX12_plan 163 = .ok (.iload_n 3, 1) := by decide +kernel
theorem dX12_plan_164 : decode cX12_plan 164 = .ok (.iload 7, 2) := by decide +kernel
theorem dX12_plan_166 : decode cX12_plan 166 = .ok (.iadd, 1) := by decide +kernel
theorem dX12_plan_167 : decode cX12_plan 167 = .ok (.sipush 200, 3) := by decide +kernel
theorem dX12_plan_170 : decode cX12_plan 170 = .ok (.if_icmp .le 10, 3) := by decide +kernel
theorem dX12_plan_173 : decode cX12_plan 173 = .ok (.iload 6, 2) := by decide +kernel
theorem dX12_plan_175 : decode cX12_plan 175 = .ok (.istore 4, 2) := by decide +kernel
theorem dX12_plan_177 : decode cX12_plan 177 = .ok (.goto 47, 3) := by decide +kernel
theorem dX12_plan_180 : decode cX12_plan 180 = .ok (.iconst 0, 1) := by decide +kernel
theorem dX12_plan_181 : decode cX12_plan 181 = .ok (.istore 8, 2) := by decide +kernel
theorem dX12_plan_183 : decode cX12_plan 183 = .ok (.iload 8, 2) := by decide +kernel
theorem dX12_plan_185 : decode cX12_plan 185 = .ok (.iload 7, 2) := by decide +kernel
theorem dX12_plan_187 : decode cX12_plan 187 = .ok (.if_icmp .ge 29, 3) := by decide +kernel
theorem dX12_plan_190 : decode cX12_plan 190 = .ok (.aload_n 0, 1) := by decide +kernel
theorem dX12_plan_191 : decode cX12_plan 191 = .ok (.getfield 47, 3) := by decide +kernel
theorem dX12_plan_194 : decode cX12_plan 194 = .ok (.sipush 200, 3) := by decide +kernel
theorem dX12_plan_197 : decode cX12_plan 197 = .ok (.aload_n 0, 1) := by decide +kernel
theorem dX12_plan_198 : decode cX12_plan 198 = .ok (.getfield 318, 3) := by decide +kernel
theorem dX12_plan_201 : decode cX12_plan 201 = .ok (.imul, 1) := by decide +kernel
theorem dX12_plan_202 : decode cX12_plan 202 = .ok (.iload_n 3, 1) := by decide +kernel
theorem dX12_plan_203 : decode cX12_plan 203 = .ok (.iadd, 1) := by decide +kernel
theorem dX12_plan_204 : decode cX12_plan 204 = .ok (.iload 8, 2) := by decide +kernel
theorem dX12_plan_206 : decode cX12_plan 206 = .ok (.iadd, 1) := by decide +kernel
theorem dX12_plan_207 : decode cX12_plan 207 = .ok (.iload 5, 2) := by decide +kernel
theorem dX12_plan_209 : decode cX12_plan 209 = .ok (.iastore, 1) := by decide +kernel
theorem dX12_plan_210 : decode cX12_plan 210 = .ok (.iinc 8 1, 3) := by decide +kernel
theorem dX12_plan_213 : decode cX12_plan 213 = .ok (.goto (-30), 3) := by decide +kernel
theorem dX12_plan_216 : decode cX12_plan 216 = .ok (.iload_n 3, 1) := by decide +kernel
theorem dX12_plan_217 : decode cX12_plan 217 = .ok (.iload 7, 2) := by decide +kernel
theorem dX12_plan_219 : decode cX12_plan 219 = .ok (.iadd, 1) := by decide +kernel
theorem dX12_plan_220 : decode cX12_plan 220 = .ok (.istore_n 3, 1) := by decide +kernel
theorem dX12_plan_221 : decode cX12_plan 221 = .ok (.iinc 2 1, 3) := by decide +kernel
theorem dX12_plan_224 : decode cX12_plan 224 = .ok (.goto (-192), 3) := by decide +kernel
theorem dX12_plan_227 : decode cX12_plan 227 = .ok (.aload_n 0, 1) := by decide +kernel
theorem dX12_plan_228 : decode cX12_plan 228 = .ok (.iconst 0, 1) := by decide +kernel
theorem dX12_plan_229 : decode cX12_plan 229 = .ok (.putfield 176, 3) := by decide +kernel
theorem dX12_plan_232 : decode cX12_plan 232 = .ok (.iload 4, 2) := by decide +kernel
theorem dX12_plan_234 : decode cX12_plan 234 = .ok (.iconst (-1), 1) := by decide +kernel
theorem dX12_plan_235 : decode cX12_plan 235 = .ok (.if_icmp .eq 9, 3) := by decide +kernel
theorem dX12_plan_238 : decode cX12_plan 238 = .ok (.bipush (-100), 2) := by decide +kernel
theorem dX12_plan_240 : decode cX12_plan 240 = .ok (.iload 4, 2) := by decide +kernel
theorem dX12_plan_242 : decode cX12_plan 242 = .ok (.isub, 1) := by decide +kernel
theorem dX12_plan_243 : decode cX12_plan 243 = .ok (.ireturn, 1) := by decide +kernel
theorem dX12_plan_244 : decode cX12_plan 244 = .ok (.aload_n 0, 1) := by decide +kernel
theorem dX12_plan_245 : decode cX12_plan 245 = .ok (.getfield 44, 3) := by decide +kernel
theorem dX12_plan_248 : decode cX12_plan 248 = .ok (.aload_n 0, 1) := by decide +kernel
theorem dX12_plan_249 : decode cX12_plan 249 = .ok (.getfield 318, 3) := by decide +kernel
theorem dX12_plan_252 : decode cX12_plan 252 = .ok (.iload_n 3, 1) := by decide +kernel
theorem dX12_plan_253 : decode cX12_plan 253 = .ok (.iastore, 1) := by decide +kernel
theorem dX12_plan_254 : decode cX12_plan 254 = .ok (.aload_n 0, 1) := by decide +kernel
theorem dX12_plan_255 : decode cX12_plan 255 = .ok (.dup, 1) := by decide +kernel
theorem dX12_plan_256 : decode cX12_plan 256 = .ok (.getfield 318, 3) := by decide +kernel
theorem dX12_plan_259 : decode cX12_plan 259 = .ok (.iconst 1, 1) := by decide +kernel
theorem dX12_plan_260 : decode cX12_plan 260 = .ok (.iadd, 1) := by decide +kernel
theorem dX12_plan_261 : decode cX12_plan 261 = .ok (.putfield 318, 3) := by decide +kernel
theorem dX12_plan_264 : decode cX12_plan 264 = .ok (.aload_n 0, 1) := by decide +kernel
theorem dX12_plan_265 : decode cX12_plan 265 = .ok (.getfield 318, 3) := by decide +kernel
theorem dX12_plan_268 : decode cX12_plan 268 = .ok (.iconst 1, 1) := by decide +kernel
theorem dX12_plan_269 : decode cX12_plan 269 = .ok (.isub, 1) := by decide +kernel
theorem dX12_plan_270 : decode cX12_plan 270 = .ok (.ireturn, 1) := by decide +kernel
theorem dX12_isPlan_0 : decode cX12_isPlan 0 = .ok (.iload_n 1, 1) := by decide +kernel
theorem dX12_isPlan_1 : decode cX12_isPlan 1 = .ok (.i2l, 1) := by decide +kernel
theorem dX12_isPlan_2 : decode cX12_isPlan 2 = .ok (.lconst 0, 1) := by decide +kernel
theorem dX12_isPlan_3 : decode cX12_isPlan 3 = .ok (.aload_n 0, 1) := by decide +kernel
theorem dX12_isPlan_4 : decode cX12_isPlan 4 = .ok (.getfield 318, 3) := by decide +kernel
theorem dX12_isPlan_7 : decode cX12_isPlan 7 = .ok (.iconst 1, 1) := by decide +kernel
theorem dX12_isPlan_8 : decode cX12_isPlan 8 = .ok (.isub, 1) := by decide +kernel
theorem dX12_isPlan_9 : decode cX12_isPlan 9 = .ok (.i2l, 1) := by decide +kernel
theorem dX12_isPlan_10 : decode cX12_isPlan 10 = .ok (.invokestatic 125, 3) := by decide +kernel
theorem dX12_isPlan_13 : decode cX12_isPlan 13 = .ok (.ireturn, 1) := by decide +kernel
theorem dX12_planned_0 : decode cX12_planned 0 = .ok (.aload_n 0, 1) := by decide +kernel
theorem dX12_planned_1 : decode cX12_planned 1 = .ok (.iload_n 1, 1) := by decide +kernel
theorem dX12_planned_2 : decode cX12_planned 2 = .ok (.invokevirtual 330, 3) := by decide +kernel
theorem dX12_planned_5 : decode cX12_planned 5 = .ok (.ifCond .eq 23, 3) := by decide +kernel
theorem dX12_planned_8 : decode cX12_planned 8 = .ok (.iload_n 2, 1) := by decide +kernel
theorem dX12_planned_9 : decode cX12_planned 9 = .ok (.i2l, 1) := by decide +kernel
theorem dX12_planned_10 : decode cX12_planned 10 = .ok (.ldc2_w 209, 3) := by decide +kernel
theorem dX12_planned_13 : decode cX12_planned 13 = .ok (.aload_n 0, 1) := by decide +kernel
theorem dX12_planned_14 : decode cX12_planned 14 = .ok (.getfield 44, 3) := by decide +kernel
theorem dX12_planned_17 : decode cX12_planned 17 = .ok (.iload_n 1, 1) := by decide +kernel
theorem dX12_planned_18 : decode cX12_planned 18 = .ok (.iaload, 1) := by decide +kernel
theorem dX12_planned_19 : decode cX12_planned 19 = .ok (.iconst 1, 1) := by decide +kernel
theorem dX12_planned_20 : decode cX12_planned 20 = .ok (.isub, 1) := by decide +kernel
theorem dX12_planned_21 : decode cX12_planned 21 = .ok (.i2l, 1) := by decide +kernel
theorem dX12_planned_22 : decode cX12_planned 22 = .ok (.invokestatic 125, 3) := by decide +kernel
theorem dX12_planned_25 : decode cX12_planned 25 = .ok (.ifCond .ne 5, 3) := by decide +kernel
theorem dX12_planned_28 : decode cX12_planned 28 = .ok (.iconst (-1), 1) := by decide +kernel
theorem dX12_planned_29 : decode cX12_planned 29 = .ok (.ireturn, 1) := by decide +kernel
theorem dX12_planned_30 : decode cX12_planned 30 = .ok (.iload_n 2, 1) := by decide +kernel
theorem dX12_planned_31 : decode cX12_planned 31 = .ok (.iconst (-1), 1) := by decide +kernel
theorem dX12_planned_32 : decode cX12_planned 32 = .ok (.if_icmp .ne 12, 3) := by decide +kernel
theorem dX12_planned_35 : decode cX12_planned 35 = .ok (.aload_n 0, 1) := by decide +kernel
theorem dX12_planned_36 : decode cX12_planned 36 = .ok (.getfield 44, 3) := by decide +kernel
theorem dX12_planned_39 : decode cX12_planned 39 = .ok (.iload_n 1, 1) := by decide +kernel
theorem dX12_planned_40 : decode cX12_planned 40 = .ok (.iaload, 1) := by decide +kernel
theorem dX12_planned_41 : decode cX12_planned 41 = .ok (.goto 15, 3) := by decide +kernel
theorem dX12_planned_44 : decode cX12_planned 44 = .ok (.aload_n 0, 1) := by decide +kernel
theorem dX12_planned_45 : decode cX12_planned 45 = .ok (.getfield 47, 3) := by decide +kernel
theorem dX12_planned_48 : decode cX12_planned 48 = .ok (.sipush 200, 3) := by decide +kernel
theorem dX12_planned_51 : decode cX12_planned 51 = .ok (.iload_n 1, 1) := by decide +kernel
theorem dX12_planned_52 : decode cX12_planned 52 = .ok (.imul, 1) := by decide +kernel
theorem dX12_planned_53 : decode cX12_planned 53 = .ok (.iload_n 2, 1) := by decide +kernel
theorem dX12_planned_54 : decode cX12_planned 54 = .ok (.iadd, 1) := by decide +kernel
theorem dX12_planned_55 : decode cX12_planned 55 = .ok (.iaload, 1) := by decide +kernel
theorem dX12_planned_56 : decode cX12_planned 56 = .ok (.ireturn, 1) := by decide +kernel
theorem dX12_allWeights_0 : decode cX12_allWeights 0 = .ok (.iconst 0, 1) := by decide +kernel
theorem dX12_allWeights_1 : decode cX12_allWeights 1 = .ok (.istore_n 1, 1) := by decide +kernel
theorem dX12_allWeights_2 : decode cX12_allWeights 2 = .ok (.iconst 0, 1) := by decide +kernel
theorem dX12_allWeights_3 : decode cX12_allWeights 3 = .ok (.istore_n 2, 1) := by decide +kernel
theorem dX12_allWeights_4 : decode cX12_allWeights 4 = .ok (.iload_n 2, 1) := by decide +kernel
theorem dX12_allWeights_5 : decode cX12_allWeights 5 = .ok (.bipush 8, 2) := by decide +kernel
theorem dX12_allWeights_7 : decode cX12_allWeights 7 = .ok (.if_icmp .ge 37, 3) := by decide +kernel
theorem dX12_allWeights_10 : decode cX12_allWeights 10 = .ok (.iload_n 1, 1) := by decide +kernel
theorem dX12_allWeights_11 : decode cX12_allWeights 11 = .ok (.aload_n 0, 1) := by decide +kernel
theorem dX12_allWeights_12 : decode cX12_allWeights 12 = .ok (.getfield 35, 3) := by decide +kernel
theorem dX12_allWeights_15 : decode cX12_allWeights 15 = .ok (.iload_n 2, 1) := by decide +kernel
theorem dX12_allWeights_16 : decode cX12_allWeights 16 = .ok (.iaload, 1) := by decide +kernel
theorem dX12_allWeights_17 : decode cX12_allWeights 17 = .ok (.iconst (-1), 1) := by decide +kernel
theorem dX12_allWeights_18 : decode cX12_allWeights 18 = .ok (.if_icmp .ne 7, 3) := by decide +kernel
theorem dX12_allWeights_21 : decode cX12_allWeights 21 = .ok (.iconst 0, 1) := by decide +kernel
theorem dX12_allWeights_22 : decode cX12_allWeights 22 = .ok (.goto 14, 3) := by decide +kernel
theorem dX12_allWeights_25 : decode cX12_allWeights 25 = .ok (.aload_n 0, 1) := by decide +kernel
theorem dX12_allWeights_26 : decode cX12_allWeights 26 = .ok (.getfield 23, 3) := by decide +kernel
theorem dX12_allWeights_29 : decode cX12_allWeights 29 = .ok (.aload_n 0, 1) := by decide +kernel
theorem dX12_allWeights_30 : decode cX12_allWeights 30 = .ok (.getfield 35, 3) := by decide +kernel
theorem dX12_allWeights_33 : decode cX12_allWeights 33 = .ok (.iload_n 2, 1) := by decide +kernel
theorem dX12_allWeights_34 : decode cX12_allWeights 34 = .ok (.iaload, 1) := by decide +kernel
theorem dX12_allWeights_35 : decode cX12_allWeights 35 = .ok (.iaload, 1) := by decide +kernel
theorem dX12_allWeights_36 : decode cX12_allWeights 36 = .ok (.iadd, 1) := by decide +kernel
theorem dX12_allWeights_37 : decode cX12_allWeights 37 = .ok (.istore_n 1, 1) := by decide +kernel
theorem dX12_allWeights_38 : decode cX12_allWeights 38 = .ok (.iinc 2 1, 3) := by decide +kernel
theorem dX12_allWeights_41 : decode cX12_allWeights 41 = .ok (.goto (-37), 3) := by decide +kernel
theorem dX12_allWeights_44 : decode cX12_allWeights 44 = .ok (.iload_n 1, 1) := by decide +kernel
theorem dX12_allWeights_45 : decode cX12_allWeights 45 = .ok (.ireturn, 1) := by decide +kernel
theorem dX12_begins_0 : decode cX12_begins 0 = .ok (.iconst 0, 1) := by decide +kernel
theorem dX12_begins_1 : decode cX12_begins 1 = .ok (.istore_n 1, 1) := by decide +kernel
theorem dX12_begins_2 : decode cX12_begins 2 = .ok (.iload_n 1, 1) := by decide +kernel
theorem dX12_begins_3 : decode cX12_begins 3 = .ok (.aload_n 0, 1) := by decide +kernel
theorem dX12_begins_4 : decode cX12_begins 4 = .ok (.getfield 122, 3) := by decide +kernel
theorem dX12_begins_7 : decode cX12_begins 7 = .ok (.if_icmp .ge 21, 3) := by decide +kernel
theorem dX12_begins_10 : decode cX12_begins 10 = .ok (.aload_n 0, 1) := by decide +kernel
theorem dX12_begins_11 : decode cX12_begins 11 = .ok (.getfield 50, 3) := by decide +kernel
theorem dX12_begins_14 : decode cX12_begins 14 = .ok (.iload_n 1, 1) := by decide +kernel
theorem dX12_begins_15 : decode cX12_begins 15 = .ok (.aload_n 0, 1) := by decide +kernel
theorem dX12_begins_16 : decode cX12_begins 16 = .ok (.getfield 29, 3) := by decide +kernel
theorem dX12_begins_19 : decode cX12_begins 19 = .ok (.iload_n 1, 1) := by decide +kernel
theorem dX12_begins_20 : decode cX12_begins 20 = .ok (.iaload, 1) := by decide +kernel
theorem dX12_begins_21 : decode cX12_begins 21 = .ok (.iastore, 1) := by decide +kernel
theorem dX12_begins_22 : decode cX12_begins 22 = .ok (.iinc 1 1, 3) := by decide +kernel
theorem dX12_begins_25 : decode cX12_begins 25 = .ok (.goto (-23), 3) := by decide +kernel
theorem dX12_begins_28 : decode cX12_begins 28 = .ok (.aload_n 0, 1) := by decide +kernel
theorem dX12_begins_29 : decode cX12_begins 29 = .ok (.iconst 0, 1) := by decide +kernel
theorem dX12_begins_30 : decode cX12_begins 30 = .ok (.putfield 333, 3) := by decide +kernel
theorem dX12_begins_33 : decode cX12_begins 33 = .ok (.aload_n 0, 1) := by decide +kernel
theorem dX12_begins_34 : decode cX12_begins 34 = .ok (.lconst 0, 1) := by decide +kernel
theorem dX12_begins_35 : decode cX12_begins 35 = .ok (.putfield 336, 3) := by decide +kernel
theorem dX12_begins_38 : decode cX12_begins 38 = .ok (.aload_n 0, 1) := by decide +kernel
theorem dX12_begins_39 : decode cX12_begins 39 = .ok (.lconst 0, 1) := by decide +kernel
theorem dX12_begins_40 : decode cX12_begins 40 = .ok (.putfield 339, 3) := by decide +kernel
theorem dX12_begins_43 : decode cX12_begins 43 = .ok (.aload_n 0, 1) := by decide +kernel
theorem dX12_begins_44 : decode cX12_begins 44 = .ok (.lconst 0, 1) := by decide +kernel
theorem dX12_begins_45 : decode cX12_begins 45 = .ok (.putfield 342, 3) := by decide +kernel
theorem dX12_begins_48 : decode cX12_begins 48 = .ok (.aload_n 0, 1) := by decide +kernel
theorem dX12_begins_49 : decode cX12_begins 49 = .ok (.lconst 0, 1) := by decide +kernel
theorem dX12_begins_50 : decode cX12_begins 50 = .ok (.putfield 345, 3) := by decide +kernel
theorem dX12_begins_53 : decode cX12_begins 53 = .ok (.aload_n 0, 1) := by decide +kernel
theorem dX12_begins_54 : decode cX12_begins 54 = .ok (.iconst 0, 1) := by decide +kernel
theorem dX12_begins_55 : decode cX12_begins 55 = .ok (.putfield 348, 3) := by decide +kernel
theorem dX12_begins_58 : decode cX12_begins 58 = .ok (.return_, 1) := by decide +kernel
theorem dX12_within_0 : decode cX12_within 0 = .ok (.iload_n 0, 1) := by decide +kernel
theorem dX12_within_1 : decode cX12_within 1 = .ok (.iload_n 1, 1) := by decide +kernel
theorem dX12_within_2 : decode cX12_within 2 = .ok (.if_icmp .ge 7, 3) := by decide +kernel
theorem dX12_within_5 : decode cX12_within 5 = .ok (.iload_n 1, 1) := by decide +kernel
theorem dX12_within_6 : decode cX12_within 6 = .ok (.goto 13, 3) := by decide +kernel
theorem dX12_within_9 : decode cX12_within 9 = .ok (.iload_n 0, 1) := by decide +kernel
theorem dX12_within_10 : decode cX12_within 10 = .ok (.iload_n 2, 1) := by decide +kernel
theorem dX12_within_11 : decode cX12_within 11 = .ok (.if_icmp .le 7, 3) := by decide +kernel
theorem dX12_within_14 : decode cX12_within 14 = .ok (.iload_n 2, 1) := by decide +kernel
theorem dX12_within_15 : decode cX12_within 15 = .ok (.goto 4, 3) := by decide +kernel
theorem dX12_within_18 : decode cX12_within 18 = .ok (.iload_n 0, 1) := by decide +kernel
theorem dX12_within_19 : decode cX12_within 19 = .ok (.ireturn, 1) := by decide +kernel
theorem dX12_givesOf_0 : decode cX12_givesOf 0 = .ok (.aload_n 0, 1) := by decide +kernel
theorem dX12_givesOf_1 : decode cX12_givesOf 1 = .ok (.getfield 35, 3) := by decide +kernel
theorem dX12_givesOf_4 : decode cX12_givesOf 4 = .ok (.iload_n 1, 1) := by decide +kernel
theorem dX12_givesOf_5 : decode cX12_givesOf 5 = .ok (.iaload, 1) := by decide +kernel
theorem dX12_givesOf_6 : decode cX12_givesOf 6 = .ok (.istore_n 2, 1) := by decide +kernel
theorem dX12_givesOf_7 : decode cX12_givesOf 7 = .ok (.aload_n 0, 1) := by decide +kernel
theorem dX12_givesOf_8 : decode cX12_givesOf 8 = .ok (.aload_n 0, 1) := by decide +kernel
theorem dX12_givesOf_9 : decode cX12_givesOf 9 = .ok (.getfield 315, 3) := by decide +kernel
theorem dX12_givesOf_12 : decode cX12_givesOf 12 = .ok (.iload_n 2, 1) := by decide +kernel
theorem dX12_givesOf_13 : decode cX12_givesOf 13 = .ok (.iload_n 1, 1) := by decide +kernel
theorem dX12_givesOf_14 : decode cX12_givesOf 14 = .ok (.aload_n 0, 1) := by decide +kernel
theorem dX12_givesOf_15 : decode cX12_givesOf 15 = .ok (.getfield 333, 3) := by decide +kernel
theorem dX12_givesOf_18 : decode cX12_givesOf 18 = .ok (.aload_n 0, 1) := by decide +kernel
theorem dX12_givesOf_19 : decode cX12_givesOf 19 = .ok (.getfield 348, 3) := by decide +kernel
theorem dX12_givesOf_22 : decode cX12_givesOf 22 = .ok (.iconst 0, 1) := by decide +kernel
theorem dX12_givesOf_23 : decode cX12_givesOf 23 = .ok (.invokevirtual 311, 3) := by decide +kernel
theorem dX12_givesOf_26 : decode cX12_givesOf 26 = .ok (.iconst 0, 1) := by decide +kernel
theorem dX12_givesOf_27 : decode cX12_givesOf 27 = .ok (.sipush 999, 3) := by decide +kernel
theorem dX12_givesOf_30 : decode cX12_givesOf 30 = .ok (.invokestatic 351, 3) := by decide +kernel
theorem dX12_givesOf_33 : decode cX12_givesOf 33 = .ok (.istore_n 3, 1) := by decide +kernel
theorem dX12_givesOf_34 : decode cX12_givesOf 34 = .ok (.aload_n 0, 1) := by decide +kernel
theorem dX12_givesOf_35 : decode cX12_givesOf 35 = .ok (.getfield 50, 3) := by decide +kernel
theorem dX12_givesOf_38 : decode cX12_givesOf 38 = .ok (.iload_n 2, 1) := by decide +kernel
theorem dX12_givesOf_39 : decode cX12_givesOf 39 = .ok (.iaload, 1) := by decide +kernel
theorem dX12_givesOf_40 : decode cX12_givesOf 40 = .ok (.ifCond .ne 9, 3) := by decide +kernel
theorem dX12_givesOf_43 : decode cX12_givesOf 43 = .ok (.iload_n 3, 1) := by decide +kernel
theorem dX12_givesOf_44 : decode cX12_givesOf 44 = .ok (.iconst 2, 1) := by decide +kernel
theorem dX12_givesOf_45 : decode cX12_givesOf 45 = .ok (.idiv, 1) := by decide +kernel
theorem dX12_givesOf_46 : decode cX12_givesOf 46 = .ok (.goto 4, 3) := by decide +kernel
theorem dX12_givesOf_49 : decode cX12_givesOf 49 = .ok (.iload_n 3, 1) := by decide +kernel
theorem dX12_givesOf_50 : decode cX12_givesOf 50 = .ok (.ireturn, 1) := by decide +kernel
theorem dX12_strokes_0 : decode cX12_strokes 0 = .ok (.aload_n 0, 1) := by decide +kernel
theorem dX12_strokes_1 : decode cX12_strokes 1 = .ok (.aload_n 0, 1) := by decide +kernel
theorem dX12_strokes_2 : decode cX12_strokes 2 = .ok (.getfield 315, 3) := by decide +kernel
theorem dX12_strokes_5 : decode cX12_strokes 5 = .ok (.aload_n 0, 1) := by decide +kernel
theorem dX12_strokes_6 : decode cX12_strokes 6 = .ok (.getfield 35, 3) := by decide +kernel
theorem dX12_strokes_9 : decode cX12_strokes 9 = .ok (.iconst 0, 1) := by decide +kernel
theorem dX12_strokes_10 : decode cX12_strokes 10 = .ok (.iaload, 1) := by decide +kernel
theorem dX12_strokes_11 : decode cX12_strokes 11 = .ok (.iconst 0, 1) := by decide +kernel
theorem dX12_strokes_12 : decode cX12_strokes 12 = .ok (.aload_n 0, 1) := by decide +kernel
theorem dX12_strokes_13 : decode cX12_strokes 13 = .ok (.getfield 333, 3) := by decide +kernel
theorem dX12_strokes_16 : decode cX12_strokes 16 = .ok (.aload_n 0, 1) := by decide +kernel
theorem dX12_strokes_17 : decode cX12_strokes 17 = .ok (.getfield 348, 3) := by decide +kernel
theorem dX12_strokes_20 : decode cX12_strokes 20 = .ok (.iconst 1, 1) := by decide +kernel
theorem dX12_strokes_21 : decode cX12_strokes 21 = .ok (.invokevirtual 311, 3) := by decide +kernel
theorem dX12_strokes_24 : decode cX12_strokes 24 = .ok (.iconst 0, 1) := by decide +kernel
theorem dX12_strokes_25 : decode cX12_strokes 25 = .ok (.ldc_w 354, 3) := by decide +kernel
theorem dX12_strokes_28 : decode cX12_strokes 28 = .ok (.invokestatic 351, 3) := by decide +kernel
theorem dX12_strokes_31 : decode cX12_strokes 31 = .ok (.i2l, 1) := by decide +kernel
theorem dX12_strokes_32 : decode cX12_strokes 32 = .ok (.aload_n 0, 1) := by decide +kernel
theorem dX12_strokes_33 : decode cX12_strokes 33 = .ok (.getfield 117, 3) := by decide +kernel
theorem dX12_strokes_36 : decode cX12_strokes 36 = .ok (.i2l, 1) := by decide +kernel
theorem dX12_strokes_37 : decode cX12_strokes 37 = .ok (.lmul, 1) := by decide +kernel
theorem dX12_strokes_38 : decode cX12_strokes 38 = .ok (.ldc2_w 355, 3) := by decide +kernel
theorem dX12_strokes_41 : decode cX12_strokes 41 = .ok (.ldiv, 1) := by decide +kernel
theorem dX12_strokes_42 : decode cX12_strokes 42 = .ok (.aload_n 0, 1) := by decide +kernel
theorem dX12_strokes_43 : decode cX12_strokes 43 = .ok (.getfield 156, 3) := by decide +kernel
theorem dX12_strokes_46 : decode cX12_strokes 46 = .ok (.i2l, 1) := by decide +kernel
theorem dX12_strokes_47 : decode cX12_strokes 47 = .ok (.ladd, 1) := by decide +kernel
theorem dX12_strokes_48 : decode cX12_strokes 48 = .ok (.lstore_n 2, 1) := by decide +kernel
theorem dX12_strokes_49 : decode cX12_strokes 49 = .ok (.lload_n 2, 1) := by decide +kernel
theorem dX12_strokes_50 : decode cX12_strokes 50 = .ok (.lconst 0, 1) := by decide +kernel
theorem dX12_strokes_51 : decode cX12_strokes 51 = .ok (.lcmp, 1) := by decide +kernel
theorem dX12_strokes_52 : decode cX12_strokes 52 = .ok (.ifCond .ge 7, 3) := by decide +kernel
theorem dX12_strokes_55 : decode cX12_strokes 55 = .ok (.lconst 0, 1) := by decide +kernel
theorem dX12_strokes_56 : decode cX12_strokes 56 = .ok (.goto 4, 3) := by decide +kernel
theorem dX12_strokes_59 : decode cX12_strokes 59 = .ok (.lload_n 2, 1) := by decide +kernel
theorem dX12_strokes_60 : decode cX12_strokes 60 = .ok (.lstore_n 2, 1) := by decide +kernel
theorem dX12_strokes_61 : decode cX12_strokes 61 = .ok (.lconst 0, 1) := by decide +kernel
theorem dX12_strokes_62 : decode cX12_strokes 62 = .ok (.lstore 4, 2) := by decide +kernel
theorem dX12_strokes_64 : decode cX12_strokes 64 = .ok (.iconst 0, 1) := by decide +kernel
theorem dX12_strokes_65 : decode cX12_strokes 65 = .ok (.istore 6, 2) := by decide +kernel
theorem dX12_strokes_67 : decode cX12_strokes 67 = .ok (.iload 6, 2) := by decide +kernel
theorem dX12_strokes_69 : decode cX12_strokes 69 = .ok (.bipush 8, 2) := by decide +kernel
theorem dX12_strokes_71 : decode cX12_strokes 71 = .ok (.if_icmp .ge 167, 3) := by decide +kernel
theorem dX12_strokes_74 : decode cX12_strokes 74 = .ok (.aload_n 0, 1) := by decide +kernel
theorem dX12_strokes_75 : decode cX12_strokes 75 = .ok (.getfield 53, 3) := by decide +kernel
theorem dX12_strokes_78 : decode cX12_strokes 78 = .ok (.iload 6, 2) := by decide +kernel
theorem dX12_strokes_80 : decode cX12_strokes 80 = .ok (.lconst 0, 1) := by decide +kernel
theorem dX12_strokes_81 : decode cX12_strokes 81 = .ok (.lastore, 1) := by decide +kernel
theorem dX12_strokes_82 : decode cX12_strokes 82 = .ok (.aload_n 0, 1) := by decide +kernel
theorem dX12_strokes_83 : decode cX12_strokes 83 = .ok (.getfield 35, 3) := by decide +kernel
theorem dX12_strokes_86 : decode cX12_strokes 86 = .ok (.iload 6, 2) := by decide +kernel
theorem dX12_strokes_88 : decode cX12_strokes 88 = .ok (.iaload, 1) := by decide +kernel
theorem dX12_strokes_89 : decode cX12_strokes 89 = .ok (.istore 7, 2) := by decide +kernel
theorem dX12_strokes_91 : decode cX12_strokes 91 = .ok (.iload 7, 2) := by decide +kernel
theorem dX12_strokes_93 : decode cX12_strokes 93 = .ok (.iconst (-1), 1) := by decide +kernel
theorem dX12_strokes_94 : decode cX12_strokes 94 = .ok (.if_icmp .ne 6, 3) := by decide +kernel
theorem dX12_strokes_97 : decode cX12_strokes 97 = .ok (.goto 135, 3) := by decide +kernel
theorem dX12_strokes_100 : decode cX12_strokes 100 = .ok (.aload_n 0, 1) := by decide +kernel
theorem dX12_strokes_101 : decode cX12_strokes 101 = .ok (.iload 6, 2) := by decide +kernel
theorem dX12_strokes_103 : decode cX12_strokes 103 = .ok (.invokevirtual 357, 3) := by decide +kernel
theorem dX12_strokes_106 : decode cX12_strokes 106 = .ok (.istore 8, 2) := by decide +kernel
theorem dX12_strokes_108 : decode cX12_strokes 108 = .ok (.aload_n 0, 1) := by decide +kernel
theorem dX12_strokes_109 : decode cX12_strokes 109 = .ok (.getfield 53, 3) := by decide +kernel
theorem dX12_strokes_112 : decode cX12_strokes 112 = .ok (.iload 6, 2) := by decide +kernel
theorem dX12_strokes_114 : decode cX12_strokes 114 = .ok (.iload_n 1, 1) := by decide +kernel
theorem dX12_strokes_115 : decode cX12_strokes 115 = .ok (.iload 8, 2) := by decide +kernel
theorem dX12_strokes_117 : decode cX12_strokes 117 = .ok (.iload 6, 2) := by decide +kernel
theorem dX12_strokes_119 : decode cX12_strokes 119 = .ok (.invokestatic 163, 3) := by decide +kernel
theorem dX12_strokes_122 : decode cX12_strokes 122 = .ok (.i2l, 1) := by decide +kernel
theorem dX12_strokes_123 : decode cX12_strokes 123 = .ok (.aload_n 0, 1) := by decide +kernel
theorem dX12_strokes_124 : decode cX12_strokes 124 = .ok (.getfield 41, 3) := by decide +kernel
theorem dX12_strokes_127 : decode cX12_strokes 127 = .ok (.iload 6, 2) := by decide +kernel
theorem dX12_strokes_129 : decode cX12_strokes 129 = .ok (.iaload, 1) := by decide +kernel
theorem dX12_strokes_130 : decode cX12_strokes 130 = .ok (.i2l, 1) := by decide +kernel
theorem dX12_strokes_131 : decode cX12_strokes 131 = .ok (.lmul, 1) := by decide +kernel
theorem dX12_strokes_132 : decode cX12_strokes 132 = .ok (.ldc2_w 360, 3) := by decide +kernel
theorem dX12_strokes_135 : decode cX12_strokes 135 = .ok (.ldiv, 1) := by decide +kernel
theorem dX12_strokes_136 : decode cX12_strokes 136 = .ok (.lastore, 1) := by decide +kernel
theorem dX12_strokes_137 : decode cX12_strokes 137 = .ok (.aload_n 0, 1) := by decide +kernel
theorem dX12_strokes_138 : decode cX12_strokes 138 = .ok (.getfield 50, 3) := by decide +kernel
theorem dX12_strokes_141 : decode cX12_strokes 141 = .ok (.iload 7, 2) := by decide +kernel
theorem dX12_strokes_143 : decode cX12_strokes 143 = .ok (.aload_n 0, 1) := by decide +kernel
theorem dX12_strokes_144 : decode cX12_strokes 144 = .ok (.getfield 50, 3) := by decide +kernel
theorem dX12_strokes_147 : decode cX12_strokes 147 = .ok (.iload 7, 2) := by decide +kernel
theorem dX12_strokes_149 : decode cX12_strokes 149 = .ok (.iaload, 1) := by decide +kernel
theorem dX12_strokes_150 : decode cX12_strokes 150 = .ok (.iload_n 1, 1) := by decide +kernel
theorem dX12_strokes_151 : decode cX12_strokes 151 = .ok (.iload 8, 2) := by decide +kernel
theorem dX12_strokes_153 : decode cX12_strokes 153 = .ok (.invokestatic 167, 3) := by decide +kernel
theorem dX12_strokes_156 : decode cX12_strokes 156 = .ok (.isub, 1) := by decide +kernel
theorem dX12_strokes_157 : decode cX12_strokes 157 = .ok (.iconst 0, 1) := by decide +kernel
theorem dX12_strokes_158 : decode cX12_strokes 158 = .ok (.sipush 9999, 3) := by decide +kernel
theorem dX12_strokes_161 : decode cX12_strokes 161 = .ok (.invokestatic 351, 3) := by decide +kernel
theorem dX12_strokes_164 : decode cX12_strokes 164 = .ok (.aload_n 0, 1) := by decide +kernel
theorem dX12_strokes_165 : decode cX12_strokes 165 = .ok (.getfield 32, 3) := by decide +kernel
theorem dX12_strokes_168 : decode cX12_strokes 168 = .ok (.iload 7, 2) := by decide +kernel
theorem dX12_strokes_170 : decode cX12_strokes 170 = .ok (.iaload, 1) := by decide +kernel
theorem dX12_strokes_171 : decode cX12_strokes 171 = .ok (.iadd, 1) := by decide +kernel
theorem dX12_strokes_172 : decode cX12_strokes 172 = .ok (.iconst 0, 1) := by decide +kernel
theorem dX12_strokes_173 : decode cX12_strokes 173 = .ok (.sipush 9999, 3) := by decide +kernel
theorem dX12_strokes_176 : decode cX12_strokes 176 = .ok (.invokestatic 351, 3) := by decide +kernel
theorem dX12_strokes_179 : decode cX12_strokes 179 = .ok (.iastore, 1) := by decide +kernel
theorem dX12_strokes_180 : decode cX12_strokes 180 = .ok (.lload 4, 2) := by decide +kernel
theorem dX12_strokes_182 : decode cX12_strokes 182 = .ok (.aload_n 0, 1) := by decide +kernel
theorem dX12_strokes_183 : decode cX12_strokes 183 = .ok (.getfield 53, 3) := by decide +kernel
theorem dX12_strokes_186 : decode cX12_strokes 186 = .ok (.iload 6, 2) := by decide +kernel
theorem dX12_strokes_188 : decode cX12_strokes 188 = .ok (.laload, 1) := by decide +kernel
theorem dX12_strokes_189 : decode cX12_strokes 189 = .ok (.ladd, 1) := by decide +kernel
theorem dX12_strokes_190 : decode cX12_strokes 190 = .ok (.lstore 4, 2) := by decide +kernel
theorem dX12_strokes_192 : decode cX12_strokes 192 = .ok (.aload_n 0, 1) := by decide +kernel
theorem dX12_strokes_193 : decode cX12_strokes 193 = .ok (.dup, 1) := by decide +kernel
theorem dX12_strokes_194 : decode cX12_strokes 194 = .ok (.getfield 339, 3) := by decide +kernel
theorem dX12_strokes_197 : decode cX12_strokes 197 = .ok (.aload_n 0, 1) := by decide +kernel
theorem dX12_strokes_198 : decode cX12_strokes 198 = .ok (.getfield 38, 3) := by decide +kernel
theorem dX12_strokes_201 : decode cX12_strokes 201 = .ok (.iload 6, 2) := by decide +kernel
theorem dX12_strokes_203 : decode cX12_strokes 203 = .ok (.iaload, 1) := by decide +kernel
theorem dX12_strokes_204 : decode cX12_strokes 204 = .ok (.ifCond .ne 7, 3) := by decide +kernel
theorem dX12_strokes_207 : decode cX12_strokes 207 = .ok (.lconst 1, 1) := by decide +kernel
theorem dX12_strokes_208 : decode cX12_strokes 208 = .ok (.goto 6, 3) := by decide +kernel
theorem dX12_strokes_211 : decode cX12_strokes 211 = .ok (.ldc2_w 209, 3) := by decide +kernel
theorem dX12_strokes_214 : decode cX12_strokes 214 = .ok (.aload_n 0, 1) := by decide +kernel
theorem dX12_strokes_215 : decode cX12_strokes 215 = .ok (.getfield 53, 3) := by decide +kernel
theorem dX12_strokes_218 : decode cX12_strokes 218 = .ok (.iload 6, 2) := by decide +kernel
theorem dX12_strokes_220 : decode cX12_strokes 220 = .ok (.laload, 1) := by decide +kernel
theorem dX12_strokes_221 : decode cX12_strokes 221 = .ok (.lmul, 1) := by decide +kernel
theorem dX12_strokes_222 : decode cX12_strokes 222 = .ok (.iload 6, 2) := by decide +kernel
theorem dX12_strokes_224 : decode cX12_strokes 224 = .ok (.iconst 1, 1) := by decide +kernel
theorem dX12_strokes_225 : decode cX12_strokes 225 = .ok (.iadd, 1) := by decide +kernel
theorem dX12_strokes_226 : decode cX12_strokes 226 = .ok (.i2l, 1) := by decide +kernel
theorem dX12_strokes_227 : decode cX12_strokes 227 = .ok (.lmul, 1) := by decide +kernel
theorem dX12_strokes_228 : decode cX12_strokes 228 = .ok (.ladd, 1) := by decide +kernel
theorem dX12_strokes_229 : decode cX12_strokes 229 = .ok (.putfield 339, 3) := by decide +kernel
theorem dX12_strokes_232 : decode cX12_strokes 232 = .ok (.iinc 6 1, 3) := by decide +kernel
theorem dX12_strokes_235 : decode cX12_strokes 235 = .ok (.goto (-168), 3) := by decide +kernel
theorem dX12_strokes_238 : decode cX12_strokes 238 = .ok (.aload_n 0, 1) := by decide +kernel
theorem dX12_strokes_239 : decode cX12_strokes 239 = .ok (.getfield 333, 3) := by decide +kernel
theorem dX12_strokes_242 : decode cX12_strokes 242 = .ok (.i2l, 1) := by decide +kernel
theorem dX12_strokes_243 : decode cX12_strokes 243 = .ok (.lload 4, 2) := by decide +kernel
theorem dX12_strokes_245 : decode cX12_strokes 245 = .ok (.ldc2_w 355, 3) := by decide +kernel
theorem dX12_strokes_248 : decode cX12_strokes 248 = .ok (.lmul, 1) := by decide +kernel
theorem dX12_strokes_249 : decode cX12_strokes 249 = .ok (.aload_n 0, 1) := by decide +kernel
theorem dX12_strokes_250 : decode cX12_strokes 250 = .ok (.invokevirtual 362, 3) := by decide +kernel
theorem dX12_strokes_253 : decode cX12_strokes 253 = .ok (.sipush 200, 3) := by decide +kernel
theorem dX12_strokes_256 : decode cX12_strokes 256 = .ok (.iadd, 1) := by decide +kernel
theorem dX12_strokes_257 : decode cX12_strokes 257 = .ok (.i2l, 1) := by decide +kernel
theorem dX12_strokes_258 : decode cX12_strokes 258 = .ok (.ldiv, 1) := by decide +kernel
theorem dX12_strokes_259 : decode cX12_strokes 259 = .ok (.ladd, 1) := by decide +kernel
theorem dX12_strokes_260 : decode cX12_strokes 260 = .ok (.lstore 6, 2) := by decide +kernel
theorem dX12_strokes_262 : decode cX12_strokes 262 = .ok (.lload_n 2, 1) := by decide +kernel
theorem dX12_strokes_263 : decode cX12_strokes 263 = .ok (.lload 6, 2) := by decide +kernel
theorem dX12_strokes_265 : decode cX12_strokes 265 = .ok (.lcmp, 1) := by decide +kernel
theorem dX12_strokes_266 : decode cX12_strokes 266 = .ok (.ifCond .ge 7, 3) := by decide +kernel
theorem dX12_strokes_269 : decode cX12_strokes 269 = .ok (.lload_n 2, 1) := by decide +kernel
theorem dX12_strokes_270 : decode cX12_strokes 270 = .ok (.goto 5, 3) := by decide +kernel
theorem dX12_strokes_273 : decode cX12_strokes 273 = .ok (.lload 6, 2) := by decide +kernel
theorem dX12_strokes_275 : decode cX12_strokes 275 = .ok (.lstore 8, 2) := by decide +kernel
theorem dX12_strokes_277 : decode cX12_strokes 277 = .ok (.lload 6, 2) := by decide +kernel
theorem dX12_strokes_279 : decode cX12_strokes 279 = .ok (.lload 8, 2) := by decide +kernel
theorem dX12_strokes_281 : decode cX12_strokes 281 = .ok (.lsub, 1) := by decide +kernel
theorem dX12_strokes_282 : decode cX12_strokes 282 = .ok (.lstore 6, 2) := by decide +kernel
theorem dX12_strokes_284 : decode cX12_strokes 284 = .ok (.aload_n 0, 1) := by decide +kernel
theorem dX12_strokes_285 : decode cX12_strokes 285 = .ok (.dup, 1) := by decide +kernel
theorem dX12_strokes_286 : decode cX12_strokes 286 = .ok (.getfield 342, 3) := by decide +kernel
theorem dX12_strokes_289 : decode cX12_strokes 289 = .ok (.lload 8, 2) := by decide +kernel
theorem dX12_strokes_291 : decode cX12_strokes 291 = .ok (.ladd, 1) := by decide +kernel
theorem dX12_strokes_292 : decode cX12_strokes 292 = .ok (.putfield 342, 3) := by decide +kernel
theorem dX12_strokes_295 : decode cX12_strokes 295 = .ok (.iload_n 1, 1) := by decide +kernel
theorem dX12_strokes_296 : decode cX12_strokes 296 = .ok (.invokestatic 171, 3) := by decide +kernel
theorem dX12_strokes_299 : decode cX12_strokes 299 = .ok (.i2l, 1) := by decide +kernel
theorem dX12_strokes_300 : decode cX12_strokes 300 = .ok (.aload_n 0, 1) := by decide +kernel
theorem dX12_strokes_301 : decode cX12_strokes 301 = .ok (.getfield 333, 3) := by decide +kernel
theorem dX12_strokes_304 : decode cX12_strokes 304 = .ok (.i2l, 1) := by decide +kernel
theorem dX12_strokes_305 : decode cX12_strokes 305 = .ok (.lmul, 1) := by decide +kernel
theorem dX12_strokes_306 : decode cX12_strokes 306 = .ok (.ldc2_w 355, 3) := by decide +kernel
theorem dX12_strokes_309 : decode cX12_strokes 309 = .ok (.ldiv, 1) := by decide +kernel
theorem dX12_strokes_310 : decode cX12_strokes 310 = .ok (.lstore 10, 2) := by decide +kernel
theorem dX12_strokes_312 : decode cX12_strokes 312 = .ok (.lload 10, 2) := by decide +kernel
theorem dX12_strokes_314 : decode cX12_strokes 314 = .ok (.lload 6, 2) := by decide +kernel
theorem dX12_strokes_316 : decode cX12_strokes 316 = .ok (.lcmp, 1) := by decide +kernel
theorem dX12_strokes_317 : decode cX12_strokes 317 = .ok (.ifCond .ge 8, 3) := by decide +kernel
theorem dX12_strokes_320 : decode cX12_strokes 320 = .ok (.lload 10, 2) := by decide +kernel
theorem dX12_strokes_322 : decode cX12_strokes 322 = .ok (.goto 5, 3) := by decide +kernel
theorem dX12_strokes_325 : decode cX12_strokes 325 = .ok (.lload 6, 2) := by decide +kernel
theorem dX12_strokes_327 : decode cX12_strokes 327 = .ok (.lstore 10, 2) := by decide +kernel
theorem dX12_strokes_329 : decode cX12_strokes 329 = .ok (.lload 6, 2) := by decide +kernel
theorem dX12_strokes_331 : decode cX12_strokes 331 = .ok (.lload 10, 2) := by decide +kernel
theorem dX12_strokes_333 : decode cX12_strokes 333 = .ok (.lsub, 1) := by decide +kernel
theorem dX12_strokes_334 : decode cX12_strokes 334 = .ok (.lstore 6, 2) := by decide +kernel
theorem dX12_strokes_336 : decode cX12_strokes 336 = .ok (.aload_n 0, 1) := by decide +kernel
theorem dX12_strokes_337 : decode cX12_strokes 337 = .ok (.dup, 1) := by decide +kernel
theorem dX12_strokes_338 : decode cX12_strokes 338 = .ok (.getfield 345, 3) := by decide +kernel
theorem dX12_strokes_341 : decode cX12_strokes 341 = .ok (.lload 10, 2) := by decide +kernel
theorem dX12_strokes_343 : decode cX12_strokes 343 = .ok (.ladd, 1) := by decide +kernel
theorem dX12_strokes_344 : decode cX12_strokes 344 = .ok (.putfield 345, 3) := by decide +kernel
theorem dX12_strokes_347 : decode cX12_strokes 347 = .ok (.aload_n 0, 1) := by decide +kernel
theorem dX12_strokes_348 : decode cX12_strokes 348 = .ok (.lload 6, 2) := by decide +kernel
theorem dX12_strokes_350 : decode cX12_strokes 350 = .ok (.ldc2_w 365, 3) := by decide +kernel
theorem dX12_strokes_353 : decode cX12_strokes 353 = .ok (.lcmp, 1) := by decide +kernel
theorem dX12_strokes_354 : decode cX12_strokes 354 = .ok (.ifCond .le 9, 3) := by decide +kernel
theorem dX12_strokes_357 : decode cX12_strokes 357 = .ok (.ldc2_w 365, 3) := by decide +kernel
theorem dX12_strokes_360 : decode cX12_strokes 360 = .ok (.goto 5, 3) := by decide +kernel
theorem dX12_strokes_363 : decode cX12_strokes 363 = .ok (.lload 6, 2) := by decide +kernel
theorem dX12_strokes_365 : decode cX12_strokes 365 = .ok (.l2i, 1) := by decide +kernel
theorem dX12_strokes_366 : decode cX12_strokes 366 = .ok (.putfield 333, 3) := by decide +kernel
theorem dX12_strokes_369 : decode cX12_strokes 369 = .ok (.aload_n 0, 1) := by decide +kernel
theorem dX12_strokes_370 : decode cX12_strokes 370 = .ok (.dup, 1) := by decide +kernel
theorem dX12_strokes_371 : decode cX12_strokes 371 = .ok (.getfield 336, 3) := by decide +kernel
theorem dX12_strokes_374 : decode cX12_strokes 374 = .ok (.aload_n 0, 1) := by decide +kernel
theorem dX12_strokes_375 : decode cX12_strokes 375 = .ok (.getfield 333, 3) := by decide +kernel
theorem dX12_strokes_378 : decode cX12_strokes 378 = .ok (.i2l, 1) := by decide +kernel
theorem dX12_strokes_379 : decode cX12_strokes 379 = .ok (.ladd, 1) := by decide +kernel
theorem dX12_strokes_380 : decode cX12_strokes 380 = .ok (.putfield 336, 3) := by decide +kernel
theorem dX12_strokes_383 : decode cX12_strokes 383 = .ok (.aload_n 0, 1) := by decide +kernel
theorem dX12_strokes_384 : decode cX12_strokes 384 = .ok (.dup, 1) := by decide +kernel
theorem dX12_strokes_385 : decode cX12_strokes 385 = .ok (.getfield 348, 3) := by decide +kernel
theorem dX12_strokes_388 : decode cX12_strokes 388 = .ok (.iconst 1, 1) := by decide +kernel
theorem dX12_strokes_389 : decode cX12_strokes 389 = .ok (.iadd, 1) := by decide +kernel
theorem dX12_strokes_390 : decode cX12_strokes 390 = .ok (.putfield 348, 3) := by decide +kernel
theorem dX12_strokes_393 : decode cX12_strokes 393 = .ok (.return_, 1) := by decide +kernel
theorem dX12_goes_0 : decode cX12_goes 0 = .ok (.aload_n 0, 1) := by decide +kernel
theorem dX12_goes_1 : decode cX12_goes 1 = .ok (.invokevirtual 367, 3) := by decide +kernel
theorem dX12_goes_4 : decode cX12_goes 4 = .ok (.iconst 0, 1) := by decide +kernel
theorem dX12_goes_5 : decode cX12_goes 5 = .ok (.istore_n 2, 1) := by decide +kernel
theorem dX12_goes_6 : decode cX12_goes 6 = .ok (.iload_n 2, 1) := by decide +kernel
theorem dX12_goes_7 : decode cX12_goes 7 = .ok (.aload_n 0, 1) := by decide +kernel
theorem dX12_goes_8 : decode cX12_goes 8 = .ok (.getfield 44, 3) := by decide +kernel
theorem dX12_goes_11 : decode cX12_goes 11 = .ok (.iload_n 1, 1) := by decide +kernel
theorem dX12_goes_12 : decode cX12_goes 12 = .ok (.iaload, 1) := by decide +kernel
theorem dX12_goes_13 : decode cX12_goes 13 = .ok (.if_icmp .ge 25, 3) := by decide +kernel
theorem dX12_goes_16 : decode cX12_goes 16 = .ok (.aload_n 0, 1) := by decide +kernel
theorem dX12_goes_17 : decode cX12_goes 17 = .ok (.aload_n 0, 1) := by decide +kernel
theorem dX12_goes_18 : decode cX12_goes 18 = .ok (.getfield 47, 3) := by decide +kernel
theorem dX12_goes_21 : decode cX12_goes 21 = .ok (.sipush 200, 3) := by decide +kernel
theorem dX12_goes_24 : decode cX12_goes 24 = .ok (.iload_n 1, 1) := by decide +kernel
theorem dX12_goes_25 : decode cX12_goes 25 = .ok (.imul, 1) := by decide +kernel
theorem dX12_goes_26 : decode cX12_goes 26 = .ok (.iload_n 2, 1) := by decide +kernel
theorem dX12_goes_27 : decode cX12_goes 27 = .ok (.iadd, 1) := by decide +kernel
theorem dX12_goes_28 : decode cX12_goes 28 = .ok (.iaload, 1) := by decide +kernel
theorem dX12_goes_29 : decode cX12_goes 29 = .ok (.invokevirtual 370, 3) := by decide +kernel
theorem dX12_goes_32 : decode cX12_goes 32 = .ok (.iinc 2 1, 3) := by decide +kernel
theorem dX12_goes_35 : decode cX12_goes 35 = .ok (.goto (-29), 3) := by decide +kernel
theorem dX12_goes_38 : decode cX12_goes 38 = .ok (.return_, 1) := by decide +kernel
theorem dX12_row_0 : decode cX12_row 0 = .ok (.aload_n 0, 1) := by decide +kernel
theorem dX12_row_1 : decode cX12_row 1 = .ok (.iload_n 1, 1) := by decide +kernel
theorem dX12_row_2 : decode cX12_row 2 = .ok (.invokevirtual 330, 3) := by decide +kernel
theorem dX12_row_5 : decode cX12_row 5 = .ok (.ifCond .eq 15, 3) := by decide +kernel
theorem dX12_row_8 : decode cX12_row 8 = .ok (.iload_n 2, 1) := by decide +kernel
theorem dX12_row_9 : decode cX12_row 9 = .ok (.i2l, 1) := by decide +kernel
theorem dX12_row_10 : decode cX12_row 10 = .ok (.lconst 0, 1) := by decide +kernel
theorem dX12_row_11 : decode cX12_row 11 = .ok (.ldc2_w 360, 3) := by decide +kernel
theorem dX12_row_14 : decode cX12_row 14 = .ok (.invokestatic 125, 3) := by decide +kernel
theorem dX12_row_17 : decode cX12_row 17 = .ok (.ifCond .ne 7, 3) := by decide +kernel
theorem dX12_row_20 : decode cX12_row 20 = .ok (.ldc2_w 374, 3) := by decide +kernel
theorem dX12_row_23 : decode cX12_row 23 = .ok (.lreturn, 1) := by decide +kernel
theorem dX12_row_24 : decode cX12_row 24 = .ok (.aload_n 0, 1) := by decide +kernel
theorem dX12_row_25 : decode cX12_row 25 = .ok (.iload_n 1, 1) := by decide +kernel
theorem dX12_row_26 : decode cX12_row 26 = .ok (.invokevirtual 376, 3) := by decide +kernel
theorem dX12_row_29 : decode cX12_row 29 = .ok (.iload_n 2, 1) := by decide +kernel
theorem dX12_row_30 : decode cX12_row 30 = .ok (.tableswitch 51 0 3 #[30, 35, 41, 46], 30) := by decide +kernel
theorem dX12_row_60 : decode cX12_row 60 = .ok (.aload_n 0, 1) := by decide +kernel
theorem dX12_row_61 : decode cX12_row 61 = .ok (.getfield 336, 3) := by decide +kernel
theorem dX12_row_64 : decode cX12_row 64 = .ok (.lreturn, 1) := by decide +kernel
theorem dX12_row_65 : decode cX12_row 65 = .ok (.aload_n 0, 1) := by decide +kernel
theorem dX12_row_66 : decode cX12_row 66 = .ok (.getfield 333, 3) := by decide +kernel
theorem dX12_row_69 : decode cX12_row 69 = .ok (.i2l, 1) := by decide +kernel
theorem dX12_row_70 : decode cX12_row 70 = .ok (.lreturn, 1) := by decide +kernel
theorem dX12_row_71 : decode cX12_row 71 = .ok (.aload_n 0, 1) := by decide +kernel
theorem dX12_row_72 : decode cX12_row 72 = .ok (.getfield 339, 3) := by decide +kernel
theorem dX12_row_75 : decode cX12_row 75 = .ok (.lreturn, 1) := by decide +kernel
theorem dX12_row_76 : decode cX12_row 76 = .ok (.aload_n 0, 1) := by decide +kernel
theorem dX12_row_77 : decode cX12_row 77 = .ok (.getfield 342, 3) := by decide +kernel
theorem dX12_row_80 : decode cX12_row 80 = .ok (.lreturn, 1) := by decide +kernel
theorem dX12_row_81 : decode cX12_row 81 = .ok (.aload_n 0, 1) := by decide +kernel
theorem dX12_row_82 : decode cX12_row 82 = .ok (.getfield 345, 3) := by decide +kernel
theorem dX12_row_85 : decode cX12_row 85 = .ok (.lreturn, 1) := by decide +kernel
theorem dX12_left_0 : decode cX12_left 0 = .ok (.aload_n 0, 1) := by decide +kernel
theorem dX12_left_1 : decode cX12_left 1 = .ok (.iload_n 1, 1) := by decide +kernel
theorem dX12_left_2 : decode cX12_left 2 = .ok (.invokevirtual 330, 3) := by decide +kernel
theorem dX12_left_5 : decode cX12_left 5 = .ok (.ifCond .eq 11, 3) := by decide +kernel
theorem dX12_left_8 : decode cX12_left 8 = .ok (.aload_n 0, 1) := by decide +kernel
theorem dX12_left_9 : decode cX12_left 9 = .ok (.iload_n 2, 1) := by decide +kernel
theorem dX12_left_10 : decode cX12_left 10 = .ok (.invokevirtual 139, 3) := by decide +kernel
theorem dX12_left_13 : decode cX12_left 13 = .ok (.ifCond .ne 6, 3) := by decide +kernel
theorem dX12_left_16 : decode cX12_left 16 = .ok (.bipush (-5), 2) := by decide +kernel
theorem dX12_left_18 : decode cX12_left 18 = .ok (.ireturn, 1) := by decide +kernel
theorem dX12_left_19 : decode cX12_left 19 = .ok (.aload_n 0, 1) := by decide +kernel
theorem dX12_left_20 : decode cX12_left 20 = .ok (.iload_n 1, 1) := by decide +kernel
theorem dX12_left_21 : decode cX12_left 21 = .ok (.invokevirtual 376, 3) := by decide +kernel
theorem dX12_left_24 : decode cX12_left 24 = .ok (.aload_n 0, 1) := by decide +kernel
theorem dX12_left_25 : decode cX12_left 25 = .ok (.getfield 50, 3) := by decide +kernel
theorem dX12_left_28 : decode cX12_left 28 = .ok (.iload_n 2, 1) := by decide +kernel
theorem dX12_left_29 : decode cX12_left 29 = .ok (.iaload, 1) := by decide +kernel
theorem dX12_left_30 : decode cX12_left 30 = .ok (.ireturn, 1) := by decide +kernel
theorem dX12_rown_0 : decode cX12_rown 0 = .ok (.aload_n 0, 1) := by decide +kernel
theorem dX12_rown_1 : decode cX12_rown 1 = .ok (.iload_n 1, 1) := by decide +kernel
theorem dX12_rown_2 : decode cX12_rown 2 = .ok (.invokevirtual 330, 3) := by decide +kernel
theorem dX12_rown_5 : decode cX12_rown 5 = .ok (.ifCond .ne 7, 3) := by decide +kernel
theorem dX12_rown_8 : decode cX12_rown 8 = .ok (.ldc2_w 374, 3) := by decide +kernel
theorem dX12_rown_11 : decode cX12_rown 11 = .ok (.lreturn, 1) := by decide +kernel
theorem dX12_rown_12 : decode cX12_rown 12 = .ok (.aload_n 0, 1) := by decide +kernel
theorem dX12_rown_13 : decode cX12_rown 13 = .ok (.iload_n 1, 1) := by decide +kernel
theorem dX12_rown_14 : decode cX12_rown 14 = .ok (.invokevirtual 376, 3) := by decide +kernel
theorem dX12_rown_17 : decode cX12_rown 17 = .ok (.iconst 0, 1) := by decide +kernel
theorem dX12_rown_18 : decode cX12_rown 18 = .ok (.istore_n 2, 1) := by decide +kernel
theorem dX12_rown_19 : decode cX12_rown 19 = .ok (.iload_n 2, 1) := by decide +kernel
theorem dX12_rown_20 : decode cX12_rown 20 = .ok (.aload_n 0, 1) := by decide +kernel
theorem dX12_rown_21 : decode cX12_rown 21 = .ok (.getfield 122, 3) := by decide +kernel
theorem dX12_rown_24 : decode cX12_rown 24 = .ok (.if_icmp .ge 21, 3) := by decide +kernel
theorem dX12_rown_27 : decode cX12_rown 27 = .ok (.aload_n 0, 1) := by decide +kernel
theorem dX12_rown_28 : decode cX12_rown 28 = .ok (.getfield 29, 3) := by decide +kernel
theorem dX12_rown_31 : decode cX12_rown 31 = .ok (.iload_n 2, 1) := by decide +kernel
theorem dX12_rown_32 : decode cX12_rown 32 = .ok (.aload_n 0, 1) := by decide +kernel
theorem dX12_rown_33 : decode cX12_rown 33 = .ok (.getfield 50, 3) := by decide +kernel
theorem dX12_rown_36 : decode cX12_rown 36 = .ok (.iload_n 2, 1) := by decide +kernel
theorem dX12_rown_37 : decode cX12_rown 37 = .ok (.iaload, 1) := by decide +kernel
theorem dX12_rown_38 : decode cX12_rown 38 = .ok (.iastore, 1) := by decide +kernel
theorem dX12_rown_39 : decode cX12_rown 39 = .ok (.iinc 2 1, 3) := by decide +kernel
theorem dX12_rown_42 : decode cX12_rown 42 = .ok (.goto (-23), 3) := by decide +kernel
theorem dX12_rown_45 : decode cX12_rown 45 = .ok (.aload_n 0, 1) := by decide +kernel
theorem dX12_rown_46 : decode cX12_rown 46 = .ok (.getfield 336, 3) := by decide +kernel
theorem dX12_rown_49 : decode cX12_rown 49 = .ok (.lreturn, 1) := by decide +kernel
theorem dX12_changes_0 : decode cX12_changes 0 = .ok (.aload_n 0, 1) := by decide +kernel
theorem dX12_changes_1 : decode cX12_changes 1 = .ok (.getfield 35, 3) := by decide +kernel
theorem dX12_changes_4 : decode cX12_changes 4 = .ok (.iload_n 1, 1) := by decide +kernel
theorem dX12_changes_5 : decode cX12_changes 5 = .ok (.iaload, 1) := by decide +kernel
theorem dX12_changes_6 : decode cX12_changes 6 = .ok (.istore_n 3, 1) := by decide +kernel
theorem dX12_changes_7 : decode cX12_changes 7 = .ok (.aload_n 0, 1) := by decide +kernel
theorem dX12_changes_8 : decode cX12_changes 8 = .ok (.getfield 35, 3) := by decide +kernel
theorem dX12_changes_11 : decode cX12_changes 11 = .ok (.iload_n 1, 1) := by decide +kernel
theorem dX12_changes_12 : decode cX12_changes 12 = .ok (.aload_n 0, 1) := by decide +kernel
theorem dX12_changes_13 : decode cX12_changes 13 = .ok (.getfield 35, 3) := by decide +kernel
theorem dX12_changes_16 : decode cX12_changes 16 = .ok (.iload_n 2, 1) := by decide +kernel
theorem dX12_changes_17 : decode cX12_changes 17 = .ok (.iaload, 1) := by decide +kernel
theorem dX12_changes_18 : decode cX12_changes 18 = .ok (.iastore, 1) := by decide +kernel
theorem dX12_changes_19 : decode cX12_changes 19 = .ok (.aload_n 0, 1) := by decide +kernel
theorem dX12_changes_20 : decode cX12_changes 20 = .ok (.getfield 35, 3) := by decide +kernel
theorem dX12_changes_23 : decode cX12_changes 23 = .ok (.iload_n 2, 1) := by decide +kernel
theorem dX12_changes_24 : decode cX12_changes 24 = .ok (.iload_n 3, 1) := by decide +kernel
theorem dX12_changes_25 : decode cX12_changes 25 = .ok (.iastore, 1) := by decide +kernel
theorem dX12_changes_26 : decode cX12_changes 26 = .ok (.return_, 1) := by decide +kernel
theorem dX12_moreOf_0 : decode cX12_moreOf 0 = .ok (.aload_n 0, 1) := by decide +kernel
theorem dX12_moreOf_1 : decode cX12_moreOf 1 = .ok (.iload_n 2, 1) := by decide +kernel
theorem dX12_moreOf_2 : decode cX12_moreOf 2 = .ok (.iload_n 3, 1) := by decide +kernel
theorem dX12_moreOf_3 : decode cX12_moreOf 3 = .ok (.invokevirtual 379, 3) := by decide +kernel
theorem dX12_moreOf_6 : decode cX12_moreOf 6 = .ok (.aload_n 0, 1) := by decide +kernel
theorem dX12_moreOf_7 : decode cX12_moreOf 7 = .ok (.iload_n 1, 1) := by decide +kernel
theorem dX12_moreOf_8 : decode cX12_moreOf 8 = .ok (.invokevirtual 376, 3) := by decide +kernel
theorem dX12_moreOf_11 : decode cX12_moreOf 11 = .ok (.aload_n 0, 1) := by decide +kernel
theorem dX12_moreOf_12 : decode cX12_moreOf 12 = .ok (.iload_n 2, 1) := by decide +kernel
theorem dX12_moreOf_13 : decode cX12_moreOf 13 = .ok (.iload_n 3, 1) := by decide +kernel
theorem dX12_moreOf_14 : decode cX12_moreOf 14 = .ok (.invokevirtual 379, 3) := by decide +kernel
theorem dX12_moreOf_17 : decode cX12_moreOf 17 = .ok (.aload_n 0, 1) := by decide +kernel
theorem dX12_moreOf_18 : decode cX12_moreOf 18 = .ok (.getfield 336, 3) := by decide +kernel
theorem dX12_moreOf_21 : decode cX12_moreOf 21 = .ok (.lload 4, 2) := by decide +kernel
theorem dX12_moreOf_23 : decode cX12_moreOf 23 = .ok (.lsub, 1) := by decide +kernel
theorem dX12_moreOf_24 : decode cX12_moreOf 24 = .ok (.lreturn, 1) := by decide +kernel
theorem dX12_more_0 : decode cX12_more 0 = .ok (.aload_n 0, 1) := by decide +kernel
theorem dX12_more_1 : decode cX12_more 1 = .ok (.iload_n 1, 1) := by decide +kernel
theorem dX12_more_2 : decode cX12_more 2 = .ok (.invokevirtual 330, 3) := by decide +kernel
theorem dX12_more_5 : decode cX12_more 5 = .ok (.ifCond .eq 38, 3) := by decide +kernel
theorem dX12_more_8 : decode cX12_more 8 = .ok (.iload_n 2, 1) := by decide +kernel
theorem dX12_more_9 : decode cX12_more 9 = .ok (.ifCond .lt 34, 3) := by decide +kernel
theorem dX12_more_12 : decode cX12_more 12 = .ok (.iload_n 2, 1) := by decide +kernel
theorem dX12_more_13 : decode cX12_more 13 = .ok (.bipush 10, 2) := by decide +kernel
theorem dX12_more_15 : decode cX12_more 15 = .ok (.idiv, 1) := by decide +kernel
theorem dX12_more_16 : decode cX12_more 16 = .ok (.invokestatic 147, 3) := by decide +kernel
theorem dX12_more_19 : decode cX12_more 19 = .ok (.ifCond .eq 24, 3) := by decide +kernel
theorem dX12_more_22 : decode cX12_more 22 = .ok (.iload_n 2, 1) := by decide +kernel
theorem dX12_more_23 : decode cX12_more 23 = .ok (.bipush 10, 2) := by decide +kernel
theorem dX12_more_25 : decode cX12_more 25 = .ok (.irem, 1) := by decide +kernel
theorem dX12_more_26 : decode cX12_more 26 = .ok (.invokestatic 147, 3) := by decide +kernel
theorem dX12_more_29 : decode cX12_more 29 = .ok (.ifCond .eq 14, 3) := by decide +kernel
theorem dX12_more_32 : decode cX12_more 32 = .ok (.iload_n 2, 1) := by decide +kernel
theorem dX12_more_33 : decode cX12_more 33 = .ok (.bipush 10, 2) := by decide +kernel
theorem dX12_more_35 : decode cX12_more 35 = .ok (.idiv, 1) := by decide +kernel
theorem dX12_more_36 : decode cX12_more 36 = .ok (.iload_n 2, 1) := by decide +kernel
theorem dX12_more_37 : decode cX12_more 37 = .ok (.bipush 10, 2) := by decide +kernel
theorem dX12_more_39 : decode cX12_more 39 = .ok (.irem, 1) := by decide +kernel
theorem dX12_more_40 : decode cX12_more 40 = .ok (.if_icmp .ne 7, 3) := by decide +kernel
theorem dX12_more_43 : decode cX12_more 43 = .ok (.ldc2_w 374, 3) := by decide +kernel
theorem dX12_more_46 : decode cX12_more 46 = .ok (.lreturn, 1) := by decide +kernel
theorem dX12_more_47 : decode cX12_more 47 = .ok (.aload_n 0, 1) := by decide +kernel
theorem dX12_more_48 : decode cX12_more 48 = .ok (.iload_n 1, 1) := by decide +kernel
theorem dX12_more_49 : decode cX12_more 49 = .ok (.invokevirtual 376, 3) := by decide +kernel
theorem dX12_more_52 : decode cX12_more 52 = .ok (.aload_n 0, 1) := by decide +kernel
theorem dX12_more_53 : decode cX12_more 53 = .ok (.iload_n 1, 1) := by decide +kernel
theorem dX12_more_54 : decode cX12_more 54 = .ok (.iload_n 2, 1) := by decide +kernel
theorem dX12_more_55 : decode cX12_more 55 = .ok (.bipush 10, 2) := by decide +kernel
theorem dX12_more_57 : decode cX12_more 57 = .ok (.idiv, 1) := by decide +kernel
theorem dX12_more_58 : decode cX12_more 58 = .ok (.iload_n 2, 1) := by decide +kernel
theorem dX12_more_59 : decode cX12_more 59 = .ok (.bipush 10, 2) := by decide +kernel
theorem dX12_more_61 : decode cX12_more 61 = .ok (.irem, 1) := by decide +kernel
theorem dX12_more_62 : decode cX12_more 62 = .ok (.aload_n 0, 1) := by decide +kernel
theorem dX12_more_63 : decode cX12_more 63 = .ok (.getfield 336, 3) := by decide +kernel
theorem dX12_more_66 : decode cX12_more 66 = .ok (.invokevirtual 383, 3) := by decide +kernel
theorem dX12_more_69 : decode cX12_more 69 = .ok (.lreturn, 1) := by decide +kernel
theorem dX12_change_0 : decode cX12_change 0 = .ok (.aload_n 0, 1) := by decide +kernel
theorem dX12_change_1 : decode cX12_change 1 = .ok (.iload_n 1, 1) := by decide +kernel
theorem dX12_change_2 : decode cX12_change 2 = .ok (.invokevirtual 330, 3) := by decide +kernel
theorem dX12_change_5 : decode cX12_change 5 = .ok (.ifCond .eq 13, 3) := by decide +kernel
theorem dX12_change_8 : decode cX12_change 8 = .ok (.iload_n 2, 1) := by decide +kernel
theorem dX12_change_9 : decode cX12_change 9 = .ok (.i2l, 1) := by decide +kernel
theorem dX12_change_10 : decode cX12_change 10 = .ok (.lconst 0, 1) := by decide +kernel
theorem dX12_change_11 : decode cX12_change 11 = .ok (.lconst 1, 1) := by decide +kernel
theorem dX12_change_12 : decode cX12_change 12 = .ok (.invokestatic 125, 3) := by decide +kernel
theorem dX12_change_15 : decode cX12_change 15 = .ok (.ifCond .ne 7, 3) := by decide +kernel
theorem dX12_change_18 : decode cX12_change 18 = .ok (.ldc2_w 374, 3) := by decide +kernel
theorem dX12_change_21 : decode cX12_change 21 = .ok (.lreturn, 1) := by decide +kernel
theorem dX12_change_22 : decode cX12_change 22 = .ok (.aload_n 0, 1) := by decide +kernel
theorem dX12_change_23 : decode cX12_change 23 = .ok (.iload_n 1, 1) := by decide +kernel
theorem dX12_change_24 : decode cX12_change 24 = .ok (.invokevirtual 376, 3) := by decide +kernel
theorem dX12_change_27 : decode cX12_change 27 = .ok (.aload_n 0, 1) := by decide +kernel
theorem dX12_change_28 : decode cX12_change 28 = .ok (.getfield 336, 3) := by decide +kernel
theorem dX12_change_31 : decode cX12_change 31 = .ok (.lstore_n 3, 1) := by decide +kernel
theorem dX12_change_32 : decode cX12_change 32 = .ok (.iconst (-1), 1) := by decide +kernel
theorem dX12_change_33 : decode cX12_change 33 = .ok (.istore 5, 2) := by decide +kernel
theorem dX12_change_35 : decode cX12_change 35 = .ok (.lconst 0, 1) := by decide +kernel
theorem dX12_change_36 : decode cX12_change 36 = .ok (.lstore 6, 2) := by decide +kernel
theorem dX12_change_38 : decode cX12_change 38 = .ok (.iconst 0, 1) := by decide +kernel
theorem dX12_change_39 : decode cX12_change 39 = .ok (.istore 8, 2) := by decide +kernel
theorem dX12_change_41 : decode cX12_change 41 = .ok (.iload 8, 2) := by decide +kernel
theorem dX12_change_43 : decode cX12_change 43 = .ok (.bipush 8, 2) := by decide +kernel
theorem dX12_change_45 : decode cX12_change 45 = .ok (.if_icmp .ge 71, 3) := by decide +kernel
theorem dX12_change_48 : decode cX12_change 48 = .ok (.iload 8, 2) := by decide +kernel
theorem dX12_change_50 : decode cX12_change 50 = .ok (.iconst 1, 1) := by decide +kernel
theorem dX12_change_51 : decode cX12_change 51 = .ok (.iadd, 1) := by decide +kernel
theorem dX12_change_52 : decode cX12_change 52 = .ok (.istore 9, 2) := by decide +kernel
theorem dX12_change_54 : decode cX12_change 54 = .ok (.iload 9, 2) := by decide +kernel
theorem dX12_change_56 : decode cX12_change 56 = .ok (.bipush 8, 2) := by decide +kernel
theorem dX12_change_58 : decode cX12_change 58 = .ok (.if_icmp .ge 52, 3) := by decide +kernel
theorem dX12_change_61 : decode cX12_change 61 = .ok (.aload_n 0, 1) := by decide +kernel
theorem dX12_change_62 : decode cX12_change 62 = .ok (.iload_n 1, 1) := by decide +kernel
theorem dX12_change_63 : decode cX12_change 63 = .ok (.iload 8, 2) := by decide +kernel
theorem dX12_change_65 : decode cX12_change 65 = .ok (.iload 9, 2) := by decide +kernel
theorem dX12_change_67 : decode cX12_change 67 = .ok (.lload_n 3, 1) := by decide +kernel
theorem dX12_change_68 : decode cX12_change 68 = .ok (.invokevirtual 383, 3) := by decide +kernel
theorem dX12_change_71 : decode cX12_change 71 = .ok (.lstore 10, 2) := by decide +kernel
theorem dX12_change_73 : decode cX12_change 73 = .ok (.iload 5, 2) := by decide +kernel
theorem dX12_change_75 : decode cX12_change 75 = .ok (.iconst (-1), 1) := by decide +kernel
theorem dX12_change_76 : decode cX12_change 76 = .ok (.if_icmp .eq 14, 3) := by decide +kernel
theorem dX12_change_79 : decode cX12_change 79 = .ok (.lload 10, 2) := by decide +kernel
theorem dX12_change_81 : decode cX12_change 81 = .ok (.lload 6, 2) := by decide +kernel
theorem dX12_change_83 : decode cX12_change 83 = .ok (.lcmp, 1) := by decide +kernel
theorem dX12_change_84 : decode cX12_change 84 = .ok (.ifCond .gt 6, 3) := by decide +kernel
theorem dX12_change_87 : decode cX12_change 87 = .ok (.goto 17, 3) := by decide +kernel
theorem dX12_change_90 : decode cX12_change 90 = .ok (.bipush 10, 2) := by decide +kernel
theorem dX12_change_92 : decode cX12_change 92 = .ok (.iload 8, 2) := by decide +kernel
theorem dX12_change_94 : decode cX12_change 94 = .ok (.imul, 1) := by decide +kernel
theorem dX12_change_95 : decode cX12_change 95 = .ok (.iload 9, 2) := by decide +kernel
theorem dX12_change_97 : decode cX12_change 97 = .ok (.iadd, 1) := by decide +kernel
theorem dX12_change_98 : decode cX12_change 98 = .ok (.istore 5, 2) := by decide +kernel
theorem dX12_change_100 : decode cX12_change 100 = .ok (.lload 10, 2) := by decide +kernel
theorem dX12_change_102 : decode cX12_change 102 = .ok (.lstore 6, 2) := by decide +kernel
theorem dX12_change_104 : decode cX12_change 104 = .ok (.iinc 9 1, 3) := by decide +kernel
theorem dX12_change_107 : decode cX12_change 107 = .ok (.goto (-53), 3) := by decide +kernel
theorem dX12_change_110 : decode cX12_change 110 = .ok (.iinc 8 1, 3) := by decide +kernel
theorem dX12_change_113 : decode cX12_change 113 = .ok (.goto (-72), 3) := by decide +kernel
theorem dX12_change_116 : decode cX12_change 116 = .ok (.iload_n 2, 1) := by decide +kernel
theorem dX12_change_117 : decode cX12_change 117 = .ok (.ifCond .ne 9, 3) := by decide +kernel
theorem dX12_change_120 : decode cX12_change 120 = .ok (.iload 5, 2) := by decide +kernel
theorem dX12_change_122 : decode cX12_change 122 = .ok (.i2l, 1) := by decide +kernel
theorem dX12_change_123 : decode cX12_change 123 = .ok (.goto 5, 3) := by decide +kernel
theorem dX12_change_126 : decode cX12_change 126 = .ok (.lload 6, 2) := by decide +kernel
theorem dX12_change_128 : decode cX12_change 128 = .ok (.lreturn, 1) := by decide +kernel
theorem dX12_bitsOf_0 : decode cX12_bitsOf 0 = .ok (.iconst 0, 1) := by decide +kernel
theorem dX12_bitsOf_1 : decode cX12_bitsOf 1 = .ok (.istore_n 1, 1) := by decide +kernel
theorem dX12_bitsOf_2 : decode cX12_bitsOf 2 = .ok (.iload_n 0, 1) := by decide +kernel
theorem dX12_bitsOf_3 : decode cX12_bitsOf 3 = .ok (.istore_n 2, 1) := by decide +kernel
theorem dX12_bitsOf_4 : decode cX12_bitsOf 4 = .ok (.iload_n 2, 1) := by decide +kernel
theorem dX12_bitsOf_5 : decode cX12_bitsOf 5 = .ok (.ifCond .eq 15, 3) := by decide +kernel
theorem dX12_bitsOf_8 : decode cX12_bitsOf 8 = .ok (.iinc 1 1, 3) := by decide +kernel
theorem dX12_bitsOf_11 : decode cX12_bitsOf 11 = .ok (.iload_n 2, 1) := by decide +kernel
theorem dX12_bitsOf_12 : decode cX12_bitsOf 12 = .ok (.iload_n 2, 1) := by decide +kernel
theorem dX12_bitsOf_13 : decode cX12_bitsOf 13 = .ok (.iconst 1, 1) := by decide +kernel
theorem dX12_bitsOf_14 : decode cX12_bitsOf 14 = .ok (.isub, 1) := by decide +kernel
theorem dX12_bitsOf_15 : decode cX12_bitsOf 15 = .ok (.iand, 1) := by decide +kernel
theorem dX12_bitsOf_16 : decode cX12_bitsOf 16 = .ok (.istore_n 2, 1) := by decide +kernel
theorem dX12_bitsOf_17 : decode cX12_bitsOf 17 = .ok (.goto (-13), 3) := by decide +kernel
theorem dX12_bitsOf_20 : decode cX12_bitsOf 20 = .ok (.iload_n 1, 1) := by decide +kernel
theorem dX12_bitsOf_21 : decode cX12_bitsOf 21 = .ok (.ireturn, 1) := by decide +kernel
theorem dX12_wagsBy_0 : decode cX12_wagsBy 0 = .ok (.lconst 0, 1) := by decide +kernel
theorem dX12_wagsBy_1 : decode cX12_wagsBy 1 = .ok (.lstore_n 2, 1) := by decide +kernel
theorem dX12_wagsBy_2 : decode cX12_wagsBy 2 = .ok (.iconst 0, 1) := by decide +kernel
theorem dX12_wagsBy_3 : decode cX12_wagsBy 3 = .ok (.istore 4, 2) := by decide +kernel
theorem dX12_wagsBy_5 : decode cX12_wagsBy 5 = .ok (.iload 4, 2) := by decide +kernel
theorem dX12_wagsBy_7 : decode cX12_wagsBy 7 = .ok (.bipush 8, 2) := by decide +kernel
theorem dX12_wagsBy_9 : decode cX12_wagsBy 9 = .ok (.if_icmp .ge 42, 3) := by decide +kernel
theorem dX12_wagsBy_12 : decode cX12_wagsBy 12 = .ok (.lload_n 2, 1) := by decide +kernel
theorem dX12_wagsBy_13 : decode cX12_wagsBy 13 = .ok (.iload_n 1, 1) := by decide +kernel
theorem dX12_wagsBy_14 : decode cX12_wagsBy 14 = .ok (.iload 4, 2) := by decide +kernel
theorem dX12_wagsBy_16 : decode cX12_wagsBy 16 = .ok (.ishr, 1) := by decide +kernel
theorem dX12_wagsBy_17 : decode cX12_wagsBy 17 = .ok (.iconst 1, 1) := by decide +kernel
theorem dX12_wagsBy_18 : decode cX12_wagsBy 18 = .ok (.iand, 1) := by decide +kernel
theorem dX12_wagsBy_19 : decode cX12_wagsBy 19 = .ok (.ifCond .ne 7, 3) := by decide +kernel
theorem dX12_wagsBy_22 : decode cX12_wagsBy 22 = .ok (.lconst 1, 1) := by decide +kernel
theorem dX12_wagsBy_23 : decode cX12_wagsBy 23 = .ok (.goto 6, 3) := by decide +kernel
theorem dX12_wagsBy_26 : decode cX12_wagsBy 26 = .ok (.ldc2_w 209, 3) := by decide +kernel
theorem dX12_wagsBy_29 : decode cX12_wagsBy 29 = .ok (.aload_n 0, 1) := by decide +kernel
theorem dX12_wagsBy_30 : decode cX12_wagsBy 30 = .ok (.getfield 53, 3) := by decide +kernel
theorem dX12_wagsBy_33 : decode cX12_wagsBy 33 = .ok (.iload 4, 2) := by decide +kernel
theorem dX12_wagsBy_35 : decode cX12_wagsBy 35 = .ok (.laload, 1) := by decide +kernel
theorem dX12_wagsBy_36 : decode cX12_wagsBy 36 = .ok (.lmul, 1) := by decide +kernel
theorem dX12_wagsBy_37 : decode cX12_wagsBy 37 = .ok (.iload 4, 2) := by decide +kernel
theorem dX12_wagsBy_39 : decode cX12_wagsBy 39 = .ok (.iconst 1, 1) := by decide +kernel
theorem dX12_wagsBy_40 : decode cX12_wagsBy 40 = .ok (.iadd, 1) := by decide +kernel
theorem dX12_wagsBy_41 : decode cX12_wagsBy 41 = .ok (.i2l, 1) := by decide +kernel
theorem dX12_wagsBy_42 : decode cX12_wagsBy 42 = .ok (.lmul, 1) := by decide +kernel
theorem dX12_wagsBy_43 : decode cX12_wagsBy 43 = .ok (.ladd, 1) := by decide +kernel
theorem dX12_wagsBy_44 : decode cX12_wagsBy 44 = .ok (.lstore_n 2, 1) := by decide +kernel
theorem dX12_wagsBy_45 : decode cX12_wagsBy 45 = .ok (.iinc 4 1, 3) := by decide +kernel
theorem dX12_wagsBy_48 : decode cX12_wagsBy 48 = .ok (.goto (-43), 3) := by decide +kernel
theorem dX12_wagsBy_51 : decode cX12_wagsBy 51 = .ok (.lload_n 2, 1) := by decide +kernel
theorem dX12_wagsBy_52 : decode cX12_wagsBy 52 = .ok (.lconst 0, 1) := by decide +kernel
theorem dX12_wagsBy_53 : decode cX12_wagsBy 53 = .ok (.lcmp, 1) := by decide +kernel
theorem dX12_wagsBy_54 : decode cX12_wagsBy 54 = .ok (.ifCond .ge 8, 3) := by decide +kernel
theorem dX12_wagsBy_57 : decode cX12_wagsBy 57 = .ok (.lload_n 2, 1) := by decide +kernel
theorem dX12_wagsBy_58 : decode cX12_wagsBy 58 = .ok (.lneg, 1) := by decide +kernel
theorem dX12_wagsBy_59 : decode cX12_wagsBy 59 = .ok (.goto 4, 3) := by decide +kernel
theorem dX12_wagsBy_62 : decode cX12_wagsBy 62 = .ok (.lload_n 2, 1) := by decide +kernel
theorem dX12_wagsBy_63 : decode cX12_wagsBy 63 = .ok (.lreturn, 1) := by decide +kernel
theorem dX12_order_0 : decode cX12_order 0 = .ok (.iload_n 1, 1) := by decide +kernel
theorem dX12_order_1 : decode cX12_order 1 = .ok (.i2l, 1) := by decide +kernel
theorem dX12_order_2 : decode cX12_order 2 = .ok (.lconst 0, 1) := by decide +kernel
theorem dX12_order_3 : decode cX12_order 3 = .ok (.ldc2_w 161, 3) := by decide +kernel
theorem dX12_order_6 : decode cX12_order 6 = .ok (.invokestatic 125, 3) := by decide +kernel
theorem dX12_order_9 : decode cX12_order 9 = .ok (.ifCond .ne 7, 3) := by decide +kernel
theorem dX12_order_12 : decode cX12_order 12 = .ok (.ldc2_w 374, 3) := by decide +kernel
theorem dX12_order_15 : decode cX12_order 15 = .ok (.lreturn, 1) := by decide +kernel
theorem dX12_order_16 : decode cX12_order 16 = .ok (.aload_n 0, 1) := by decide +kernel
theorem dX12_order_17 : decode cX12_order 17 = .ok (.invokevirtual 367, 3) := by decide +kernel
theorem dX12_order_20 : decode cX12_order 20 = .ok (.aload_n 0, 1) := by decide +kernel
theorem dX12_order_21 : decode cX12_order 21 = .ok (.iconst 0, 1) := by decide +kernel
theorem dX12_order_22 : decode cX12_order 22 = .ok (.invokevirtual 370, 3) := by decide +kernel
theorem dX12_order_25 : decode cX12_order 25 = .ok (.iconst 0, 1) := by decide +kernel
theorem dX12_order_26 : decode cX12_order 26 = .ok (.istore_n 2, 1) := by decide +kernel
theorem dX12_order_27 : decode cX12_order 27 = .ok (.iconst 0, 1) := by decide +kernel
theorem dX12_order_28 : decode cX12_order 28 = .ok (.istore_n 3, 1) := by decide +kernel
theorem dX12_order_29 : decode cX12_order 29 = .ok (.iload_n 3, 1) := by decide +kernel
theorem dX12_order_30 : decode cX12_order 30 = .ok (.bipush 8, 2) := by decide +kernel
theorem dX12_order_32 : decode cX12_order 32 = .ok (.if_icmp .ge 20, 3) := by decide +kernel
theorem dX12_order_35 : decode cX12_order 35 = .ok (.iload_n 2, 1) := by decide +kernel
theorem dX12_order_36 : decode cX12_order 36 = .ok (.aload_n 0, 1) := by decide +kernel
theorem dX12_order_37 : decode cX12_order 37 = .ok (.getfield 38, 3) := by decide +kernel
theorem dX12_order_40 : decode cX12_order 40 = .ok (.iload_n 3, 1) := by decide +kernel
theorem dX12_order_41 : decode cX12_order 41 = .ok (.iaload, 1) := by decide +kernel
theorem dX12_order_42 : decode cX12_order 42 = .ok (.iload_n 3, 1) := by decide +kernel
theorem dX12_order_43 : decode cX12_order 43 = .ok (.ishl, 1) := by decide +kernel
theorem dX12_order_44 : decode cX12_order 44 = .ok (.ior, 1) := by decide +kernel
theorem dX12_order_45 : decode cX12_order 45 = .ok (.istore_n 2, 1) := by decide +kernel
theorem dX12_order_46 : decode cX12_order 46 = .ok (.iinc 3 1, 3) := by decide +kernel
theorem dX12_order_49 : decode cX12_order 49 = .ok (.goto (-20), 3) := by decide +kernel
theorem dX12_order_52 : decode cX12_order 52 = .ok (.iload_n 1, 1) := by decide +kernel
theorem dX12_order_53 : decode cX12_order 53 = .ok (.iconst 2, 1) := by decide +kernel
theorem dX12_order_54 : decode cX12_order 54 = .ok (.if_icmp .ne 9, 3) := by decide +kernel
theorem dX12_order_57 : decode cX12_order 57 = .ok (.aload_n 0, 1) := by decide +kernel
theorem dX12_order_58 : decode cX12_order 58 = .ok (.iload_n 2, 1) := by decide +kernel
theorem dX12_order_59 : decode cX12_order 59 = .ok (.invokevirtual 387, 3) := by decide +kernel
theorem dX12_order_62 : decode cX12_order 62 = .ok (.lreturn, 1) := by decide +kernel
theorem dX12_order_63 : decode cX12_order 63 = .ok (.iconst (-1), 1) := by decide +kernel
theorem dX12_order_64 : decode cX12_order 64 = .ok (.istore_n 3, 1) := by decide +kernel
theorem dX12_order_65 : decode cX12_order 65 = .ok (.iconst 0, 1) := by decide +kernel
theorem dX12_order_66 : decode cX12_order 66 = .ok (.istore 4, 2) := by decide +kernel
theorem dX12_order_68 : decode cX12_order 68 = .ok (.iload 4, 2) := by decide +kernel
theorem dX12_order_70 : decode cX12_order 70 = .ok (.sipush 256, 3) := by decide +kernel
theorem dX12_order_73 : decode cX12_order 73 = .ok (.if_icmp .ge 41, 3) := by decide +kernel
theorem dX12_order_76 : decode cX12_order 76 = .ok (.iload 4, 2) := by decide +kernel
theorem dX12_order_78 : decode cX12_order 78 = .ok (.invokestatic 391, 3) := by decide +kernel
theorem dX12_order_81 : decode cX12_order 81 = .ok (.iconst 4, 1) := by decide +kernel
theorem dX12_order_82 : decode cX12_order 82 = .ok (.if_icmp .ne 26, 3) := by decide +kernel
theorem dX12_order_85 : decode cX12_order 85 = .ok (.iload_n 3, 1) := by decide +kernel
theorem dX12_order_86 : decode cX12_order 86 = .ok (.iconst (-1), 1) := by decide +kernel
theorem dX12_order_87 : decode cX12_order 87 = .ok (.if_icmp .eq 18, 3) := by decide +kernel
theorem dX12_order_90 : decode cX12_order 90 = .ok (.aload_n 0, 1) := by decide +kernel
theorem dX12_order_91 : decode cX12_order 91 = .ok (.iload 4, 2) := by decide +kernel
theorem dX12_order_93 : decode cX12_order 93 = .ok (.invokevirtual 387, 3) := by decide +kernel
theorem dX12_order_96 : decode cX12_order 96 = .ok (.aload_n 0, 1) := by decide +kernel
theorem dX12_order_97 : decode cX12_order 97 = .ok (.iload_n 3, 1) := by decide +kernel
theorem dX12_order_98 : decode cX12_order 98 = .ok (.invokevirtual 387, 3) := by decide +kernel
theorem dX12_order_101 : decode cX12_order 101 = .ok (.lcmp, 1) := by decide +kernel
theorem dX12_order_102 : decode cX12_order 102 = .ok (.ifCond .ge 6, 3) := by decide +kernel
theorem dX12_order_105 : decode cX12_order 105 = .ok (.iload 4, 2) := by decide +kernel
theorem dX12_order_107 : decode cX12_order 107 = .ok (.istore_n 3, 1) := by decide +kernel
theorem dX12_order_108 : decode cX12_order 108 = .ok (.iinc 4 1, 3) := by decide +kernel
theorem dX12_order_111 : decode cX12_order 111 = .ok (.goto (-43), 3) := by decide +kernel
theorem dX12_order_114 : decode cX12_order 114 = .ok (.iload_n 1, 1) := by decide +kernel
theorem dX12_order_115 : decode cX12_order 115 = .ok (.ifCond .ne 8, 3) := by decide +kernel
theorem dX12_order_118 : decode cX12_order 118 = .ok (.iload_n 3, 1) := by decide +kernel
theorem dX12_order_119 : decode cX12_order 119 = .ok (.i2l, 1) := by decide +kernel
theorem dX12_order_120 : decode cX12_order 120 = .ok (.goto 8, 3) := by decide +kernel
theorem dX12_order_123 : decode cX12_order 123 = .ok (.aload_n 0, 1) := by decide +kernel
theorem dX12_order_124 : decode cX12_order 124 = .ok (.iload_n 3, 1) := by decide +kernel
theorem dX12_order_125 : decode cX12_order 125 = .ok (.invokevirtual 387, 3) := by decide +kernel
theorem dX12_order_128 : decode cX12_order 128 = .ok (.lreturn, 1) := by decide +kernel
theorem dX12_spurts_0 : decode cX12_spurts 0 = .ok (.iload_n 1, 1) := by decide +kernel
theorem dX12_spurts_1 : decode cX12_spurts 1 = .ok (.i2l, 1) := by decide +kernel
theorem dX12_spurts_2 : decode cX12_spurts 2 = .ok (.lconst 1, 1) := by decide +kernel
theorem dX12_spurts_3 : decode cX12_spurts 3 = .ok (.ldc2_w 294, 3) := by decide +kernel
theorem dX12_spurts_6 : decode cX12_spurts 6 = .ok (.invokestatic 125, 3) := by decide +kernel
theorem dX12_spurts_9 : decode cX12_spurts 9 = .ok (.ifCond .eq 24, 3) := by decide +kernel
theorem dX12_spurts_12 : decode cX12_spurts 12 = .ok (.iload_n 2, 1) := by decide +kernel
theorem dX12_spurts_13 : decode cX12_spurts 13 = .ok (.i2l, 1) := by decide +kernel
theorem dX12_spurts_14 : decode cX12_spurts 14 = .ok (.lconst 0, 1) := by decide +kernel
theorem dX12_spurts_15 : decode cX12_spurts 15 = .ok (.iload_n 1, 1) := by decide +kernel
theorem dX12_spurts_16 : decode cX12_spurts 16 = .ok (.i2l, 1) := by decide +kernel
theorem dX12_spurts_17 : decode cX12_spurts 17 = .ok (.invokestatic 125, 3) := by decide +kernel
theorem dX12_spurts_20 : decode cX12_spurts 20 = .ok (.ifCond .eq 13, 3) := by decide +kernel
theorem dX12_spurts_23 : decode cX12_spurts 23 = .ok (.iload_n 3, 1) := by decide +kernel
theorem dX12_spurts_24 : decode cX12_spurts 24 = .ok (.i2l, 1) := by decide +kernel
theorem dX12_spurts_25 : decode cX12_spurts 25 = .ok (.lconst 0, 1) := by decide +kernel
theorem dX12_spurts_26 : decode cX12_spurts 26 = .ok (.lconst 1, 1) := by decide +kernel
theorem dX12_spurts_27 : decode cX12_spurts 27 = .ok (.invokestatic 125, 3) := by decide +kernel
theorem dX12_spurts_30 : decode cX12_spurts 30 = .ok (.ifCond .ne 7, 3) := by decide +kernel
theorem dX12_spurts_33 : decode cX12_spurts 33 = .ok (.ldc2_w 374, 3) := by decide +kernel
theorem dX12_spurts_36 : decode cX12_spurts 36 = .ok (.lreturn, 1) := by decide +kernel
theorem dX12_spurts_37 : decode cX12_spurts 37 = .ok (.iconst 0, 1) := by decide +kernel
theorem dX12_spurts_38 : decode cX12_spurts 38 = .ok (.istore 4, 2) := by decide +kernel
theorem dX12_spurts_40 : decode cX12_spurts 40 = .ok (.ldc2_w 209, 3) := by decide +kernel
theorem dX12_spurts_43 : decode cX12_spurts 43 = .ok (.lstore 5, 2) := by decide +kernel
theorem dX12_spurts_45 : decode cX12_spurts 45 = .ok (.iconst 0, 1) := by decide +kernel
theorem dX12_spurts_46 : decode cX12_spurts 46 = .ok (.istore 7, 2) := by decide +kernel
theorem dX12_spurts_48 : decode cX12_spurts 48 = .ok (.iload 7, 2) := by decide +kernel
theorem dX12_spurts_50 : decode cX12_spurts 50 = .ok (.iload_n 1, 1) := by decide +kernel
theorem dX12_spurts_51 : decode cX12_spurts 51 = .ok (.iload_n 2, 1) := by decide +kernel
theorem dX12_spurts_52 : decode cX12_spurts 52 = .ok (.isub, 1) := by decide +kernel
theorem dX12_spurts_53 : decode cX12_spurts 53 = .ok (.if_icmp .gt 79, 3) := by decide +kernel
theorem dX12_spurts_56 : decode cX12_spurts 56 = .ok (.aload_n 0, 1) := by decide +kernel
theorem dX12_spurts_57 : decode cX12_spurts 57 = .ok (.invokevirtual 367, 3) := by decide +kernel
theorem dX12_spurts_60 : decode cX12_spurts 60 = .ok (.iconst 0, 1) := by decide +kernel
theorem dX12_spurts_61 : decode cX12_spurts 61 = .ok (.istore 8, 2) := by decide +kernel
theorem dX12_spurts_63 : decode cX12_spurts 63 = .ok (.iload 8, 2) := by decide +kernel
theorem dX12_spurts_65 : decode cX12_spurts 65 = .ok (.iload_n 1, 1) := by decide +kernel
theorem dX12_spurts_66 : decode cX12_spurts 66 = .ok (.if_icmp .ge 37, 3) := by decide +kernel
theorem dX12_spurts_69 : decode cX12_spurts 69 = .ok (.aload_n 0, 1) := by decide +kernel
theorem dX12_spurts_70 : decode cX12_spurts 70 = .ok (.iload 8, 2) := by decide +kernel
theorem dX12_spurts_72 : decode cX12_spurts 72 = .ok (.iload_n 2, 1) := by decide +kernel
theorem dX12_spurts_73 : decode cX12_spurts 73 = .ok (.if_icmp .ge 7, 3) := by decide +kernel
theorem dX12_spurts_76 : decode cX12_spurts 76 = .ok (.iconst 1, 1) := by decide +kernel
theorem dX12_spurts_77 : decode cX12_spurts 77 = .ok (.goto 17, 3) := by decide +kernel
theorem dX12_spurts_80 : decode cX12_spurts 80 = .ok (.iload 8, 2) := by decide +kernel
theorem dX12_spurts_82 : decode cX12_spurts 82 = .ok (.iload_n 1, 1) := by decide +kernel
theorem dX12_spurts_83 : decode cX12_spurts 83 = .ok (.iload 7, 2) := by decide +kernel
theorem dX12_spurts_85 : decode cX12_spurts 85 = .ok (.isub, 1) := by decide +kernel
theorem dX12_spurts_86 : decode cX12_spurts 86 = .ok (.if_icmp .lt 7, 3) := by decide +kernel
theorem dX12_spurts_89 : decode cX12_spurts 89 = .ok (.iconst 2, 1) := by decide +kernel
theorem dX12_spurts_90 : decode cX12_spurts 90 = .ok (.goto 4, 3) := by decide +kernel
theorem dX12_spurts_93 : decode cX12_spurts 93 = .ok (.iconst 0, 1) := by decide +kernel
theorem dX12_spurts_94 : decode cX12_spurts 94 = .ok (.invokevirtual 370, 3) := by decide +kernel
theorem dX12_spurts_97 : decode cX12_spurts 97 = .ok (.iinc 8 1, 3) := by decide +kernel
theorem dX12_spurts_100 : decode cX12_spurts 100 = .ok (.goto (-37), 3) := by decide +kernel
theorem dX12_spurts_103 : decode cX12_spurts 103 = .ok (.aload_n 0, 1) := by decide +kernel
theorem dX12_spurts_104 : decode cX12_spurts 104 = .ok (.getfield 336, 3) := by decide +kernel
theorem dX12_spurts_107 : decode cX12_spurts 107 = .ok (.lload 5, 2) := by decide +kernel
theorem dX12_spurts_109 : decode cX12_spurts 109 = .ok (.lcmp, 1) := by decide +kernel
theorem dX12_spurts_110 : decode cX12_spurts 110 = .ok (.ifCond .gt 6, 3) := by decide +kernel
theorem dX12_spurts_113 : decode cX12_spurts 113 = .ok (.goto 13, 3) := by decide +kernel
theorem dX12_spurts_116 : decode cX12_spurts 116 = .ok (.aload_n 0, 1) := by decide +kernel
theorem dX12_spurts_117 : decode cX12_spurts 117 = .ok (.getfield 336, 3) := by decide +kernel
theorem dX12_spurts_120 : decode cX12_spurts 120 = .ok (.lstore 5, 2) := by decide +kernel
theorem dX12_spurts_122 : decode cX12_spurts 122 = .ok (.iload 7, 2) := by decide +kernel
theorem dX12_spurts_124 : decode cX12_spurts 124 = .ok (.istore 4, 2) := by decide +kernel
theorem dX12_spurts_126 : decode cX12_spurts 126 = .ok (.iinc 7 1, 3) := by decide +kernel
theorem dX12_spurts_129 : decode cX12_spurts 129 = .ok (.goto (-81), 3) := by decide +kernel
theorem dX12_spurts_132 : decode cX12_spurts 132 = .ok (.iload_n 3, 1) := by decide +kernel
theorem dX12_spurts_133 : decode cX12_spurts 133 = .ok (.ifCond .ne 9, 3) := by decide +kernel
theorem dX12_spurts_136 : decode cX12_spurts 136 = .ok (.iload 4, 2) := by decide +kernel
theorem dX12_spurts_138 : decode cX12_spurts 138 = .ok (.i2l, 1) := by decide +kernel
theorem dX12_spurts_139 : decode cX12_spurts 139 = .ok (.goto 5, 3) := by decide +kernel
theorem dX12_spurts_142 : decode cX12_spurts 142 = .ok (.lload 5, 2) := by decide +kernel
theorem dX12_spurts_144 : decode cX12_spurts 144 = .ok (.lreturn, 1) := by decide +kernel
theorem dX12_piece_0 : decode cX12_piece 0 = .ok (.aload_n 0, 1) := by decide +kernel
theorem dX12_piece_1 : decode cX12_piece 1 = .ok (.iload_n 1, 1) := by decide +kernel
theorem dX12_piece_2 : decode cX12_piece 2 = .ok (.invokevirtual 139, 3) := by decide +kernel
theorem dX12_piece_5 : decode cX12_piece 5 = .ok (.ifCond .eq 43, 3) := by decide +kernel
theorem dX12_piece_8 : decode cX12_piece 8 = .ok (.aload_n 0, 1) := by decide +kernel
theorem dX12_piece_9 : decode cX12_piece 9 = .ok (.iload_n 2, 1) := by decide +kernel
theorem dX12_piece_10 : decode cX12_piece 10 = .ok (.invokevirtual 139, 3) := by decide +kernel
theorem dX12_piece_13 : decode cX12_piece 13 = .ok (.ifCond .eq 35, 3) := by decide +kernel
theorem dX12_piece_16 : decode cX12_piece 16 = .ok (.iload_n 1, 1) := by decide +kernel
theorem dX12_piece_17 : decode cX12_piece 17 = .ok (.iload_n 2, 1) := by decide +kernel
theorem dX12_piece_18 : decode cX12_piece 18 = .ok (.if_icmp .eq 30, 3) := by decide +kernel
theorem dX12_piece_21 : decode cX12_piece 21 = .ok (.iload_n 3, 1) := by decide +kernel
theorem dX12_piece_22 : decode cX12_piece 22 = .ok (.i2l, 1) := by decide +kernel
theorem dX12_piece_23 : decode cX12_piece 23 = .ok (.ldc2_w 394, 3) := by decide +kernel
theorem dX12_piece_26 : decode cX12_piece 26 = .ok (.ldc2_w 137, 3) := by decide +kernel
theorem dX12_piece_29 : decode cX12_piece 29 = .ok (.invokestatic 125, 3) := by decide +kernel
theorem dX12_piece_32 : decode cX12_piece 32 = .ok (.ifCond .eq 16, 3) := by decide +kernel
theorem dX12_piece_35 : decode cX12_piece 35 = .ok (.iload 4, 2) := by decide +kernel
theorem dX12_piece_37 : decode cX12_piece 37 = .ok (.i2l, 1) := by decide +kernel
theorem dX12_piece_38 : decode cX12_piece 38 = .ok (.lconst 0, 1) := by decide +kernel
theorem dX12_piece_39 : decode cX12_piece 39 = .ok (.ldc2_w 154, 3) := by decide +kernel
theorem dX12_piece_42 : decode cX12_piece 42 = .ok (.invokestatic 125, 3) := by decide +kernel
theorem dX12_piece_45 : decode cX12_piece 45 = .ok (.ifCond .ne 6, 3) := by decide +kernel
theorem dX12_piece_48 : decode cX12_piece 48 = .ok (.bipush (-2), 2) := by decide +kernel
theorem dX12_piece_50 : decode cX12_piece 50 = .ok (.ireturn, 1) := by decide +kernel
theorem dX12_piece_51 : decode cX12_piece 51 = .ok (.aload_n 0, 1) := by decide +kernel
theorem dX12_piece_52 : decode cX12_piece 52 = .ok (.getfield 396, 3) := by decide +kernel
theorem dX12_piece_55 : decode cX12_piece 55 = .ok (.bipush 30, 2) := by decide +kernel
theorem dX12_piece_57 : decode cX12_piece 57 = .ok (.if_icmp .ne 6, 3) := by decide +kernel
theorem dX12_piece_60 : decode cX12_piece 60 = .ok (.bipush (-4), 2) := by decide +kernel
theorem dX12_piece_62 : decode cX12_piece 62 = .ok (.ireturn, 1) := by decide +kernel
theorem dX12_piece_63 : decode cX12_piece 63 = .ok (.aload_n 0, 1) := by decide +kernel
theorem dX12_piece_64 : decode cX12_piece 64 = .ok (.getfield 57, 3) := by decide +kernel
theorem dX12_piece_67 : decode cX12_piece 67 = .ok (.aload_n 0, 1) := by decide +kernel
theorem dX12_piece_68 : decode cX12_piece 68 = .ok (.getfield 396, 3) := by decide +kernel
theorem dX12_piece_71 : decode cX12_piece 71 = .ok (.iload_n 1, 1) := by decide +kernel
theorem dX12_piece_72 : decode cX12_piece 72 = .ok (.iastore, 1) := by decide +kernel
theorem dX12_piece_73 : decode cX12_piece 73 = .ok (.aload_n 0, 1) := by decide +kernel
theorem dX12_piece_74 : decode cX12_piece 74 = .ok (.getfield 60, 3) := by decide +kernel
theorem dX12_piece_77 : decode cX12_piece 77 = .ok (.aload_n 0, 1) := by decide +kernel
theorem dX12_piece_78 : decode cX12_piece 78 = .ok (.getfield 396, 3) := by decide +kernel
theorem dX12_piece_81 : decode cX12_piece 81 = .ok (.iload_n 2, 1) := by decide +kernel
theorem dX12_piece_82 : decode cX12_piece 82 = .ok (.iastore, 1) := by decide +kernel
theorem dX12_piece_83 : decode cX12_piece 83 = .ok (.aload_n 0, 1) := by decide +kernel
theorem dX12_piece_84 : decode cX12_piece 84 = .ok (.getfield 63, 3) := by decide +kernel
theorem dX12_piece_87 : decode cX12_piece 87 = .ok (.aload_n 0, 1) := by decide +kernel
theorem dX12_piece_88 : decode cX12_piece 88 = .ok (.getfield 396, 3) := by decide +kernel
theorem dX12_piece_91 : decode cX12_piece 91 = .ok (.iload_n 3, 1) := by decide +kernel
theorem dX12_piece_92 : decode cX12_piece 92 = .ok (.iastore, 1) := by decide +kernel
theorem dX12_piece_93 : decode cX12_piece 93 = .ok (.aload_n 0, 1) := by decide +kernel
theorem dX12_piece_94 : decode cX12_piece 94 = .ok (.getfield 66, 3) := by decide +kernel
theorem dX12_piece_97 : decode cX12_piece 97 = .ok (.aload_n 0, 1) := by decide +kernel
theorem dX12_piece_98 : decode cX12_piece 98 = .ok (.getfield 396, 3) := by decide +kernel
theorem dX12_piece_101 : decode cX12_piece 101 = .ok (.iload 4, 2) := by decide +kernel
theorem dX12_piece_103 : decode cX12_piece 103 = .ok (.iastore, 1) := by decide +kernel
theorem dX12_piece_104 : decode cX12_piece 104 = .ok (.aload_n 0, 1) := by decide +kernel
theorem dX12_piece_105 : decode cX12_piece 105 = .ok (.dup, 1) := by decide +kernel
theorem dX12_piece_106 : decode cX12_piece 106 = .ok (.getfield 396, 3) := by decide +kernel
theorem dX12_piece_109 : decode cX12_piece 109 = .ok (.iconst 1, 1) := by decide +kernel
theorem dX12_piece_110 : decode cX12_piece 110 = .ok (.iadd, 1) := by decide +kernel
theorem dX12_piece_111 : decode cX12_piece 111 = .ok (.putfield 396, 3) := by decide +kernel
theorem dX12_piece_114 : decode cX12_piece 114 = .ok (.aload_n 0, 1) := by decide +kernel
theorem dX12_piece_115 : decode cX12_piece 115 = .ok (.getfield 396, 3) := by decide +kernel
theorem dX12_piece_118 : decode cX12_piece 118 = .ok (.iconst 1, 1) := by decide +kernel
theorem dX12_piece_119 : decode cX12_piece 119 = .ok (.isub, 1) := by decide +kernel
theorem dX12_piece_120 : decode cX12_piece 120 = .ok (.ireturn, 1) := by decide +kernel
theorem dX12_bounds_0 : decode cX12_bounds 0 = .ok (.bipush 16, 2) := by decide +kernel
theorem dX12_bounds_2 : decode cX12_bounds 2 = .ok (.iload_n 1, 1) := by decide +kernel
theorem dX12_bounds_3 : decode cX12_bounds 3 = .ok (.imul, 1) := by decide +kernel
theorem dX12_bounds_4 : decode cX12_bounds 4 = .ok (.iload_n 2, 1) := by decide +kernel
theorem dX12_bounds_5 : decode cX12_bounds 5 = .ok (.iadd, 1) := by decide +kernel
theorem dX12_bounds_6 : decode cX12_bounds 6 = .ok (.istore 5, 2) := by decide +kernel
theorem dX12_bounds_8 : decode cX12_bounds 8 = .ok (.aload_n 0, 1) := by decide +kernel
theorem dX12_bounds_9 : decode cX12_bounds 9 = .ok (.getfield 69, 3) := by decide +kernel
theorem dX12_bounds_12 : decode cX12_bounds 12 = .ok (.iload 5, 2) := by decide +kernel
theorem dX12_bounds_14 : decode cX12_bounds 14 = .ok (.laload, 1) := by decide +kernel
theorem dX12_bounds_15 : decode cX12_bounds 15 = .ok (.ldc2_w 399, 3) := by decide +kernel
theorem dX12_bounds_18 : decode cX12_bounds 18 = .ok (.lcmp, 1) := by decide +kernel
theorem dX12_bounds_19 : decode cX12_bounds 19 = .ok (.ifCond .eq 15, 3) := by decide +kernel
theorem dX12_bounds_22 : decode cX12_bounds 22 = .ok (.lload_n 3, 1) := by decide +kernel
theorem dX12_bounds_23 : decode cX12_bounds 23 = .ok (.aload_n 0, 1) := by decide +kernel
theorem dX12_bounds_24 : decode cX12_bounds 24 = .ok (.getfield 69, 3) := by decide +kernel
theorem dX12_bounds_27 : decode cX12_bounds 27 = .ok (.iload 5, 2) := by decide +kernel
theorem dX12_bounds_29 : decode cX12_bounds 29 = .ok (.laload, 1) := by decide +kernel
theorem dX12_bounds_30 : decode cX12_bounds 30 = .ok (.lcmp, 1) := by decide +kernel
theorem dX12_bounds_31 : decode cX12_bounds 31 = .ok (.ifCond .ge 11, 3) := by decide +kernel
theorem dX12_bounds_34 : decode cX12_bounds 34 = .ok (.aload_n 0, 1) := by decide +kernel
theorem dX12_bounds_35 : decode cX12_bounds 35 = .ok (.getfield 69, 3) := by decide +kernel
theorem dX12_bounds_38 : decode cX12_bounds 38 = .ok (.iload 5, 2) := by decide +kernel
theorem dX12_bounds_40 : decode cX12_bounds 40 = .ok (.lload_n 3, 1) := by decide +kernel
theorem dX12_bounds_41 : decode cX12_bounds 41 = .ok (.lastore, 1) := by decide +kernel
theorem dX12_bounds_42 : decode cX12_bounds 42 = .ok (.return_, 1) := by decide +kernel
theorem dX12_quarrels_0 : decode cX12_quarrels 0 = .ok (.iconst 0, 1) := by decide +kernel
theorem dX12_quarrels_1 : decode cX12_quarrels 1 = .ok (.istore_n 2, 1) := by decide +kernel
theorem dX12_quarrels_2 : decode cX12_quarrels 2 = .ok (.iload_n 2, 1) := by decide +kernel
theorem dX12_quarrels_3 : decode cX12_quarrels 3 = .ok (.sipush 256, 3) := by decide +kernel
theorem dX12_quarrels_6 : decode cX12_quarrels 6 = .ok (.if_icmp .ge 33, 3) := by decide +kernel
theorem dX12_quarrels_9 : decode cX12_quarrels 9 = .ok (.aload_n 0, 1) := by decide +kernel
theorem dX12_quarrels_10 : decode cX12_quarrels 10 = .ok (.getfield 69, 3) := by decide +kernel
theorem dX12_quarrels_13 : decode cX12_quarrels 13 = .ok (.iload_n 2, 1) := by decide +kernel
theorem dX12_quarrels_14 : decode cX12_quarrels 14 = .ok (.iload_n 2, 1) := by decide +kernel
theorem dX12_quarrels_15 : decode cX12_quarrels 15 = .ok (.bipush 16, 2) := by decide +kernel
theorem dX12_quarrels_17 : decode cX12_quarrels 17 = .ok (.idiv, 1) := by decide +kernel
theorem dX12_quarrels_18 : decode cX12_quarrels 18 = .ok (.iload_n 2, 1) := by decide +kernel
theorem dX12_quarrels_19 : decode cX12_quarrels 19 = .ok (.bipush 16, 2) := by decide +kernel
theorem dX12_quarrels_21 : decode cX12_quarrels 21 = .ok (.irem, 1) := by decide +kernel
theorem dX12_quarrels_22 : decode cX12_quarrels 22 = .ok (.if_icmp .ne 7, 3) := by decide +kernel
theorem dX12_quarrels_25 : decode cX12_quarrels 25 = .ok (.lconst 0, 1) := by decide +kernel
theorem dX12_quarrels_26 : decode cX12_quarrels 26 = .ok (.goto 6, 3) := by decide +kernel
theorem dX12_quarrels_29 : decode cX12_quarrels 29 = .ok (.ldc2_w 399, 3) := by decide +kernel
theorem dX12_quarrels_32 : decode cX12_quarrels 32 = .ok (.lastore, 1) := by decide +kernel
theorem dX12_quarrels_33 : decode cX12_quarrels 33 = .ok (.iinc 2 1, 3) := by decide +kernel
theorem dX12_quarrels_36 : decode cX12_quarrels 36 = .ok (.goto (-34), 3) := by decide +kernel
theorem dX12_quarrels_39 : decode cX12_quarrels 39 = .ok (.iconst 0, 1) := by decide +kernel
theorem dX12_quarrels_40 : decode cX12_quarrels 40 = .ok (.istore_n 2, 1) := by decide +kernel
theorem dX12_quarrels_41 : decode cX12_quarrels 41 = .ok (.iload_n 2, 1) := by decide +kernel
theorem dX12_quarrels_42 : decode cX12_quarrels 42 = .ok (.aload_n 0, 1) := by decide +kernel
theorem dX12_quarrels_43 : decode cX12_quarrels 43 = .ok (.getfield 396, 3) := by decide +kernel
theorem dX12_quarrels_46 : decode cX12_quarrels 46 = .ok (.if_icmp .ge 80, 3) := by decide +kernel
theorem dX12_quarrels_49 : decode cX12_quarrels 49 = .ok (.iload_n 1, 1) := by decide +kernel
theorem dX12_quarrels_50 : decode cX12_quarrels 50 = .ok (.iload_n 2, 1) := by decide +kernel
theorem dX12_quarrels_51 : decode cX12_quarrels 51 = .ok (.ishr, 1) := by decide +kernel
theorem dX12_quarrels_52 : decode cX12_quarrels 52 = .ok (.iconst 1, 1) := by decide +kernel
theorem dX12_quarrels_53 : decode cX12_quarrels 53 = .ok (.iand, 1) := by decide +kernel
theorem dX12_quarrels_54 : decode cX12_quarrels 54 = .ok (.ifCond .ne 6, 3) := by decide +kernel
theorem dX12_quarrels_57 : decode cX12_quarrels 57 = .ok (.goto 63, 3) := by decide +kernel
theorem dX12_quarrels_60 : decode cX12_quarrels 60 = .ok (.aload_n 0, 1) := by decide +kernel
theorem dX12_quarrels_61 : decode cX12_quarrels 61 = .ok (.aload_n 0, 1) := by decide +kernel
theorem dX12_quarrels_62 : decode cX12_quarrels 62 = .ok (.getfield 57, 3) := by decide +kernel
theorem dX12_quarrels_65 : decode cX12_quarrels 65 = .ok (.iload_n 2, 1) := by decide +kernel
theorem dX12_quarrels_66 : decode cX12_quarrels 66 = .ok (.iaload, 1) := by decide +kernel
theorem dX12_quarrels_67 : decode cX12_quarrels 67 = .ok (.aload_n 0, 1) := by decide +kernel
theorem dX12_quarrels_68 : decode cX12_quarrels 68 = .ok (.getfield 60, 3) := by decide +kernel
theorem dX12_quarrels_71 : decode cX12_quarrels 71 = .ok (.iload_n 2, 1) := by decide +kernel
theorem dX12_quarrels_72 : decode cX12_quarrels 72 = .ok (.iaload, 1) := by decide +kernel
theorem dX12_quarrels_73 : decode cX12_quarrels 73 = .ok (.aload_n 0, 1) := by decide +kernel
theorem dX12_quarrels_74 : decode cX12_quarrels 74 = .ok (.getfield 63, 3) := by decide +kernel
theorem dX12_quarrels_77 : decode cX12_quarrels 77 = .ok (.iload_n 2, 1) := by decide +kernel
theorem dX12_quarrels_78 : decode cX12_quarrels 78 = .ok (.iaload, 1) := by decide +kernel
theorem dX12_quarrels_79 : decode cX12_quarrels 79 = .ok (.aload_n 0, 1) := by decide +kernel
theorem dX12_quarrels_80 : decode cX12_quarrels 80 = .ok (.getfield 66, 3) := by decide +kernel
theorem dX12_quarrels_83 : decode cX12_quarrels 83 = .ok (.iload_n 2, 1) := by decide +kernel
theorem dX12_quarrels_84 : decode cX12_quarrels 84 = .ok (.iaload, 1) := by decide +kernel
theorem dX12_quarrels_85 : decode cX12_quarrels 85 = .ok (.iadd, 1) := by decide +kernel
theorem dX12_quarrels_86 : decode cX12_quarrels 86 = .ok (.i2l, 1) := by decide +kernel
theorem dX12_quarrels_87 : decode cX12_quarrels 87 = .ok (.invokevirtual 401, 3) := by decide +kernel
theorem dX12_quarrels_90 : decode cX12_quarrels 90 = .ok (.aload_n 0, 1) := by decide +kernel
theorem dX12_quarrels_91 : decode cX12_quarrels 91 = .ok (.aload_n 0, 1) := by decide +kernel
theorem dX12_quarrels_92 : decode cX12_quarrels 92 = .ok (.getfield 60, 3) := by decide +kernel
theorem dX12_quarrels_95 : decode cX12_quarrels 95 = .ok (.iload_n 2, 1) := by decide +kernel
theorem dX12_quarrels_96 : decode cX12_quarrels 96 = .ok (.iaload, 1) := by decide +kernel
theorem dX12_quarrels_97 : decode cX12_quarrels 97 = .ok (.aload_n 0, 1) := by decide +kernel
theorem dX12_quarrels_98 : decode cX12_quarrels 98 = .ok (.getfield 57, 3) := by decide +kernel
theorem dX12_quarrels_101 : decode cX12_quarrels 101 = .ok (.iload_n 2, 1) := by decide +kernel
theorem dX12_quarrels_102 : decode cX12_quarrels 102 = .ok (.iaload, 1) := by decide +kernel
theorem dX12_quarrels_103 : decode cX12_quarrels 103 = .ok (.aload_n 0, 1) := by decide +kernel
theorem dX12_quarrels_104 : decode cX12_quarrels 104 = .ok (.getfield 66, 3) := by decide +kernel
theorem dX12_quarrels_107 : decode cX12_quarrels 107 = .ok (.iload_n 2, 1) := by decide +kernel
theorem dX12_quarrels_108 : decode cX12_quarrels 108 = .ok (.iaload, 1) := by decide +kernel
theorem dX12_quarrels_109 : decode cX12_quarrels 109 = .ok (.aload_n 0, 1) := by decide +kernel
theorem dX12_quarrels_110 : decode cX12_quarrels 110 = .ok (.getfield 63, 3) := by decide +kernel
theorem dX12_quarrels_113 : decode cX12_quarrels 113 = .ok (.iload_n 2, 1) := by decide +kernel
theorem dX12_quarrels_114 : decode cX12_quarrels 114 = .ok (.iaload, 1) := by decide +kernel
theorem dX12_quarrels_115 : decode cX12_quarrels 115 = .ok (.isub, 1) := by decide +kernel
theorem dX12_quarrels_116 : decode cX12_quarrels 116 = .ok (.i2l, 1) := by decide +kernel
theorem dX12_quarrels_117 : decode cX12_quarrels 117 = .ok (.invokevirtual 401, 3) := by decide +kernel
theorem dX12_quarrels_120 : decode cX12_quarrels 120 = .ok (.iinc 2 1, 3) := by decide +kernel
theorem dX12_quarrels_123 : decode cX12_quarrels 123 = .ok (.goto (-82), 3) := by decide +kernel
theorem dX12_quarrels_126 : decode cX12_quarrels 126 = .ok (.iconst 0, 1) := by decide +kernel
theorem dX12_quarrels_127 : decode cX12_quarrels 127 = .ok (.istore_n 2, 1) := by decide +kernel
theorem dX12_quarrels_128 : decode cX12_quarrels 128 = .ok (.iload_n 2, 1) := by decide +kernel
theorem dX12_quarrels_129 : decode cX12_quarrels 129 = .ok (.aload_n 0, 1) := by decide +kernel
theorem dX12_quarrels_130 : decode cX12_quarrels 130 = .ok (.getfield 122, 3) := by decide +kernel
theorem dX12_quarrels_133 : decode cX12_quarrels 133 = .ok (.if_icmp .ge 148, 3) := by decide +kernel
theorem dX12_quarrels_136 : decode cX12_quarrels 136 = .ok (.iconst 0, 1) := by decide +kernel
theorem dX12_quarrels_137 : decode cX12_quarrels 137 = .ok (.istore_n 3, 1) := by decide +kernel
theorem dX12_quarrels_138 : decode cX12_quarrels 138 = .ok (.iload_n 3, 1) := by decide +kernel
theorem dX12_quarrels_139 : decode cX12_quarrels 139 = .ok (.aload_n 0, 1) := by decide +kernel
theorem dX12_quarrels_140 : decode cX12_quarrels 140 = .ok (.getfield 122, 3) := by decide +kernel
theorem dX12_quarrels_143 : decode cX12_quarrels 143 = .ok (.if_icmp .ge 98, 3) := by decide +kernel
theorem dX12_quarrels_146 : decode cX12_quarrels 146 = .ok (.aload_n 0, 1) := by decide +kernel
theorem dX12_quarrels_147 : decode cX12_quarrels 147 = .ok (.getfield 69, 3) := by decide +kernel
theorem dX12_quarrels_150 : decode cX12_quarrels 150 = .ok (.bipush 16, 2) := by decide +kernel
theorem dX12_quarrels_152 : decode cX12_quarrels 152 = .ok (.iload_n 3, 1) := by decide +kernel
theorem dX12_quarrels_153 : decode cX12_quarrels 153 = .ok (.imul, 1) := by decide +kernel
theorem dX12_quarrels_154 : decode cX12_quarrels 154 = .ok (.iload_n 2, 1) := by decide +kernel
theorem dX12_quarrels_155 : decode cX12_quarrels 155 = .ok (.iadd, 1) := by decide +kernel
theorem dX12_quarrels_156 : decode cX12_quarrels 156 = .ok (.laload, 1) := by decide +kernel
theorem dX12_quarrels_157 : decode cX12_quarrels 157 = .ok (.ldc2_w 399, 3) := by decide +kernel
theorem dX12_quarrels_160 : decode cX12_quarrels 160 = .ok (.lcmp, 1) := by decide +kernel
theorem dX12_quarrels_161 : decode cX12_quarrels 161 = .ok (.ifCond .ne 6, 3) := by decide +kernel
theorem dX12_quarrels_164 : decode cX12_quarrels 164 = .ok (.goto 71, 3) := by decide +kernel
theorem dX12_quarrels_167 : decode cX12_quarrels 167 = .ok (.iconst 0, 1) := by decide +kernel
theorem dX12_quarrels_168 : decode cX12_quarrels 168 = .ok (.istore 4, 2) := by decide +kernel
theorem dX12_quarrels_170 : decode cX12_quarrels 170 = .ok (.iload 4, 2) := by decide +kernel
theorem dX12_quarrels_172 : decode cX12_quarrels 172 = .ok (.aload_n 0, 1) := by decide +kernel
theorem dX12_quarrels_173 : decode cX12_quarrels 173 = .ok (.getfield 122, 3) := by decide +kernel
theorem dX12_quarrels_176 : decode cX12_quarrels 176 = .ok (.if_icmp .ge 59, 3) := by decide +kernel
theorem dX12_quarrels_179 : decode cX12_quarrels 179 = .ok (.aload_n 0, 1) := by decide +kernel
theorem dX12_quarrels_180 : decode cX12_quarrels 180 = .ok (.getfield 69, 3) := by decide +kernel
theorem dX12_quarrels_183 : decode cX12_quarrels 183 = .ok (.bipush 16, 2) := by decide +kernel
theorem dX12_quarrels_185 : decode cX12_quarrels 185 = .ok (.iload_n 2, 1) := by decide +kernel
theorem dX12_quarrels_186 : decode cX12_quarrels 186 = .ok (.imul, 1) := by decide +kernel
theorem dX12_quarrels_187 : decode cX12_quarrels 187 = .ok (.iload 4, 2) := by decide +kernel
theorem dX12_quarrels_189 : decode cX12_quarrels 189 = .ok (.iadd, 1) := by decide +kernel
theorem dX12_quarrels_190 : decode cX12_quarrels 190 = .ok (.laload, 1) := by decide +kernel
theorem dX12_quarrels_191 : decode cX12_quarrels 191 = .ok (.ldc2_w 399, 3) := by decide +kernel
theorem dX12_quarrels_194 : decode cX12_quarrels 194 = .ok (.lcmp, 1) := by decide +kernel
theorem dX12_quarrels_195 : decode cX12_quarrels 195 = .ok (.ifCond .eq 34, 3) := by decide +kernel
theorem dX12_quarrels_198 : decode cX12_quarrels 198 = .ok (.aload_n 0, 1) := by decide +kernel
theorem dX12_quarrels_199 : decode cX12_quarrels 199 = .ok (.iload_n 3, 1) := by decide +kernel
theorem dX12_quarrels_200 : decode cX12_quarrels 200 = .ok (.iload 4, 2) := by decide +kernel
theorem dX12_quarrels_202 : decode cX12_quarrels 202 = .ok (.aload_n 0, 1) := by decide +kernel
theorem dX12_quarrels_203 : decode cX12_quarrels 203 = .ok (.getfield 69, 3) := by decide +kernel
theorem dX12_quarrels_206 : decode cX12_quarrels 206 = .ok (.bipush 16, 2) := by decide +kernel
theorem dX12_quarrels_208 : decode cX12_quarrels 208 = .ok (.iload_n 3, 1) := by decide +kernel
theorem dX12_quarrels_209 : decode cX12_quarrels 209 = .ok (.imul, 1) := by decide +kernel
theorem dX12_quarrels_210 : decode cX12_quarrels 210 = .ok (.iload_n 2, 1) := by decide +kernel
theorem dX12_quarrels_211 : decode cX12_quarrels 211 = .ok (.iadd, 1) := by decide +kernel
theorem dX12_quarrels_212 : decode cX12_quarrels 212 = .ok (.laload, 1) := by decide +kernel
theorem dX12_quarrels_213 : decode cX12_quarrels 213 = .ok (.aload_n 0, 1) := by decide +kernel
theorem dX12_quarrels_214 : decode cX12_quarrels 214 = .ok (.getfield 69, 3) := by decide +kernel
theorem dX12_quarrels_217 : decode cX12_quarrels 217 = .ok (.bipush 16, 2) := by decide +kernel
theorem dX12_quarrels_219 : decode cX12_quarrels 219 = .ok (.iload_n 2, 1) := by decide +kernel
theorem dX12_quarrels_220 : decode cX12_quarrels 220 = .ok (.imul, 1) := by decide +kernel
theorem dX12_quarrels_221 : decode cX12_quarrels 221 = .ok (.iload 4, 2) := by decide +kernel
theorem dX12_quarrels_223 : decode cX12_quarrels 223 = .ok (.iadd, 1) := by decide +kernel
theorem dX12_quarrels_224 : decode cX12_quarrels 224 = .ok (.laload, 1) := by decide +kernel
theorem dX12_quarrels_225 : decode cX12_quarrels 225 = .ok (.ladd, 1) := by decide +kernel
theorem dX12_quarrels_226 : decode cX12_quarrels 226 = .ok (.invokevirtual 401, 3) := by decide +kernel
theorem dX12_quarrels_229 : decode cX12_quarrels 229 = .ok (.iinc 4 1, 3) := by decide +kernel
theorem dX12_quarrels_232 : decode cX12_quarrels 232 = .ok (.goto (-62), 3) := by decide +kernel
theorem dX12_quarrels_235 : decode cX12_quarrels 235 = .ok (.iinc 3 1, 3) := by decide +kernel
theorem dX12_quarrels_238 : decode cX12_quarrels 238 = .ok (.goto (-100), 3) := by decide +kernel
theorem dX12_quarrels_241 : decode cX12_quarrels 241 = .ok (.iconst 0, 1) := by decide +kernel
theorem dX12_quarrels_242 : decode cX12_quarrels 242 = .ok (.istore_n 3, 1) := by decide +kernel
theorem dX12_quarrels_243 : decode cX12_quarrels 243 = .ok (.iload_n 3, 1) := by decide +kernel
theorem dX12_quarrels_244 : decode cX12_quarrels 244 = .ok (.aload_n 0, 1) := by decide +kernel
theorem dX12_quarrels_245 : decode cX12_quarrels 245 = .ok (.getfield 122, 3) := by decide +kernel
theorem dX12_quarrels_248 : decode cX12_quarrels 248 = .ok (.if_icmp .ge 27, 3) := by decide +kernel
theorem dX12_quarrels_251 : decode cX12_quarrels 251 = .ok (.aload_n 0, 1) := by decide +kernel
theorem dX12_quarrels_252 : decode cX12_quarrels 252 = .ok (.getfield 69, 3) := by decide +kernel
theorem dX12_quarrels_255 : decode cX12_quarrels 255 = .ok (.bipush 16, 2) := by decide +kernel
theorem dX12_quarrels_257 : decode cX12_quarrels 257 = .ok (.iload_n 3, 1) := by decide +kernel
theorem dX12_quarrels_258 : decode cX12_quarrels 258 = .ok (.imul, 1) := by decide +kernel
theorem dX12_quarrels_259 : decode cX12_quarrels 259 = .ok (.iload_n 3, 1) := by decide +kernel
theorem dX12_quarrels_260 : decode cX12_quarrels 260 = .ok (.iadd, 1) := by decide +kernel
theorem dX12_quarrels_261 : decode cX12_quarrels 261 = .ok (.laload, 1) := by decide +kernel
theorem dX12_quarrels_262 : decode cX12_quarrels 262 = .ok (.lconst 0, 1) := by decide +kernel
theorem dX12_quarrels_263 : decode cX12_quarrels 263 = .ok (.lcmp, 1) := by decide +kernel
theorem dX12_quarrels_264 : decode cX12_quarrels 264 = .ok (.ifCond .ge 5, 3) := by decide +kernel
theorem dX12_quarrels_267 : decode cX12_quarrels 267 = .ok (.iconst 1, 1) := by decide +kernel
theorem dX12_quarrels_268 : decode cX12_quarrels 268 = .ok (.ireturn, 1) := by decide +kernel
theorem dX12_quarrels_269 : decode cX12_quarrels 269 = .ok (.iinc 3 1, 3) := by decide +kernel
theorem dX12_quarrels_272 : decode cX12_quarrels 272 = .ok (.goto (-29), 3) := by decide +kernel
theorem dX12_quarrels_275 : decode cX12_quarrels 275 = .ok (.iinc 2 1, 3) := by decide +kernel
theorem dX12_quarrels_278 : decode cX12_quarrels 278 = .ok (.goto (-150), 3) := by decide +kernel
theorem dX12_quarrels_281 : decode cX12_quarrels 281 = .ok (.iconst 0, 1) := by decide +kernel
theorem dX12_quarrels_282 : decode cX12_quarrels 282 = .ok (.ireturn, 1) := by decide +kernel
theorem dX12_worth_0 : decode cX12_worth 0 = .ok (.aload_n 0, 1) := by decide +kernel
theorem dX12_worth_1 : decode cX12_worth 1 = .ok (.iload_n 1, 1) := by decide +kernel
theorem dX12_worth_2 : decode cX12_worth 2 = .ok (.invokevirtual 139, 3) := by decide +kernel
theorem dX12_worth_5 : decode cX12_worth 5 = .ok (.ifCond .eq 44, 3) := by decide +kernel
theorem dX12_worth_8 : decode cX12_worth 8 = .ok (.aload_n 0, 1) := by decide +kernel
theorem dX12_worth_9 : decode cX12_worth 9 = .ok (.iload_n 2, 1) := by decide +kernel
theorem dX12_worth_10 : decode cX12_worth 10 = .ok (.invokevirtual 139, 3) := by decide +kernel
theorem dX12_worth_13 : decode cX12_worth 13 = .ok (.ifCond .eq 36, 3) := by decide +kernel
theorem dX12_worth_16 : decode cX12_worth 16 = .ok (.iload_n 1, 1) := by decide +kernel
theorem dX12_worth_17 : decode cX12_worth 17 = .ok (.iload_n 2, 1) := by decide +kernel
theorem dX12_worth_18 : decode cX12_worth 18 = .ok (.if_icmp .eq 31, 3) := by decide +kernel
theorem dX12_worth_21 : decode cX12_worth 21 = .ok (.iload_n 3, 1) := by decide +kernel
theorem dX12_worth_22 : decode cX12_worth 22 = .ok (.i2l, 1) := by decide +kernel
theorem dX12_worth_23 : decode cX12_worth 23 = .ok (.lconst 0, 1) := by decide +kernel
theorem dX12_worth_24 : decode cX12_worth 24 = .ok (.lconst 1, 1) := by decide +kernel
theorem dX12_worth_25 : decode cX12_worth 25 = .ok (.aload_n 0, 1) := by decide +kernel
theorem dX12_worth_26 : decode cX12_worth 26 = .ok (.getfield 396, 3) := by decide +kernel
theorem dX12_worth_29 : decode cX12_worth 29 = .ok (.lshl, 1) := by decide +kernel
theorem dX12_worth_30 : decode cX12_worth 30 = .ok (.lconst 1, 1) := by decide +kernel
theorem dX12_worth_31 : decode cX12_worth 31 = .ok (.lsub, 1) := by decide +kernel
theorem dX12_worth_32 : decode cX12_worth 32 = .ok (.invokestatic 125, 3) := by decide +kernel
theorem dX12_worth_35 : decode cX12_worth 35 = .ok (.ifCond .eq 14, 3) := by decide +kernel
theorem dX12_worth_38 : decode cX12_worth 38 = .ok (.iload 4, 2) := by decide +kernel
theorem dX12_worth_40 : decode cX12_worth 40 = .ok (.i2l, 1) := by decide +kernel
theorem dX12_worth_41 : decode cX12_worth 41 = .ok (.lconst 0, 1) := by decide +kernel
theorem dX12_worth_42 : decode cX12_worth 42 = .ok (.lconst 1, 1) := by decide +kernel
theorem dX12_worth_43 : decode cX12_worth 43 = .ok (.invokestatic 125, 3) := by decide +kernel
theorem dX12_worth_46 : decode cX12_worth 46 = .ok (.ifCond .ne 7, 3) := by decide +kernel
theorem dX12_worth_49 : decode cX12_worth 49 = .ok (.ldc2_w 374, 3) := by decide +kernel
theorem dX12_worth_52 : decode cX12_worth 52 = .ok (.lreturn, 1) := by decide +kernel
theorem dX12_worth_53 : decode cX12_worth 53 = .ok (.aload_n 0, 1) := by decide +kernel
theorem dX12_worth_54 : decode cX12_worth 54 = .ok (.iload_n 3, 1) := by decide +kernel
theorem dX12_worth_55 : decode cX12_worth 55 = .ok (.invokevirtual 405, 3) := by decide +kernel
theorem dX12_worth_58 : decode cX12_worth 58 = .ok (.ifCond .eq 7, 3) := by decide +kernel
theorem dX12_worth_61 : decode cX12_worth 61 = .ok (.ldc2_w 408, 3) := by decide +kernel
theorem dX12_worth_64 : decode cX12_worth 64 = .ok (.lreturn, 1) := by decide +kernel
theorem dX12_worth_65 : decode cX12_worth 65 = .ok (.iload 4, 2) := by decide +kernel
theorem dX12_worth_67 : decode cX12_worth 67 = .ok (.iconst 1, 1) := by decide +kernel
theorem dX12_worth_68 : decode cX12_worth 68 = .ok (.if_icmp .ne 17, 3) := by decide +kernel
theorem dX12_worth_71 : decode cX12_worth 71 = .ok (.aload_n 0, 1) := by decide +kernel
theorem dX12_worth_72 : decode cX12_worth 72 = .ok (.getfield 69, 3) := by decide +kernel
theorem dX12_worth_75 : decode cX12_worth 75 = .ok (.bipush 16, 2) := by decide +kernel
theorem dX12_worth_77 : decode cX12_worth 77 = .ok (.iload_n 1, 1) := by decide +kernel
theorem dX12_worth_78 : decode cX12_worth 78 = .ok (.imul, 1) := by decide +kernel
theorem dX12_worth_79 : decode cX12_worth 79 = .ok (.iload_n 2, 1) := by decide +kernel
theorem dX12_worth_80 : decode cX12_worth 80 = .ok (.iadd, 1) := by decide +kernel
theorem dX12_worth_81 : decode cX12_worth 81 = .ok (.laload, 1) := by decide +kernel
theorem dX12_worth_82 : decode cX12_worth 82 = .ok (.goto 15, 3) := by decide +kernel
theorem dX12_worth_85 : decode cX12_worth 85 = .ok (.aload_n 0, 1) := by decide +kernel
theorem dX12_worth_86 : decode cX12_worth 86 = .ok (.getfield 69, 3) := by decide +kernel
theorem dX12_worth_89 : decode cX12_worth 89 = .ok (.bipush 16, 2) := by decide +kernel
theorem dX12_worth_91 : decode cX12_worth 91 = .ok (.iload_n 2, 1) := by decide +kernel
theorem dX12_worth_92 : decode cX12_worth 92 = .ok (.imul, 1) := by decide +kernel
theorem dX12_worth_93 : decode cX12_worth 93 = .ok (.iload_n 1, 1) := by decide +kernel
theorem dX12_worth_94 : decode cX12_worth 94 = .ok (.iadd, 1) := by decide +kernel
theorem dX12_worth_95 : decode cX12_worth 95 = .ok (.laload, 1) := by decide +kernel
theorem dX12_worth_96 : decode cX12_worth 96 = .ok (.lneg, 1) := by decide +kernel
theorem dX12_worth_97 : decode cX12_worth 97 = .ok (.lreturn, 1) := by decide +kernel
theorem dX12_go_0 : decode cX12_go 0 = .ok (.iload_n 1, 1) := by decide +kernel
theorem dX12_go_1 : decode cX12_go 1 = .ok (.i2l, 1) := by decide +kernel
theorem dX12_go_2 : decode cX12_go 2 = .ok (.lconst 0, 1) := by decide +kernel
theorem dX12_go_3 : decode cX12_go 3 = .ok (.iconst 1, 1) := by decide +kernel
theorem dX12_go_4 : decode cX12_go 4 = .ok (.aload_n 0, 1) := by decide +kernel
theorem dX12_go_5 : decode cX12_go 5 = .ok (.getfield 396, 3) := by decide +kernel
theorem dX12_go_8 : decode cX12_go 8 = .ok (.bipush 12, 2) := by decide +kernel
theorem dX12_go_10 : decode cX12_go 10 = .ok (.if_icmp .ge 10, 3) := by decide +kernel
theorem dX12_go_13 : decode cX12_go 13 = .ok (.aload_n 0, 1) := by decide +kernel
theorem dX12_go_14 : decode cX12_go 14 = .ok (.getfield 396, 3) := by decide +kernel
theorem dX12_go_17 : decode cX12_go 17 = .ok (.goto 5, 3) := by decide +kernel
theorem dX12_go_20 : decode cX12_go 20 = .ok (.bipush 12, 2) := by decide +kernel
theorem dX12_go_22 : decode cX12_go 22 = .ok (.ishl, 1) := by decide +kernel
theorem dX12_go_23 : decode cX12_go 23 = .ok (.iconst 1, 1) := by decide +kernel
theorem dX12_go_24 : decode cX12_go 24 = .ok (.isub, 1) := by decide +kernel
theorem dX12_go_25 : decode cX12_go 25 = .ok (.i2l, 1) := by decide +kernel
theorem dX12_go_26 : decode cX12_go 26 = .ok (.invokestatic 125, 3) := by decide +kernel
theorem dX12_go_29 : decode cX12_go 29 = .ok (.ifCond .ne 6, 3) := by decide +kernel
theorem dX12_go_32 : decode cX12_go 32 = .ok (.bipush (-2), 2) := by decide +kernel
theorem dX12_go_34 : decode cX12_go 34 = .ok (.ireturn, 1) := by decide +kernel
theorem dX12_go_35 : decode cX12_go 35 = .ok (.iconst (-1), 1) := by decide +kernel
theorem dX12_go_36 : decode cX12_go 36 = .ok (.istore_n 2, 1) := by decide +kernel
theorem dX12_go_37 : decode cX12_go 37 = .ok (.iconst 0, 1) := by decide +kernel
theorem dX12_go_38 : decode cX12_go 38 = .ok (.istore_n 3, 1) := by decide +kernel
theorem dX12_go_39 : decode cX12_go 39 = .ok (.iconst 1, 1) := by decide +kernel
theorem dX12_go_40 : decode cX12_go 40 = .ok (.istore 4, 2) := by decide +kernel
theorem dX12_go_42 : decode cX12_go 42 = .ok (.iload 4, 2) := by decide +kernel
theorem dX12_go_44 : decode cX12_go 44 = .ok (.ifCond .eq 54, 3) := by decide +kernel
theorem dX12_go_47 : decode cX12_go 47 = .ok (.iload_n 2, 1) := by decide +kernel
theorem dX12_go_48 : decode cX12_go 48 = .ok (.iconst (-1), 1) := by decide +kernel
theorem dX12_go_49 : decode cX12_go 49 = .ok (.if_icmp .eq 14, 3) := by decide +kernel
theorem dX12_go_52 : decode cX12_go 52 = .ok (.iload_n 3, 1) := by decide +kernel
theorem dX12_go_53 : decode cX12_go 53 = .ok (.invokestatic 391, 3) := by decide +kernel
theorem dX12_go_56 : decode cX12_go 56 = .ok (.iload_n 2, 1) := by decide +kernel
theorem dX12_go_57 : decode cX12_go 57 = .ok (.invokestatic 391, 3) := by decide +kernel
theorem dX12_go_60 : decode cX12_go 60 = .ok (.if_icmp .ge 17, 3) := by decide +kernel
theorem dX12_go_63 : decode cX12_go 63 = .ok (.aload_n 0, 1) := by decide +kernel
theorem dX12_go_64 : decode cX12_go 64 = .ok (.iload_n 1, 1) := by decide +kernel
theorem dX12_go_65 : decode cX12_go 65 = .ok (.iload_n 3, 1) := by decide +kernel
theorem dX12_go_66 : decode cX12_go 66 = .ok (.iconst (-1), 1) := by decide +kernel
theorem dX12_go_67 : decode cX12_go 67 = .ok (.ixor, 1) := by decide +kernel
theorem dX12_go_68 : decode cX12_go 68 = .ok (.iand, 1) := by decide +kernel
theorem dX12_go_69 : decode cX12_go 69 = .ok (.invokevirtual 405, 3) := by decide +kernel
theorem dX12_go_72 : decode cX12_go 72 = .ok (.ifCond .ne 5, 3) := by decide +kernel
theorem dX12_go_75 : decode cX12_go 75 = .ok (.iload_n 3, 1) := by decide +kernel
theorem dX12_go_76 : decode cX12_go 76 = .ok (.istore_n 2, 1) := by decide +kernel
theorem dX12_go_77 : decode cX12_go 77 = .ok (.iload_n 3, 1) := by decide +kernel
theorem dX12_go_78 : decode cX12_go 78 = .ok (.iload_n 1, 1) := by decide +kernel
theorem dX12_go_79 : decode cX12_go 79 = .ok (.if_icmp .eq 7, 3) := by decide +kernel
theorem dX12_go_82 : decode cX12_go 82 = .ok (.iconst 1, 1) := by decide +kernel
theorem dX12_go_83 : decode cX12_go 83 = .ok (.goto 4, 3) := by decide +kernel
theorem dX12_go_86 : decode cX12_go 86 = .ok (.iconst 0, 1) := by decide +kernel
theorem dX12_go_87 : decode cX12_go 87 = .ok (.istore 4, 2) := by decide +kernel
theorem dX12_go_89 : decode cX12_go 89 = .ok (.iload_n 3, 1) := by decide +kernel
theorem dX12_go_90 : decode cX12_go 90 = .ok (.iload_n 1, 1) := by decide +kernel
theorem dX12_go_91 : decode cX12_go 91 = .ok (.isub, 1) := by decide +kernel
theorem dX12_go_92 : decode cX12_go 92 = .ok (.iload_n 1, 1) := by decide +kernel
theorem dX12_go_93 : decode cX12_go 93 = .ok (.iand, 1) := by decide +kernel
theorem dX12_go_94 : decode cX12_go 94 = .ok (.istore_n 3, 1) := by decide +kernel
theorem dX12_go_95 : decode cX12_go 95 = .ok (.goto (-53), 3) := by decide +kernel
theorem dX12_go_98 : decode cX12_go 98 = .ok (.iload_n 2, 1) := by decide +kernel
theorem dX12_go_99 : decode cX12_go 99 = .ok (.ireturn, 1) := by decide +kernel
theorem dX12_isSheet_0 : decode cX12_isSheet 0 = .ok (.iload_n 0, 1) := by decide +kernel
theorem dX12_isSheet_1 : decode cX12_isSheet 1 = .ok (.i2l, 1) := by decide +kernel
theorem dX12_isSheet_2 : decode cX12_isSheet 2 = .ok (.lconst 0, 1) := by decide +kernel
theorem dX12_isSheet_3 : decode cX12_isSheet 3 = .ok (.ldc2_w 445, 3) := by decide +kernel
theorem dX12_isSheet_6 : decode cX12_isSheet 6 = .ok (.invokestatic 125, 3) := by decide +kernel
theorem dX12_isSheet_9 : decode cX12_isSheet 9 = .ok (.ireturn, 1) := by decide +kernel
theorem dX12_race_0 : decode cX12_race 0 = .ok (.iload_n 1, 1) := by decide +kernel
theorem dX12_race_1 : decode cX12_race 1 = .ok (.invokestatic 410, 3) := by decide +kernel
theorem dX12_race_4 : decode cX12_race 4 = .ok (.ifCond .ne 6, 3) := by decide +kernel
theorem dX12_race_7 : decode cX12_race 7 = .ok (.bipush (-2), 2) := by decide +kernel
theorem dX12_race_9 : decode cX12_race 9 = .ok (.ireturn, 1) := by decide +kernel
theorem dX12_race_10 : decode cX12_race 10 = .ok (.aload_n 0, 1) := by decide +kernel
theorem dX12_race_11 : decode cX12_race 11 = .ok (.getfield 87, 3) := by decide +kernel
theorem dX12_race_14 : decode cX12_race 14 = .ok (.iload_n 1, 1) := by decide +kernel
theorem dX12_race_15 : decode cX12_race 15 = .ok (.baload, 1) := by decide +kernel
theorem dX12_race_16 : decode cX12_race 16 = .ok (.ifCond .ne 6, 3) := by decide +kernel
theorem dX12_race_19 : decode cX12_race 19 = .ok (.bipush (-11), 2) := by decide +kernel
theorem dX12_race_21 : decode cX12_race 21 = .ok (.ireturn, 1) := by decide +kernel
theorem dX12_race_22 : decode cX12_race 22 = .ok (.aload_n 0, 1) := by decide +kernel
theorem dX12_race_23 : decode cX12_race 23 = .ok (.getfield 94, 3) := by decide +kernel
theorem dX12_race_26 : decode cX12_race 26 = .ok (.iload_n 1, 1) := by decide +kernel
theorem dX12_race_27 : decode cX12_race 27 = .ok (.iaload, 1) := by decide +kernel
theorem dX12_race_28 : decode cX12_race 28 = .ok (.bipush 6, 2) := by decide +kernel
theorem dX12_race_30 : decode cX12_race 30 = .ok (.if_icmp .eq 6, 3) := by decide +kernel
theorem dX12_race_33 : decode cX12_race 33 = .ok (.bipush (-2), 2) := by decide +kernel
theorem dX12_race_35 : decode cX12_race 35 = .ok (.ireturn, 1) := by decide +kernel
theorem dX12_race_36 : decode cX12_race 36 = .ok (.iconst 0, 1) := by decide +kernel
theorem dX12_race_37 : decode cX12_race 37 = .ok (.istore_n 2, 1) := by decide +kernel
theorem dX12_race_38 : decode cX12_race 38 = .ok (.iload_n 2, 1) := by decide +kernel
theorem dX12_race_39 : decode cX12_race 39 = .ok (.bipush 6, 2) := by decide +kernel
theorem dX12_race_41 : decode cX12_race 41 = .ok (.if_icmp .ge 34, 3) := by decide +kernel
theorem dX12_race_44 : decode cX12_race 44 = .ok (.aload_n 0, 1) := by decide +kernel
theorem dX12_race_45 : decode cX12_race 45 = .ok (.getfield 97, 3) := by decide +kernel
theorem dX12_race_48 : decode cX12_race 48 = .ok (.bipush 40, 2) := by decide +kernel
theorem dX12_race_50 : decode cX12_race 50 = .ok (.iload_n 1, 1) := by decide +kernel
theorem dX12_race_51 : decode cX12_race 51 = .ok (.imul, 1) := by decide +kernel
theorem dX12_race_52 : decode cX12_race 52 = .ok (.iload_n 2, 1) := by decide +kernel
theorem dX12_race_53 : decode cX12_race 53 = .ok (.iadd, 1) := by decide +kernel
theorem dX12_race_54 : decode cX12_race 54 = .ok (.iaload, 1) := by decide +kernel
theorem dX12_race_55 : decode cX12_race 55 = .ok (.i2l, 1) := by decide +kernel
theorem dX12_race_56 : decode cX12_race 56 = .ok (.lconst 0, 1) := by decide +kernel
theorem dX12_race_57 : decode cX12_race 57 = .ok (.ldc2_w 137, 3) := by decide +kernel
theorem dX12_race_60 : decode cX12_race 60 = .ok (.invokestatic 125, 3) := by decide +kernel
theorem dX12_race_63 : decode cX12_race 63 = .ok (.ifCond .ne 6, 3) := by decide +kernel
theorem dX12_race_66 : decode cX12_race 66 = .ok (.bipush (-2), 2) := by decide +kernel
theorem dX12_race_68 : decode cX12_race 68 = .ok (.ireturn, 1) := by decide +kernel
theorem dX12_race_69 : decode cX12_race 69 = .ok (.iinc 2 1, 3) := by decide +kernel
theorem dX12_race_72 : decode cX12_race 72 = .ok (.goto (-34), 3) := by decide +kernel
theorem dX12_race_75 : decode cX12_race 75 = .ok (.aload_n 0, 1) := by decide +kernel
theorem dX12_race_76 : decode cX12_race 76 = .ok (.getfield 413, 3) := by decide +kernel
theorem dX12_race_79 : decode cX12_race 79 = .ok (.bipush 20, 2) := by decide +kernel
theorem dX12_race_81 : decode cX12_race 81 = .ok (.if_icmp .ne 6, 3) := by decide +kernel
theorem dX12_race_84 : decode cX12_race 84 = .ok (.bipush (-4), 2) := by decide +kernel
theorem dX12_race_86 : decode cX12_race 86 = .ok (.ireturn, 1) := by decide +kernel
theorem dX12_race_87 : decode cX12_race 87 = .ok (.iconst 0, 1) := by decide +kernel
theorem dX12_race_88 : decode cX12_race 88 = .ok (.istore_n 2, 1) := by decide +kernel
theorem dX12_race_89 : decode cX12_race 89 = .ok (.iload_n 2, 1) := by decide +kernel
theorem dX12_race_90 : decode cX12_race 90 = .ok (.bipush 6, 2) := by decide +kernel
theorem dX12_race_92 : decode cX12_race 92 = .ok (.if_icmp .ge 34, 3) := by decide +kernel
theorem dX12_race_95 : decode cX12_race 95 = .ok (.aload_n 0, 1) := by decide +kernel
theorem dX12_race_96 : decode cX12_race 96 = .ok (.getfield 72, 3) := by decide +kernel
theorem dX12_race_99 : decode cX12_race 99 = .ok (.bipush 6, 2) := by decide +kernel
theorem dX12_race_101 : decode cX12_race 101 = .ok (.aload_n 0, 1) := by decide +kernel
theorem dX12_race_102 : decode cX12_race 102 = .ok (.getfield 413, 3) := by decide +kernel
theorem dX12_race_105 : decode cX12_race 105 = .ok (.imul, 1) := by decide +kernel
theorem dX12_race_106 : decode cX12_race 106 = .ok (.iload_n 2, 1) := by decide +kernel
theorem dX12_race_107 : decode cX12_race 107 = .ok (.iadd, 1) := by decide +kernel
theorem dX12_race_108 : decode cX12_race 108 = .ok (.aload_n 0, 1) := by decide +kernel
theorem dX12_race_109 : decode cX12_race 109 = .ok (.getfield 97, 3) := by decide +kernel
theorem dX12_race_112 : decode cX12_race 112 = .ok (.bipush 40, 2) := by decide +kernel
theorem dX12_race_114 : decode cX12_race 114 = .ok (.iload_n 1, 1) := by decide +kernel
theorem dX12_race_115 : decode cX12_race 115 = .ok (.imul, 1) := by decide +kernel
theorem dX12_race_116 : decode cX12_race 116 = .ok (.iload_n 2, 1) := by decide +kernel
theorem dX12_race_117 : decode cX12_race 117 = .ok (.iadd, 1) := by decide +kernel
theorem dX12_race_118 : decode cX12_race 118 = .ok (.iaload, 1) := by decide +kernel
theorem dX12_race_119 : decode cX12_race 119 = .ok (.iastore, 1) := by decide +kernel
theorem dX12_race_120 : decode cX12_race 120 = .ok (.iinc 2 1, 3) := by decide +kernel
theorem dX12_race_123 : decode cX12_race 123 = .ok (.goto (-34), 3) := by decide +kernel
theorem dX12_race_126 : decode cX12_race 126 = .ok (.aload_n 0, 1) := by decide +kernel
theorem dX12_race_127 : decode cX12_race 127 = .ok (.dup, 1) := by decide +kernel
theorem dX12_race_128 : decode cX12_race 128 = .ok (.getfield 413, 3) := by decide +kernel
theorem dX12_race_131 : decode cX12_race 131 = .ok (.iconst 1, 1) := by decide +kernel
theorem dX12_race_132 : decode cX12_race 132 = .ok (.iadd, 1) := by decide +kernel
theorem dX12_race_133 : decode cX12_race 133 = .ok (.putfield 413, 3) := by decide +kernel
theorem dX12_race_136 : decode cX12_race 136 = .ok (.aload_n 0, 1) := by decide +kernel
theorem dX12_race_137 : decode cX12_race 137 = .ok (.getfield 413, 3) := by decide +kernel
theorem dX12_race_140 : decode cX12_race 140 = .ok (.iconst 1, 1) := by decide +kernel
theorem dX12_race_141 : decode cX12_race 141 = .ok (.isub, 1) := by decide +kernel
theorem dX12_race_142 : decode cX12_race 142 = .ok (.ireturn, 1) := by decide +kernel
theorem dX12_isLane_0 : decode cX12_isLane 0 = .ok (.iload_n 0, 1) := by decide +kernel
theorem dX12_isLane_1 : decode cX12_isLane 1 = .ok (.i2l, 1) := by decide +kernel
theorem dX12_isLane_2 : decode cX12_isLane 2 = .ok (.lconst 0, 1) := by decide +kernel
theorem dX12_isLane_3 : decode cX12_isLane 3 = .ok (.ldc2_w 159, 3) := by decide +kernel
theorem dX12_isLane_6 : decode cX12_isLane 6 = .ok (.invokestatic 125, 3) := by decide +kernel
theorem dX12_isLane_9 : decode cX12_isLane 9 = .ok (.ireturn, 1) := by decide +kernel
theorem dX12_common_0 : decode cX12_common 0 = .ok (.lload_n 0, 1) := by decide +kernel
theorem dX12_common_1 : decode cX12_common 1 = .ok (.lconst 0, 1) := by decide +kernel
theorem dX12_common_2 : decode cX12_common 2 = .ok (.lcmp, 1) := by decide +kernel
theorem dX12_common_3 : decode cX12_common 3 = .ok (.ifCond .ge 8, 3) := by decide +kernel
theorem dX12_common_6 : decode cX12_common 6 = .ok (.lload_n 0, 1) := by decide +kernel
theorem dX12_common_7 : decode cX12_common 7 = .ok (.lneg, 1) := by decide +kernel
theorem dX12_common_8 : decode cX12_common 8 = .ok (.goto 4, 3) := by decide +kernel
theorem dX12_common_11 : decode cX12_common 11 = .ok (.lload_n 0, 1) := by decide +kernel
theorem dX12_common_12 : decode cX12_common 12 = .ok (.lstore 4, 2) := by decide +kernel
theorem dX12_common_14 : decode cX12_common 14 = .ok (.lload_n 2, 1) := by decide +kernel
theorem dX12_common_15 : decode cX12_common 15 = .ok (.lstore 6, 2) := by decide +kernel
theorem dX12_common_17 : decode cX12_common 17 = .ok (.lload 6, 2) := by decide +kernel
theorem dX12_common_19 : decode cX12_common 19 = .ok (.lconst 0, 1) := by decide +kernel
theorem dX12_common_20 : decode cX12_common 20 = .ok (.lcmp, 1) := by decide +kernel
theorem dX12_common_21 : decode cX12_common 21 = .ok (.ifCond .eq 21, 3) := by decide +kernel
theorem dX12_common_24 : decode cX12_common 24 = .ok (.lload 4, 2) := by decide +kernel
theorem dX12_common_26 : decode cX12_common 26 = .ok (.lload 6, 2) := by decide +kernel
theorem dX12_common_28 : decode cX12_common 28 = .ok (.lrem, 1) := by decide +kernel
theorem dX12_common_29 : decode cX12_common 29 = .ok (.lstore 8, 2) := by decide +kernel
theorem dX12_common_31 : decode cX12_common 31 = .ok (.lload 6, 2) := by decide +kernel
theorem dX12_common_33 : decode cX12_common 33 = .ok (.lstore 4, 2) := by decide +kernel
theorem dX12_common_35 : decode cX12_common 35 = .ok (.lload 8, 2) := by decide +kernel
theorem dX12_common_37 : decode cX12_common 37 = .ok (.lstore 6, 2) := by decide +kernel
theorem dX12_common_39 : decode cX12_common 39 = .ok (.goto (-22), 3) := by decide +kernel
theorem dX12_common_42 : decode cX12_common 42 = .ok (.lload 4, 2) := by decide +kernel
theorem dX12_common_44 : decode cX12_common 44 = .ok (.lreturn, 1) := by decide +kernel
theorem dX12_lanes_0 : decode cX12_lanes 0 = .ok (.iload_n 1, 1) := by decide +kernel
theorem dX12_lanes_1 : decode cX12_lanes 1 = .ok (.invokestatic 416, 3) := by decide +kernel
theorem dX12_lanes_4 : decode cX12_lanes 4 = .ok (.ifCond .eq 25, 3) := by decide +kernel
theorem dX12_lanes_7 : decode cX12_lanes 7 = .ok (.iload_n 2, 1) := by decide +kernel
theorem dX12_lanes_8 : decode cX12_lanes 8 = .ok (.invokestatic 416, 3) := by decide +kernel
theorem dX12_lanes_11 : decode cX12_lanes 11 = .ok (.ifCond .eq 18, 3) := by decide +kernel
theorem dX12_lanes_14 : decode cX12_lanes 14 = .ok (.iload_n 1, 1) := by decide +kernel
theorem dX12_lanes_15 : decode cX12_lanes 15 = .ok (.iload_n 2, 1) := by decide +kernel
theorem dX12_lanes_16 : decode cX12_lanes 16 = .ok (.if_icmp .eq 13, 3) := by decide +kernel
theorem dX12_lanes_19 : decode cX12_lanes 19 = .ok (.iload_n 3, 1) := by decide +kernel
theorem dX12_lanes_20 : decode cX12_lanes 20 = .ok (.i2l, 1) := by decide +kernel
theorem dX12_lanes_21 : decode cX12_lanes 21 = .ok (.lconst 0, 1) := by decide +kernel
theorem dX12_lanes_22 : decode cX12_lanes 22 = .ok (.lconst 1, 1) := by decide +kernel
theorem dX12_lanes_23 : decode cX12_lanes 23 = .ok (.invokestatic 125, 3) := by decide +kernel
theorem dX12_lanes_26 : decode cX12_lanes 26 = .ok (.ifCond .ne 7, 3) := by decide +kernel
theorem dX12_lanes_29 : decode cX12_lanes 29 = .ok (.ldc2_w 374, 3) := by decide +kernel
theorem dX12_lanes_32 : decode cX12_lanes 32 = .ok (.lreturn, 1) := by decide +kernel
theorem dX12_lanes_33 : decode cX12_lanes 33 = .ok (.lconst 0, 1) := by decide +kernel
theorem dX12_lanes_34 : decode cX12_lanes 34 = .ok (.lstore 4, 2) := by decide +kernel
theorem dX12_lanes_36 : decode cX12_lanes 36 = .ok (.lconst 0, 1) := by decide +kernel
theorem dX12_lanes_37 : decode cX12_lanes 37 = .ok (.lstore 6, 2) := by decide +kernel
theorem dX12_lanes_39 : decode cX12_lanes 39 = .ok (.iconst 0, 1) := by decide +kernel
theorem dX12_lanes_40 : decode cX12_lanes 40 = .ok (.istore 8, 2) := by decide +kernel
theorem dX12_lanes_42 : decode cX12_lanes 42 = .ok (.iload 8, 2) := by decide +kernel
theorem dX12_lanes_44 : decode cX12_lanes 44 = .ok (.aload_n 0, 1) := by decide +kernel
theorem dX12_lanes_45 : decode cX12_lanes 45 = .ok (.getfield 413, 3) := by decide +kernel
theorem dX12_lanes_48 : decode cX12_lanes 48 = .ok (.if_icmp .ge 67, 3) := by decide +kernel
theorem dX12_lanes_51 : decode cX12_lanes 51 = .ok (.aload_n 0, 1) := by decide +kernel
theorem dX12_lanes_52 : decode cX12_lanes 52 = .ok (.getfield 72, 3) := by decide +kernel
theorem dX12_lanes_55 : decode cX12_lanes 55 = .ok (.bipush 6, 2) := by decide +kernel
theorem dX12_lanes_57 : decode cX12_lanes 57 = .ok (.iload 8, 2) := by decide +kernel
theorem dX12_lanes_59 : decode cX12_lanes 59 = .ok (.imul, 1) := by decide +kernel
theorem dX12_lanes_60 : decode cX12_lanes 60 = .ok (.iload_n 1, 1) := by decide +kernel
theorem dX12_lanes_61 : decode cX12_lanes 61 = .ok (.iadd, 1) := by decide +kernel
theorem dX12_lanes_62 : decode cX12_lanes 62 = .ok (.iaload, 1) := by decide +kernel
theorem dX12_lanes_63 : decode cX12_lanes 63 = .ok (.istore 9, 2) := by decide +kernel
theorem dX12_lanes_65 : decode cX12_lanes 65 = .ok (.aload_n 0, 1) := by decide +kernel
theorem dX12_lanes_66 : decode cX12_lanes 66 = .ok (.getfield 72, 3) := by decide +kernel
theorem dX12_lanes_69 : decode cX12_lanes 69 = .ok (.bipush 6, 2) := by decide +kernel
theorem dX12_lanes_71 : decode cX12_lanes 71 = .ok (.iload 8, 2) := by decide +kernel
theorem dX12_lanes_73 : decode cX12_lanes 73 = .ok (.imul, 1) := by decide +kernel
theorem dX12_lanes_74 : decode cX12_lanes 74 = .ok (.iload_n 2, 1) := by decide +kernel
theorem dX12_lanes_75 : decode cX12_lanes 75 = .ok (.iadd, 1) := by decide +kernel
theorem dX12_lanes_76 : decode cX12_lanes 76 = .ok (.iaload, 1) := by decide +kernel
theorem dX12_lanes_77 : decode cX12_lanes 77 = .ok (.istore 10, 2) := by decide +kernel
theorem dX12_lanes_79 : decode cX12_lanes 79 = .ok (.iload 9, 2) := by decide +kernel
theorem dX12_lanes_81 : decode cX12_lanes 81 = .ok (.ifCond .eq 28, 3) := by decide +kernel
theorem dX12_lanes_84 : decode cX12_lanes 84 = .ok (.iload 10, 2) := by decide +kernel
theorem dX12_lanes_86 : decode cX12_lanes 86 = .ok (.ifCond .ne 6, 3) := by decide +kernel
theorem dX12_lanes_89 : decode cX12_lanes 89 = .ok (.goto 20, 3) := by decide +kernel
theorem dX12_lanes_92 : decode cX12_lanes 92 = .ok (.lload 4, 2) := by decide +kernel
theorem dX12_lanes_94 : decode cX12_lanes 94 = .ok (.iload 9, 2) := by decide +kernel
theorem dX12_lanes_96 : decode cX12_lanes 96 = .ok (.iload 10, 2) := by decide +kernel
theorem dX12_lanes_98 : decode cX12_lanes 98 = .ok (.isub, 1) := by decide +kernel
theorem dX12_lanes_99 : decode cX12_lanes 99 = .ok (.i2l, 1) := by decide +kernel
theorem dX12_lanes_100 : decode cX12_lanes 100 = .ok (.ladd, 1) := by decide +kernel
theorem dX12_lanes_101 : decode cX12_lanes 101 = .ok (.lstore 4, 2) := by decide +kernel
theorem dX12_lanes_103 : decode cX12_lanes 103 = .ok (.lload 6, 2) := by decide +kernel
theorem dX12_lanes_105 : decode cX12_lanes 105 = .ok (.lconst 1, 1) := by decide +kernel
theorem dX12_lanes_106 : decode cX12_lanes 106 = .ok (.ladd, 1) := by decide +kernel
theorem dX12_lanes_107 : decode cX12_lanes 107 = .ok (.lstore 6, 2) := by decide +kernel
theorem dX12_lanes_109 : decode cX12_lanes 109 = .ok (.iinc 8 1, 3) := by decide +kernel
theorem dX12_lanes_112 : decode cX12_lanes 112 = .ok (.goto (-70), 3) := by decide +kernel
theorem dX12_lanes_115 : decode cX12_lanes 115 = .ok (.lload 6, 2) := by decide +kernel
theorem dX12_lanes_117 : decode cX12_lanes 117 = .ok (.lconst 0, 1) := by decide +kernel
theorem dX12_lanes_118 : decode cX12_lanes 118 = .ok (.lcmp, 1) := by decide +kernel
theorem dX12_lanes_119 : decode cX12_lanes 119 = .ok (.ifCond .ne 6, 3) := by decide +kernel
theorem dX12_lanes_122 : decode cX12_lanes 122 = .ok (.iload_n 3, 1) := by decide +kernel
theorem dX12_lanes_123 : decode cX12_lanes 123 = .ok (.i2l, 1) := by decide +kernel
theorem dX12_lanes_124 : decode cX12_lanes 124 = .ok (.lreturn, 1) := by decide +kernel
theorem dX12_lanes_125 : decode cX12_lanes 125 = .ok (.iload_n 3, 1) := by decide +kernel
theorem dX12_lanes_126 : decode cX12_lanes 126 = .ok (.ifCond .ne 8, 3) := by decide +kernel
theorem dX12_lanes_129 : decode cX12_lanes 129 = .ok (.lload 4, 2) := by decide +kernel
theorem dX12_lanes_131 : decode cX12_lanes 131 = .ok (.goto 5, 3) := by decide +kernel
theorem dX12_lanes_134 : decode cX12_lanes 134 = .ok (.lload 6, 2) := by decide +kernel
theorem dX12_lanes_136 : decode cX12_lanes 136 = .ok (.lload 4, 2) := by decide +kernel
theorem dX12_lanes_138 : decode cX12_lanes 138 = .ok (.lload 6, 2) := by decide +kernel
theorem dX12_lanes_140 : decode cX12_lanes 140 = .ok (.invokestatic 419, 3) := by decide +kernel
theorem dX12_lanes_143 : decode cX12_lanes 143 = .ok (.ldiv, 1) := by decide +kernel
theorem dX12_lanes_144 : decode cX12_lanes 144 = .ok (.lreturn, 1) := by decide +kernel
theorem dX12_isFirst_0 : decode cX12_isFirst 0 = .ok (.iconst 1, 1) := by decide +kernel
theorem dX12_isFirst_1 : decode cX12_isFirst 1 = .ok (.istore_n 3, 1) := by decide +kernel
theorem dX12_isFirst_2 : decode cX12_isFirst 2 = .ok (.iconst 0, 1) := by decide +kernel
theorem dX12_isFirst_3 : decode cX12_isFirst 3 = .ok (.istore 4, 2) := by decide +kernel
theorem dX12_isFirst_5 : decode cX12_isFirst 5 = .ok (.iload 4, 2) := by decide +kernel
theorem dX12_isFirst_7 : decode cX12_isFirst 7 = .ok (.bipush 6, 2) := by decide +kernel
theorem dX12_isFirst_9 : decode cX12_isFirst 9 = .ok (.if_icmp .ge 60, 3) := by decide +kernel
theorem dX12_isFirst_12 : decode cX12_isFirst 12 = .ok (.iload_n 3, 1) := by decide +kernel
theorem dX12_isFirst_13 : decode cX12_isFirst 13 = .ok (.ifCond .eq 48, 3) := by decide +kernel
theorem dX12_isFirst_16 : decode cX12_isFirst 16 = .ok (.aload_n 0, 1) := by decide +kernel
theorem dX12_isFirst_17 : decode cX12_isFirst 17 = .ok (.getfield 72, 3) := by decide +kernel
theorem dX12_isFirst_20 : decode cX12_isFirst 20 = .ok (.bipush 6, 2) := by decide +kernel
theorem dX12_isFirst_22 : decode cX12_isFirst 22 = .ok (.iload_n 1, 1) := by decide +kernel
theorem dX12_isFirst_23 : decode cX12_isFirst 23 = .ok (.imul, 1) := by decide +kernel
theorem dX12_isFirst_24 : decode cX12_isFirst 24 = .ok (.iload 4, 2) := by decide +kernel
theorem dX12_isFirst_26 : decode cX12_isFirst 26 = .ok (.iadd, 1) := by decide +kernel
theorem dX12_isFirst_27 : decode cX12_isFirst 27 = .ok (.iaload, 1) := by decide +kernel
theorem dX12_isFirst_28 : decode cX12_isFirst 28 = .ok (.ifCond .eq 29, 3) := by decide +kernel
theorem dX12_isFirst_31 : decode cX12_isFirst 31 = .ok (.aload_n 0, 1) := by decide +kernel
theorem dX12_isFirst_32 : decode cX12_isFirst 32 = .ok (.getfield 72, 3) := by decide +kernel
theorem dX12_isFirst_35 : decode cX12_isFirst 35 = .ok (.bipush 6, 2) := by decide +kernel
theorem dX12_isFirst_37 : decode cX12_isFirst 37 = .ok (.iload_n 1, 1) := by decide +kernel
theorem dX12_isFirst_38 : decode cX12_isFirst 38 = .ok (.imul, 1) := by decide +kernel
theorem dX12_isFirst_39 : decode cX12_isFirst 39 = .ok (.iload 4, 2) := by decide +kernel
theorem dX12_isFirst_41 : decode cX12_isFirst 41 = .ok (.iadd, 1) := by decide +kernel
theorem dX12_isFirst_42 : decode cX12_isFirst 42 = .ok (.iaload, 1) := by decide +kernel
theorem dX12_isFirst_43 : decode cX12_isFirst 43 = .ok (.aload_n 0, 1) := by decide +kernel
theorem dX12_isFirst_44 : decode cX12_isFirst 44 = .ok (.getfield 72, 3) := by decide +kernel
theorem dX12_isFirst_47 : decode cX12_isFirst 47 = .ok (.bipush 6, 2) := by decide +kernel
theorem dX12_isFirst_49 : decode cX12_isFirst 49 = .ok (.iload_n 1, 1) := by decide +kernel
theorem dX12_isFirst_50 : decode cX12_isFirst 50 = .ok (.imul, 1) := by decide +kernel
theorem dX12_isFirst_51 : decode cX12_isFirst 51 = .ok (.iload_n 2, 1) := by decide +kernel
theorem dX12_isFirst_52 : decode cX12_isFirst 52 = .ok (.iadd, 1) := by decide +kernel
theorem dX12_isFirst_53 : decode cX12_isFirst 53 = .ok (.iaload, 1) := by decide +kernel
theorem dX12_isFirst_54 : decode cX12_isFirst 54 = .ok (.if_icmp .lt 7, 3) := by decide +kernel
theorem dX12_isFirst_57 : decode cX12_isFirst 57 = .ok (.iconst 1, 1) := by decide +kernel
theorem dX12_isFirst_58 : decode cX12_isFirst 58 = .ok (.goto 4, 3) := by decide +kernel
theorem dX12_isFirst_61 : decode cX12_isFirst 61 = .ok (.iconst 0, 1) := by decide +kernel
theorem dX12_isFirst_62 : decode cX12_isFirst 62 = .ok (.istore_n 3, 1) := by decide +kernel
theorem dX12_isFirst_63 : decode cX12_isFirst 63 = .ok (.iinc 4 1, 3) := by decide +kernel
theorem dX12_isFirst_66 : decode cX12_isFirst 66 = .ok (.goto (-61), 3) := by decide +kernel
theorem dX12_isFirst_69 : decode cX12_isFirst 69 = .ok (.iload_n 3, 1) := by decide +kernel
theorem dX12_isFirst_70 : decode cX12_isFirst 70 = .ok (.ireturn, 1) := by decide +kernel
theorem dX12_fair_0 : decode cX12_fair 0 = .ok (.iconst 0, 1) := by decide +kernel
theorem dX12_fair_1 : decode cX12_fair 1 = .ok (.istore_n 1, 1) := by decide +kernel
theorem dX12_fair_2 : decode cX12_fair 2 = .ok (.iconst 0, 1) := by decide +kernel
theorem dX12_fair_3 : decode cX12_fair 3 = .ok (.istore_n 2, 1) := by decide +kernel
theorem dX12_fair_4 : decode cX12_fair 4 = .ok (.iload_n 2, 1) := by decide +kernel
theorem dX12_fair_5 : decode cX12_fair 5 = .ok (.bipush 6, 2) := by decide +kernel
theorem dX12_fair_7 : decode cX12_fair 7 = .ok (.if_icmp .ge 97, 3) := by decide +kernel
theorem dX12_fair_10 : decode cX12_fair 10 = .ok (.iconst 0, 1) := by decide +kernel
theorem dX12_fair_11 : decode cX12_fair 11 = .ok (.istore_n 3, 1) := by decide +kernel
theorem dX12_fair_12 : decode cX12_fair 12 = .ok (.iconst 0, 1) := by decide +kernel
theorem dX12_fair_13 : decode cX12_fair 13 = .ok (.istore 4, 2) := by decide +kernel
theorem dX12_fair_15 : decode cX12_fair 15 = .ok (.iconst 0, 1) := by decide +kernel
theorem dX12_fair_16 : decode cX12_fair 16 = .ok (.istore 5, 2) := by decide +kernel
theorem dX12_fair_18 : decode cX12_fair 18 = .ok (.iload 5, 2) := by decide +kernel
theorem dX12_fair_20 : decode cX12_fair 20 = .ok (.aload_n 0, 1) := by decide +kernel
theorem dX12_fair_21 : decode cX12_fair 21 = .ok (.getfield 413, 3) := by decide +kernel
theorem dX12_fair_24 : decode cX12_fair 24 = .ok (.if_icmp .ge 50, 3) := by decide +kernel
theorem dX12_fair_27 : decode cX12_fair 27 = .ok (.aload_n 0, 1) := by decide +kernel
theorem dX12_fair_28 : decode cX12_fair 28 = .ok (.getfield 72, 3) := by decide +kernel
theorem dX12_fair_31 : decode cX12_fair 31 = .ok (.bipush 6, 2) := by decide +kernel
theorem dX12_fair_33 : decode cX12_fair 33 = .ok (.iload 5, 2) := by decide +kernel
theorem dX12_fair_35 : decode cX12_fair 35 = .ok (.imul, 1) := by decide +kernel
theorem dX12_fair_36 : decode cX12_fair 36 = .ok (.iload_n 2, 1) := by decide +kernel
theorem dX12_fair_37 : decode cX12_fair 37 = .ok (.iadd, 1) := by decide +kernel
theorem dX12_fair_38 : decode cX12_fair 38 = .ok (.iaload, 1) := by decide +kernel
theorem dX12_fair_39 : decode cX12_fair 39 = .ok (.ifCond .ne 6, 3) := by decide +kernel
theorem dX12_fair_42 : decode cX12_fair 42 = .ok (.goto 26, 3) := by decide +kernel
theorem dX12_fair_45 : decode cX12_fair 45 = .ok (.iinc 3 1, 3) := by decide +kernel
theorem dX12_fair_48 : decode cX12_fair 48 = .ok (.iload 4, 2) := by decide +kernel
theorem dX12_fair_50 : decode cX12_fair 50 = .ok (.aload_n 0, 1) := by decide +kernel
theorem dX12_fair_51 : decode cX12_fair 51 = .ok (.iload 5, 2) := by decide +kernel
theorem dX12_fair_53 : decode cX12_fair 53 = .ok (.iload_n 2, 1) := by decide +kernel
theorem dX12_fair_54 : decode cX12_fair 54 = .ok (.invokevirtual 423, 3) := by decide +kernel
theorem dX12_fair_57 : decode cX12_fair 57 = .ok (.ifCond .eq 7, 3) := by decide +kernel
theorem dX12_fair_60 : decode cX12_fair 60 = .ok (.iconst 1, 1) := by decide +kernel
theorem dX12_fair_61 : decode cX12_fair 61 = .ok (.goto 4, 3) := by decide +kernel
theorem dX12_fair_64 : decode cX12_fair 64 = .ok (.iconst 0, 1) := by decide +kernel
theorem dX12_fair_65 : decode cX12_fair 65 = .ok (.iadd, 1) := by decide +kernel
theorem dX12_fair_66 : decode cX12_fair 66 = .ok (.istore 4, 2) := by decide +kernel
theorem dX12_fair_68 : decode cX12_fair 68 = .ok (.iinc 5 1, 3) := by decide +kernel
theorem dX12_fair_71 : decode cX12_fair 71 = .ok (.goto (-53), 3) := by decide +kernel
theorem dX12_fair_74 : decode cX12_fair 74 = .ok (.iload_n 1, 1) := by decide +kernel
theorem dX12_fair_75 : decode cX12_fair 75 = .ok (.iload_n 3, 1) := by decide +kernel
theorem dX12_fair_76 : decode cX12_fair 76 = .ok (.ifCond .le 19, 3) := by decide +kernel
theorem dX12_fair_79 : decode cX12_fair 79 = .ok (.iload 4, 2) := by decide +kernel
theorem dX12_fair_81 : decode cX12_fair 81 = .ok (.iload_n 3, 1) := by decide +kernel
theorem dX12_fair_82 : decode cX12_fair 82 = .ok (.iconst 1, 1) := by decide +kernel
theorem dX12_fair_83 : decode cX12_fair 83 = .ok (.iadd, 1) := by decide +kernel
theorem dX12_fair_84 : decode cX12_fair 84 = .ok (.iconst 2, 1) := by decide +kernel
theorem dX12_fair_85 : decode cX12_fair 85 = .ok (.idiv, 1) := by decide +kernel
theorem dX12_fair_86 : decode cX12_fair 86 = .ok (.if_icmp .lt 9, 3) := by decide +kernel
theorem dX12_fair_89 : decode cX12_fair 89 = .ok (.iconst 1, 1) := by decide +kernel
theorem dX12_fair_90 : decode cX12_fair 90 = .ok (.iload_n 2, 1) := by decide +kernel
theorem dX12_fair_91 : decode cX12_fair 91 = .ok (.ishl, 1) := by decide +kernel
theorem dX12_fair_92 : decode cX12_fair 92 = .ok (.goto 4, 3) := by decide +kernel
theorem dX12_fair_95 : decode cX12_fair 95 = .ok (.iconst 0, 1) := by decide +kernel
theorem dX12_fair_96 : decode cX12_fair 96 = .ok (.ior, 1) := by decide +kernel
theorem dX12_fair_97 : decode cX12_fair 97 = .ok (.istore_n 1, 1) := by decide +kernel
theorem dX12_fair_98 : decode cX12_fair 98 = .ok (.iinc 2 1, 3) := by decide +kernel
theorem dX12_fair_101 : decode cX12_fair 101 = .ok (.goto (-97), 3) := by decide +kernel
theorem dX12_fair_104 : decode cX12_fair 104 = .ok (.iload_n 1, 1) := by decide +kernel
theorem dX12_fair_105 : decode cX12_fair 105 = .ok (.ireturn, 1) := by decide +kernel
theorem dX12_sitting_0 : decode cX12_sitting 0 = .ok (.iconst 0, 1) := by decide +kernel
theorem dX12_sitting_1 : decode cX12_sitting 1 = .ok (.istore_n 1, 1) := by decide +kernel
theorem dX12_sitting_2 : decode cX12_sitting 2 = .ok (.iconst 0, 1) := by decide +kernel
theorem dX12_sitting_3 : decode cX12_sitting 3 = .ok (.istore_n 2, 1) := by decide +kernel
theorem dX12_sitting_4 : decode cX12_sitting 4 = .ok (.iload_n 2, 1) := by decide +kernel
theorem dX12_sitting_5 : decode cX12_sitting 5 = .ok (.bipush 8, 2) := by decide +kernel
theorem dX12_sitting_7 : decode cX12_sitting 7 = .ok (.if_icmp .ge 27, 3) := by decide +kernel
theorem dX12_sitting_10 : decode cX12_sitting 10 = .ok (.iload_n 1, 1) := by decide +kernel
theorem dX12_sitting_11 : decode cX12_sitting 11 = .ok (.aload_n 0, 1) := by decide +kernel
theorem dX12_sitting_12 : decode cX12_sitting 12 = .ok (.getfield 35, 3) := by decide +kernel
theorem dX12_sitting_15 : decode cX12_sitting 15 = .ok (.iload_n 2, 1) := by decide +kernel
theorem dX12_sitting_16 : decode cX12_sitting 16 = .ok (.iaload, 1) := by decide +kernel
theorem dX12_sitting_17 : decode cX12_sitting 17 = .ok (.iconst (-1), 1) := by decide +kernel
theorem dX12_sitting_18 : decode cX12_sitting 18 = .ok (.if_icmp .ne 7, 3) := by decide +kernel
theorem dX12_sitting_21 : decode cX12_sitting 21 = .ok (.iconst 0, 1) := by decide +kernel
theorem dX12_sitting_22 : decode cX12_sitting 22 = .ok (.goto 4, 3) := by decide +kernel
theorem dX12_sitting_25 : decode cX12_sitting 25 = .ok (.iconst 1, 1) := by decide +kernel
theorem dX12_sitting_26 : decode cX12_sitting 26 = .ok (.iadd, 1) := by decide +kernel
theorem dX12_sitting_27 : decode cX12_sitting 27 = .ok (.istore_n 1, 1) := by decide +kernel
theorem dX12_sitting_28 : decode cX12_sitting 28 = .ok (.iinc 2 1, 3) := by decide +kernel
theorem dX12_sitting_31 : decode cX12_sitting 31 = .ok (.goto (-27), 3) := by decide +kernel
theorem dX12_sitting_34 : decode cX12_sitting 34 = .ok (.iload_n 1, 1) := by decide +kernel
theorem dX12_sitting_35 : decode cX12_sitting 35 = .ok (.ireturn, 1) := by decide +kernel
theorem dX12_image_0 : decode cX12_image 0 = .ok (.aload_n 0, 1) := by decide +kernel
theorem dX12_image_1 : decode cX12_image 1 = .ok (.iconst 1, 1) := by decide +kernel
theorem dX12_image_2 : decode cX12_image 2 = .ok (.putfield 427, 3) := by decide +kernel
theorem dX12_image_5 : decode cX12_image 5 = .ok (.aload_n 0, 1) := by decide +kernel
theorem dX12_image_6 : decode cX12_image 6 = .ok (.aload_n 0, 1) := by decide +kernel
theorem dX12_image_7 : decode cX12_image 7 = .ok (.getfield 122, 3) := by decide +kernel
theorem dX12_image_10 : decode cX12_image 10 = .ok (.putfield 430, 3) := by decide +kernel
theorem dX12_image_13 : decode cX12_image 13 = .ok (.aload_n 0, 1) := by decide +kernel
theorem dX12_image_14 : decode cX12_image 14 = .ok (.aload_n 0, 1) := by decide +kernel
theorem dX12_image_15 : decode cX12_image 15 = .ok (.getfield 117, 3) := by decide +kernel
theorem dX12_image_18 : decode cX12_image 18 = .ok (.putfield 433, 3) := by decide +kernel
theorem dX12_image_21 : decode cX12_image 21 = .ok (.aload_n 0, 1) := by decide +kernel
theorem dX12_image_22 : decode cX12_image 22 = .ok (.aload_n 0, 1) := by decide +kernel
theorem dX12_image_23 : decode cX12_image 23 = .ok (.getfield 156, 3) := by decide +kernel
theorem dX12_image_26 : decode cX12_image 26 = .ok (.putfield 436, 3) := by decide +kernel
theorem dX12_image_29 : decode cX12_image 29 = .ok (.aload_n 0, 1) := by decide +kernel
theorem dX12_image_30 : decode cX12_image 30 = .ok (.aload_n 0, 1) := by decide +kernel
theorem dX12_image_31 : decode cX12_image 31 = .ok (.getfield 315, 3) := by decide +kernel
theorem dX12_image_34 : decode cX12_image 34 = .ok (.putfield 439, 3) := by decide +kernel
theorem dX12_image_37 : decode cX12_image 37 = .ok (.iconst 0, 1) := by decide +kernel
theorem dX12_image_38 : decode cX12_image 38 = .ok (.istore_n 1, 1) := by decide +kernel
theorem dX12_image_39 : decode cX12_image 39 = .ok (.iload_n 1, 1) := by decide +kernel
theorem dX12_image_40 : decode cX12_image 40 = .ok (.bipush 8, 2) := by decide +kernel
theorem dX12_image_42 : decode cX12_image 42 = .ok (.if_icmp .ge 45, 3) := by decide +kernel
theorem dX12_image_45 : decode cX12_image 45 = .ok (.aload_n 0, 1) := by decide +kernel
theorem dX12_image_46 : decode cX12_image 46 = .ok (.getfield 75, 3) := by decide +kernel
theorem dX12_image_49 : decode cX12_image 49 = .ok (.iload_n 1, 1) := by decide +kernel
theorem dX12_image_50 : decode cX12_image 50 = .ok (.aload_n 0, 1) := by decide +kernel
theorem dX12_image_51 : decode cX12_image 51 = .ok (.getfield 35, 3) := by decide +kernel
theorem dX12_image_54 : decode cX12_image 54 = .ok (.iload_n 1, 1) := by decide +kernel
theorem dX12_image_55 : decode cX12_image 55 = .ok (.iaload, 1) := by decide +kernel
theorem dX12_image_56 : decode cX12_image 56 = .ok (.iastore, 1) := by decide +kernel
theorem dX12_image_57 : decode cX12_image 57 = .ok (.aload_n 0, 1) := by decide +kernel
theorem dX12_image_58 : decode cX12_image 58 = .ok (.getfield 78, 3) := by decide +kernel
theorem dX12_image_61 : decode cX12_image 61 = .ok (.iload_n 1, 1) := by decide +kernel
theorem dX12_image_62 : decode cX12_image 62 = .ok (.aload_n 0, 1) := by decide +kernel
theorem dX12_image_63 : decode cX12_image 63 = .ok (.getfield 38, 3) := by decide +kernel
theorem dX12_image_66 : decode cX12_image 66 = .ok (.iload_n 1, 1) := by decide +kernel
theorem dX12_image_67 : decode cX12_image 67 = .ok (.iaload, 1) := by decide +kernel
theorem dX12_image_68 : decode cX12_image 68 = .ok (.iastore, 1) := by decide +kernel
theorem dX12_image_69 : decode cX12_image 69 = .ok (.aload_n 0, 1) := by decide +kernel
theorem dX12_image_70 : decode cX12_image 70 = .ok (.getfield 81, 3) := by decide +kernel
theorem dX12_image_73 : decode cX12_image 73 = .ok (.iload_n 1, 1) := by decide +kernel
theorem dX12_image_74 : decode cX12_image 74 = .ok (.aload_n 0, 1) := by decide +kernel
theorem dX12_image_75 : decode cX12_image 75 = .ok (.getfield 41, 3) := by decide +kernel
theorem dX12_image_78 : decode cX12_image 78 = .ok (.iload_n 1, 1) := by decide +kernel
theorem dX12_image_79 : decode cX12_image 79 = .ok (.iaload, 1) := by decide +kernel
theorem dX12_image_80 : decode cX12_image 80 = .ok (.iastore, 1) := by decide +kernel
theorem dX12_image_81 : decode cX12_image 81 = .ok (.iinc 1 1, 3) := by decide +kernel
theorem dX12_image_84 : decode cX12_image 84 = .ok (.goto (-45), 3) := by decide +kernel
theorem dX12_image_87 : decode cX12_image 87 = .ok (.iconst 0, 1) := by decide +kernel
theorem dX12_image_88 : decode cX12_image 88 = .ok (.istore_n 1, 1) := by decide +kernel
theorem dX12_image_89 : decode cX12_image 89 = .ok (.iload_n 1, 1) := by decide +kernel
theorem dX12_image_90 : decode cX12_image 90 = .ok (.aload_n 0, 1) := by decide +kernel
theorem dX12_image_91 : decode cX12_image 91 = .ok (.getfield 122, 3) := by decide +kernel
theorem dX12_image_94 : decode cX12_image 94 = .ok (.if_icmp .ge 21, 3) := by decide +kernel
theorem dX12_image_97 : decode cX12_image 97 = .ok (.aload_n 0, 1) := by decide +kernel
theorem dX12_image_98 : decode cX12_image 98 = .ok (.getfield 84, 3) := by decide +kernel
theorem dX12_image_101 : decode cX12_image 101 = .ok (.iload_n 1, 1) := by decide +kernel
theorem dX12_image_102 : decode cX12_image 102 = .ok (.aload_n 0, 1) := by decide +kernel
theorem dX12_image_103 : decode cX12_image 103 = .ok (.getfield 29, 3) := by decide +kernel
theorem dX12_image_106 : decode cX12_image 106 = .ok (.iload_n 1, 1) := by decide +kernel
theorem dX12_image_107 : decode cX12_image 107 = .ok (.iaload, 1) := by decide +kernel
theorem dX12_image_108 : decode cX12_image 108 = .ok (.iastore, 1) := by decide +kernel
theorem dX12_image_109 : decode cX12_image 109 = .ok (.iinc 1 1, 3) := by decide +kernel
theorem dX12_image_112 : decode cX12_image 112 = .ok (.goto (-23), 3) := by decide +kernel
theorem dX12_image_115 : decode cX12_image 115 = .ok (.aload_n 0, 1) := by decide +kernel
theorem dX12_image_116 : decode cX12_image 116 = .ok (.invokevirtual 442, 3) := by decide +kernel
theorem dX12_image_119 : decode cX12_image 119 = .ok (.ireturn, 1) := by decide +kernel
theorem dX12_back_0 : decode cX12_back 0 = .ok (.aload_n 0, 1) := by decide +kernel
theorem dX12_back_1 : decode cX12_back 1 = .ok (.getfield 427, 3) := by decide +kernel
theorem dX12_back_4 : decode cX12_back 4 = .ok (.ifCond .ne 6, 3) := by decide +kernel
theorem dX12_back_7 : decode cX12_back 7 = .ok (.bipush (-3), 2) := by decide +kernel
theorem dX12_back_9 : decode cX12_back 9 = .ok (.ireturn, 1) := by decide +kernel
theorem dX12_back_10 : decode cX12_back 10 = .ok (.aload_n 0, 1) := by decide +kernel
theorem dX12_back_11 : decode cX12_back 11 = .ok (.aload_n 0, 1) := by decide +kernel
theorem dX12_back_12 : decode cX12_back 12 = .ok (.getfield 433, 3) := by decide +kernel
theorem dX12_back_15 : decode cX12_back 15 = .ok (.putfield 117, 3) := by decide +kernel
theorem dX12_back_18 : decode cX12_back 18 = .ok (.aload_n 0, 1) := by decide +kernel
theorem dX12_back_19 : decode cX12_back 19 = .ok (.aload_n 0, 1) := by decide +kernel
theorem dX12_back_20 : decode cX12_back 20 = .ok (.getfield 436, 3) := by decide +kernel
theorem dX12_back_23 : decode cX12_back 23 = .ok (.putfield 156, 3) := by decide +kernel
theorem dX12_back_26 : decode cX12_back 26 = .ok (.aload_n 0, 1) := by decide +kernel
theorem dX12_back_27 : decode cX12_back 27 = .ok (.aload_n 0, 1) := by decide +kernel
theorem dX12_back_28 : decode cX12_back 28 = .ok (.getfield 439, 3) := by decide +kernel
theorem dX12_back_31 : decode cX12_back 31 = .ok (.putfield 315, 3) := by decide +kernel
theorem dX12_back_34 : decode cX12_back 34 = .ok (.iconst 0, 1) := by decide +kernel
theorem dX12_back_35 : decode cX12_back 35 = .ok (.istore_n 1, 1) := by decide +kernel
theorem dX12_back_36 : decode cX12_back 36 = .ok (.iload_n 1, 1) := by decide +kernel
theorem dX12_back_37 : decode cX12_back 37 = .ok (.bipush 8, 2) := by decide +kernel
theorem dX12_back_39 : decode cX12_back 39 = .ok (.if_icmp .ge 45, 3) := by decide +kernel
theorem dX12_back_42 : decode cX12_back 42 = .ok (.aload_n 0, 1) := by decide +kernel
theorem dX12_back_43 : decode cX12_back 43 = .ok (.getfield 35, 3) := by decide +kernel
theorem dX12_back_46 : decode cX12_back 46 = .ok (.iload_n 1, 1) := by decide +kernel
theorem dX12_back_47 : decode cX12_back 47 = .ok (.aload_n 0, 1) := by decide +kernel
theorem dX12_back_48 : decode cX12_back 48 = .ok (.getfield 75, 3) := by decide +kernel
theorem dX12_back_51 : decode cX12_back 51 = .ok (.iload_n 1, 1) := by decide +kernel
theorem dX12_back_52 : decode cX12_back 52 = .ok (.iaload, 1) := by decide +kernel
theorem dX12_back_53 : decode cX12_back 53 = .ok (.iastore, 1) := by decide +kernel
theorem dX12_back_54 : decode cX12_back 54 = .ok (.aload_n 0, 1) := by decide +kernel
theorem dX12_back_55 : decode cX12_back 55 = .ok (.getfield 38, 3) := by decide +kernel
theorem dX12_back_58 : decode cX12_back 58 = .ok (.iload_n 1, 1) := by decide +kernel
theorem dX12_back_59 : decode cX12_back 59 = .ok (.aload_n 0, 1) := by decide +kernel
theorem dX12_back_60 : decode cX12_back 60 = .ok (.getfield 78, 3) := by decide +kernel
theorem dX12_back_63 : decode cX12_back 63 = .ok (.iload_n 1, 1) := by decide +kernel
theorem dX12_back_64 : decode cX12_back 64 = .ok (.iaload, 1) := by decide +kernel
theorem dX12_back_65 : decode cX12_back 65 = .ok (.iastore, 1) := by decide +kernel
theorem dX12_back_66 : decode cX12_back 66 = .ok (.aload_n 0, 1) := by decide +kernel
theorem dX12_back_67 : decode cX12_back 67 = .ok (.getfield 41, 3) := by decide +kernel
theorem dX12_back_70 : decode cX12_back 70 = .ok (.iload_n 1, 1) := by decide +kernel
theorem dX12_back_71 : decode cX12_back 71 = .ok (.aload_n 0, 1) := by decide +kernel
theorem dX12_back_72 : decode cX12_back 72 = .ok (.getfield 81, 3) := by decide +kernel
theorem dX12_back_75 : decode cX12_back 75 = .ok (.iload_n 1, 1) := by decide +kernel
theorem dX12_back_76 : decode cX12_back 76 = .ok (.iaload, 1) := by decide +kernel
theorem dX12_back_77 : decode cX12_back 77 = .ok (.iastore, 1) := by decide +kernel
theorem dX12_back_78 : decode cX12_back 78 = .ok (.iinc 1 1, 3) := by decide +kernel
theorem dX12_back_81 : decode cX12_back 81 = .ok (.goto (-45), 3) := by decide +kernel
theorem dX12_back_84 : decode cX12_back 84 = .ok (.iconst 0, 1) := by decide +kernel
theorem dX12_back_85 : decode cX12_back 85 = .ok (.istore_n 1, 1) := by decide +kernel
theorem dX12_back_86 : decode cX12_back 86 = .ok (.iload_n 1, 1) := by decide +kernel
theorem dX12_back_87 : decode cX12_back 87 = .ok (.aload_n 0, 1) := by decide +kernel
theorem dX12_back_88 : decode cX12_back 88 = .ok (.getfield 430, 3) := by decide +kernel
theorem dX12_back_91 : decode cX12_back 91 = .ok (.if_icmp .ge 21, 3) := by decide +kernel
theorem dX12_back_94 : decode cX12_back 94 = .ok (.aload_n 0, 1) := by decide +kernel
theorem dX12_back_95 : decode cX12_back 95 = .ok (.getfield 29, 3) := by decide +kernel
theorem dX12_back_98 : decode cX12_back 98 = .ok (.iload_n 1, 1) := by decide +kernel
theorem dX12_back_99 : decode cX12_back 99 = .ok (.aload_n 0, 1) := by decide +kernel
theorem dX12_back_100 : decode cX12_back 100 = .ok (.getfield 84, 3) := by decide +kernel
theorem dX12_back_103 : decode cX12_back 103 = .ok (.iload_n 1, 1) := by decide +kernel
theorem dX12_back_104 : decode cX12_back 104 = .ok (.iaload, 1) := by decide +kernel
theorem dX12_back_105 : decode cX12_back 105 = .ok (.iastore, 1) := by decide +kernel
theorem dX12_back_106 : decode cX12_back 106 = .ok (.iinc 1 1, 3) := by decide +kernel
theorem dX12_back_109 : decode cX12_back 109 = .ok (.goto (-23), 3) := by decide +kernel
theorem dX12_back_112 : decode cX12_back 112 = .ok (.aload_n 0, 1) := by decide +kernel
theorem dX12_back_113 : decode cX12_back 113 = .ok (.invokevirtual 442, 3) := by decide +kernel
theorem dX12_back_116 : decode cX12_back 116 = .ok (.ireturn, 1) := by decide +kernel
theorem dX12_count_0 : decode cX12_count 0 = .ok (.iload_n 1, 1) := by decide +kernel
theorem dX12_count_1 : decode cX12_count 1 = .ok (.tableswitch 96 0 8 #[51, 56, 61, 66, 71, 76, 81, 86, 91], 51) := by decide +kernel
theorem dX12_count_52 : decode cX12_count 52 = .ok (.aload_n 0, 1) := by decide +kernel
theorem dX12_count_53 : decode cX12_count 53 = .ok (.getfield 122, 3) := by decide +kernel
theorem dX12_count_56 : decode cX12_count 56 = .ok (.ireturn, 1) := by decide +kernel
theorem dX12_count_57 : decode cX12_count 57 = .ok (.aload_n 0, 1) := by decide +kernel
theorem dX12_count_58 : decode cX12_count 58 = .ok (.invokevirtual 442, 3) := by decide +kernel
theorem dX12_count_61 : decode cX12_count 61 = .ok (.ireturn, 1) := by decide +kernel
theorem dX12_count_62 : decode cX12_count 62 = .ok (.aload_n 0, 1) := by decide +kernel
theorem dX12_count_63 : decode cX12_count 63 = .ok (.getfield 318, 3) := by decide +kernel
theorem dX12_count_66 : decode cX12_count 66 = .ok (.ireturn, 1) := by decide +kernel
theorem dX12_count_67 : decode cX12_count 67 = .ok (.aload_n 0, 1) := by decide +kernel
theorem dX12_count_68 : decode cX12_count 68 = .ok (.getfield 114, 3) := by decide +kernel
theorem dX12_count_71 : decode cX12_count 71 = .ok (.ireturn, 1) := by decide +kernel
theorem dX12_count_72 : decode cX12_count 72 = .ok (.aload_n 0, 1) := by decide +kernel
theorem dX12_count_73 : decode cX12_count 73 = .ok (.getfield 176, 3) := by decide +kernel
theorem dX12_count_76 : decode cX12_count 76 = .ok (.ireturn, 1) := by decide +kernel
theorem dX12_count_77 : decode cX12_count 77 = .ok (.aload_n 0, 1) := by decide +kernel
theorem dX12_count_78 : decode cX12_count 78 = .ok (.getfield 315, 3) := by decide +kernel
theorem dX12_count_81 : decode cX12_count 81 = .ok (.ireturn, 1) := by decide +kernel
theorem dX12_count_82 : decode cX12_count 82 = .ok (.aload_n 0, 1) := by decide +kernel
theorem dX12_count_83 : decode cX12_count 83 = .ok (.getfield 396, 3) := by decide +kernel
theorem dX12_count_86 : decode cX12_count 86 = .ok (.ireturn, 1) := by decide +kernel
theorem dX12_count_87 : decode cX12_count 87 = .ok (.aload_n 0, 1) := by decide +kernel
theorem dX12_count_88 : decode cX12_count 88 = .ok (.getfield 413, 3) := by decide +kernel
theorem dX12_count_91 : decode cX12_count 91 = .ok (.ireturn, 1) := by decide +kernel
theorem dX12_count_92 : decode cX12_count 92 = .ok (.aload_n 0, 1) := by decide +kernel
theorem dX12_count_93 : decode cX12_count 93 = .ok (.invokevirtual 362, 3) := by decide +kernel
theorem dX12_count_96 : decode cX12_count 96 = .ok (.ireturn, 1) := by decide +kernel
theorem dX12_count_97 : decode cX12_count 97 = .ok (.bipush (-2), 2) := by decide +kernel
theorem dX12_count_99 : decode cX12_count 99 = .ok (.ireturn, 1) := by decide +kernel
theorem dX12_sheet_0 : decode cX12_sheet 0 = .ok (.iload_n 1, 1) := by decide +kernel
theorem dX12_sheet_1 : decode cX12_sheet 1 = .ok (.invokestatic 410, 3) := by decide +kernel
theorem dX12_sheet_4 : decode cX12_sheet 4 = .ok (.ifCond .eq 27, 3) := by decide +kernel
theorem dX12_sheet_7 : decode cX12_sheet 7 = .ok (.iload_n 2, 1) := by decide +kernel
theorem dX12_sheet_8 : decode cX12_sheet 8 = .ok (.i2l, 1) := by decide +kernel
theorem dX12_sheet_9 : decode cX12_sheet 9 = .ok (.ldc2_w 209, 3) := by decide +kernel
theorem dX12_sheet_12 : decode cX12_sheet 12 = .ok (.ldc2_w 161, 3) := by decide +kernel
theorem dX12_sheet_15 : decode cX12_sheet 15 = .ok (.invokestatic 125, 3) := by decide +kernel
theorem dX12_sheet_18 : decode cX12_sheet 18 = .ok (.ifCond .eq 13, 3) := by decide +kernel
theorem dX12_sheet_21 : decode cX12_sheet 21 = .ok (.iload_n 2, 1) := by decide +kernel
theorem dX12_sheet_22 : decode cX12_sheet 22 = .ok (.ifCond .lt 12, 3) := by decide +kernel
theorem dX12_sheet_25 : decode cX12_sheet 25 = .ok (.iload_n 3, 1) := by decide +kernel
theorem dX12_sheet_26 : decode cX12_sheet 26 = .ok (.bipush 40, 2) := by decide +kernel
theorem dX12_sheet_28 : decode cX12_sheet 28 = .ok (.if_icmp .le 6, 3) := by decide +kernel
theorem dX12_sheet_31 : decode cX12_sheet 31 = .ok (.bipush (-2), 2) := by decide +kernel
theorem dX12_sheet_33 : decode cX12_sheet 33 = .ok (.ireturn, 1) := by decide +kernel
theorem dX12_sheet_34 : decode cX12_sheet 34 = .ok (.iload_n 2, 1) := by decide +kernel
theorem dX12_sheet_35 : decode cX12_sheet 35 = .ok (.ifCond .lt 10, 3) := by decide +kernel
theorem dX12_sheet_38 : decode cX12_sheet 38 = .ok (.iload_n 3, 1) := by decide +kernel
theorem dX12_sheet_39 : decode cX12_sheet 39 = .ok (.ifCond .ge 6, 3) := by decide +kernel
theorem dX12_sheet_42 : decode cX12_sheet 42 = .ok (.bipush (-14), 2) := by decide +kernel
theorem dX12_sheet_44 : decode cX12_sheet 44 = .ok (.ireturn, 1) := by decide +kernel
theorem dX12_sheet_45 : decode cX12_sheet 45 = .ok (.aload_n 0, 1) := by decide +kernel
theorem dX12_sheet_46 : decode cX12_sheet 46 = .ok (.getfield 87, 3) := by decide +kernel
theorem dX12_sheet_49 : decode cX12_sheet 49 = .ok (.iload_n 1, 1) := by decide +kernel
theorem dX12_sheet_50 : decode cX12_sheet 50 = .ok (.iload_n 2, 1) := by decide +kernel
theorem dX12_sheet_51 : decode cX12_sheet 51 = .ok (.ifCond .lt 7, 3) := by decide +kernel
theorem dX12_sheet_54 : decode cX12_sheet 54 = .ok (.iconst 1, 1) := by decide +kernel
theorem dX12_sheet_55 : decode cX12_sheet 55 = .ok (.goto 4, 3) := by decide +kernel
theorem dX12_sheet_58 : decode cX12_sheet 58 = .ok (.iconst 0, 1) := by decide +kernel
theorem dX12_sheet_59 : decode cX12_sheet 59 = .ok (.bastore, 1) := by decide +kernel
theorem dX12_sheet_60 : decode cX12_sheet 60 = .ok (.aload_n 0, 1) := by decide +kernel
theorem dX12_sheet_61 : decode cX12_sheet 61 = .ok (.getfield 91, 3) := by decide +kernel
theorem dX12_sheet_64 : decode cX12_sheet 64 = .ok (.iload_n 1, 1) := by decide +kernel
theorem dX12_sheet_65 : decode cX12_sheet 65 = .ok (.iload_n 2, 1) := by decide +kernel
theorem dX12_sheet_66 : decode cX12_sheet 66 = .ok (.iastore, 1) := by decide +kernel
theorem dX12_sheet_67 : decode cX12_sheet 67 = .ok (.aload_n 0, 1) := by decide +kernel
theorem dX12_sheet_68 : decode cX12_sheet 68 = .ok (.getfield 94, 3) := by decide +kernel
theorem dX12_sheet_71 : decode cX12_sheet 71 = .ok (.iload_n 1, 1) := by decide +kernel
theorem dX12_sheet_72 : decode cX12_sheet 72 = .ok (.iload_n 3, 1) := by decide +kernel
theorem dX12_sheet_73 : decode cX12_sheet 73 = .ok (.iastore, 1) := by decide +kernel
theorem dX12_sheet_74 : decode cX12_sheet 74 = .ok (.iconst 0, 1) := by decide +kernel
theorem dX12_sheet_75 : decode cX12_sheet 75 = .ok (.istore 4, 2) := by decide +kernel
theorem dX12_sheet_77 : decode cX12_sheet 77 = .ok (.iload 4, 2) := by decide +kernel
theorem dX12_sheet_79 : decode cX12_sheet 79 = .ok (.iload_n 3, 1) := by decide +kernel
theorem dX12_sheet_80 : decode cX12_sheet 80 = .ok (.if_icmp .ge 26, 3) := by decide +kernel
theorem dX12_sheet_83 : decode cX12_sheet 83 = .ok (.iload_n 2, 1) := by decide +kernel
theorem dX12_sheet_84 : decode cX12_sheet 84 = .ok (.ifCond .lt 22, 3) := by decide +kernel
theorem dX12_sheet_87 : decode cX12_sheet 87 = .ok (.aload_n 0, 1) := by decide +kernel
theorem dX12_sheet_88 : decode cX12_sheet 88 = .ok (.getfield 97, 3) := by decide +kernel
theorem dX12_sheet_91 : decode cX12_sheet 91 = .ok (.bipush 40, 2) := by decide +kernel
theorem dX12_sheet_93 : decode cX12_sheet 93 = .ok (.iload_n 1, 1) := by decide +kernel
theorem dX12_sheet_94 : decode cX12_sheet 94 = .ok (.imul, 1) := by decide +kernel
theorem dX12_sheet_95 : decode cX12_sheet 95 = .ok (.iload 4, 2) := by decide +kernel
theorem dX12_sheet_97 : decode cX12_sheet 97 = .ok (.iadd, 1) := by decide +kernel
theorem dX12_sheet_98 : decode cX12_sheet 98 = .ok (.iconst 0, 1) := by decide +kernel
theorem dX12_sheet_99 : decode cX12_sheet 99 = .ok (.iastore, 1) := by decide +kernel
theorem dX12_sheet_100 : decode cX12_sheet 100 = .ok (.iinc 4 1, 3) := by decide +kernel
theorem dX12_sheet_103 : decode cX12_sheet 103 = .ok (.goto (-26), 3) := by decide +kernel
theorem dX12_sheet_106 : decode cX12_sheet 106 = .ok (.iconst 1, 1) := by decide +kernel
theorem dX12_sheet_107 : decode cX12_sheet 107 = .ok (.ireturn, 1) := by decide +kernel
theorem dX12_cell_0 : decode cX12_cell 0 = .ok (.iload_n 1, 1) := by decide +kernel
theorem dX12_cell_1 : decode cX12_cell 1 = .ok (.invokestatic 410, 3) := by decide +kernel
theorem dX12_cell_4 : decode cX12_cell 4 = .ok (.ifCond .ne 6, 3) := by decide +kernel
theorem dX12_cell_7 : decode cX12_cell 7 = .ok (.bipush (-2), 2) := by decide +kernel
theorem dX12_cell_9 : decode cX12_cell 9 = .ok (.ireturn, 1) := by decide +kernel
theorem dX12_cell_10 : decode cX12_cell 10 = .ok (.aload_n 0, 1) := by decide +kernel
theorem dX12_cell_11 : decode cX12_cell 11 = .ok (.getfield 87, 3) := by decide +kernel
theorem dX12_cell_14 : decode cX12_cell 14 = .ok (.iload_n 1, 1) := by decide +kernel
theorem dX12_cell_15 : decode cX12_cell 15 = .ok (.baload, 1) := by decide +kernel
theorem dX12_cell_16 : decode cX12_cell 16 = .ok (.ifCond .ne 6, 3) := by decide +kernel
theorem dX12_cell_19 : decode cX12_cell 19 = .ok (.bipush (-11), 2) := by decide +kernel
theorem dX12_cell_21 : decode cX12_cell 21 = .ok (.ireturn, 1) := by decide +kernel
theorem dX12_cell_22 : decode cX12_cell 22 = .ok (.iload_n 2, 1) := by decide +kernel
theorem dX12_cell_23 : decode cX12_cell 23 = .ok (.i2l, 1) := by decide +kernel
theorem dX12_cell_24 : decode cX12_cell 24 = .ok (.lconst 0, 1) := by decide +kernel
theorem dX12_cell_25 : decode cX12_cell 25 = .ok (.aload_n 0, 1) := by decide +kernel
theorem dX12_cell_26 : decode cX12_cell 26 = .ok (.getfield 94, 3) := by decide +kernel
theorem dX12_cell_29 : decode cX12_cell 29 = .ok (.iload_n 1, 1) := by decide +kernel
theorem dX12_cell_30 : decode cX12_cell 30 = .ok (.iaload, 1) := by decide +kernel
theorem dX12_cell_31 : decode cX12_cell 31 = .ok (.iconst 1, 1) := by decide +kernel
theorem dX12_cell_32 : decode cX12_cell 32 = .ok (.isub, 1) := by decide +kernel
theorem dX12_cell_33 : decode cX12_cell 33 = .ok (.i2l, 1) := by decide +kernel
theorem dX12_cell_34 : decode cX12_cell 34 = .ok (.invokestatic 125, 3) := by decide +kernel
theorem dX12_cell_37 : decode cX12_cell 37 = .ok (.ifCond .ne 6, 3) := by decide +kernel
theorem dX12_cell_40 : decode cX12_cell 40 = .ok (.bipush (-12), 2) := by decide +kernel
theorem dX12_cell_42 : decode cX12_cell 42 = .ok (.ireturn, 1) := by decide +kernel
theorem dX12_cell_43 : decode cX12_cell 43 = .ok (.aload_n 0, 1) := by decide +kernel
theorem dX12_cell_44 : decode cX12_cell 44 = .ok (.getfield 97, 3) := by decide +kernel
theorem dX12_cell_47 : decode cX12_cell 47 = .ok (.bipush 40, 2) := by decide +kernel
theorem dX12_cell_49 : decode cX12_cell 49 = .ok (.iload_n 1, 1) := by decide +kernel
theorem dX12_cell_50 : decode cX12_cell 50 = .ok (.imul, 1) := by decide +kernel
theorem dX12_cell_51 : decode cX12_cell 51 = .ok (.iload_n 2, 1) := by decide +kernel
theorem dX12_cell_52 : decode cX12_cell 52 = .ok (.iadd, 1) := by decide +kernel
theorem dX12_cell_53 : decode cX12_cell 53 = .ok (.aload_n 0, 1) := by decide +kernel
theorem dX12_cell_54 : decode cX12_cell 54 = .ok (.getfield 91, 3) := by decide +kernel
theorem dX12_cell_57 : decode cX12_cell 57 = .ok (.iload_n 1, 1) := by decide +kernel
theorem dX12_cell_58 : decode cX12_cell 58 = .ok (.iaload, 1) := by decide +kernel
theorem dX12_cell_59 : decode cX12_cell 59 = .ok (.ifCond .ne 8, 3) := by decide +kernel
theorem dX12_cell_62 : decode cX12_cell 62 = .ok (.iload_n 3, 1) := by decide +kernel
theorem dX12_cell_63 : decode cX12_cell 63 = .ok (.i2b, 1) := by decide +kernel
theorem dX12_cell_64 : decode cX12_cell 64 = .ok (.goto 19, 3) := by decide +kernel
theorem dX12_cell_67 : decode cX12_cell 67 = .ok (.aload_n 0, 1) := by decide +kernel
theorem dX12_cell_68 : decode cX12_cell 68 = .ok (.getfield 91, 3) := by decide +kernel
theorem dX12_cell_71 : decode cX12_cell 71 = .ok (.iload_n 1, 1) := by decide +kernel
theorem dX12_cell_72 : decode cX12_cell 72 = .ok (.iaload, 1) := by decide +kernel
theorem dX12_cell_73 : decode cX12_cell 73 = .ok (.iconst 1, 1) := by decide +kernel
theorem dX12_cell_74 : decode cX12_cell 74 = .ok (.if_icmp .ne 8, 3) := by decide +kernel
theorem dX12_cell_77 : decode cX12_cell 77 = .ok (.iload_n 3, 1) := by decide +kernel
theorem dX12_cell_78 : decode cX12_cell 78 = .ok (.i2s, 1) := by decide +kernel
theorem dX12_cell_79 : decode cX12_cell 79 = .ok (.goto 4, 3) := by decide +kernel
theorem dX12_cell_82 : decode cX12_cell 82 = .ok (.iload_n 3, 1) := by decide +kernel
theorem dX12_cell_83 : decode cX12_cell 83 = .ok (.iastore, 1) := by decide +kernel
theorem dX12_cell_84 : decode cX12_cell 84 = .ok (.iconst 1, 1) := by decide +kernel
theorem dX12_cell_85 : decode cX12_cell 85 = .ok (.ireturn, 1) := by decide +kernel
theorem dX12_copy_0 : decode cX12_copy 0 = .ok (.iload_n 1, 1) := by decide +kernel
theorem dX12_copy_1 : decode cX12_copy 1 = .ok (.invokestatic 410, 3) := by decide +kernel
theorem dX12_copy_4 : decode cX12_copy 4 = .ok (.ifCond .eq 10, 3) := by decide +kernel
theorem dX12_copy_7 : decode cX12_copy 7 = .ok (.iload_n 3, 1) := by decide +kernel
theorem dX12_copy_8 : decode cX12_copy 8 = .ok (.invokestatic 410, 3) := by decide +kernel
theorem dX12_copy_11 : decode cX12_copy 11 = .ok (.ifCond .ne 6, 3) := by decide +kernel
theorem dX12_copy_14 : decode cX12_copy 14 = .ok (.bipush (-2), 2) := by decide +kernel
theorem dX12_copy_16 : decode cX12_copy 16 = .ok (.ireturn, 1) := by decide +kernel
theorem dX12_copy_17 : decode cX12_copy 17 = .ok (.aload_n 0, 1) := by decide +kernel
theorem dX12_copy_18 : decode cX12_copy 18 = .ok (.getfield 87, 3) := by decide +kernel
theorem dX12_copy_21 : decode cX12_copy 21 = .ok (.iload_n 1, 1) := by decide +kernel
theorem dX12_copy_22 : decode cX12_copy 22 = .ok (.baload, 1) := by decide +kernel
theorem dX12_copy_23 : decode cX12_copy 23 = .ok (.ifCond .eq 12, 3) := by decide +kernel
theorem dX12_copy_26 : decode cX12_copy 26 = .ok (.aload_n 0, 1) := by decide +kernel
theorem dX12_copy_27 : decode cX12_copy 27 = .ok (.getfield 87, 3) := by decide +kernel
theorem dX12_copy_30 : decode cX12_copy 30 = .ok (.iload_n 3, 1) := by decide +kernel
theorem dX12_copy_31 : decode cX12_copy 31 = .ok (.baload, 1) := by decide +kernel
theorem dX12_copy_32 : decode cX12_copy 32 = .ok (.ifCond .ne 6, 3) := by decide +kernel
theorem dX12_copy_35 : decode cX12_copy 35 = .ok (.bipush (-11), 2) := by decide +kernel
theorem dX12_copy_37 : decode cX12_copy 37 = .ok (.ireturn, 1) := by decide +kernel
theorem dX12_copy_38 : decode cX12_copy 38 = .ok (.aload_n 0, 1) := by decide +kernel
theorem dX12_copy_39 : decode cX12_copy 39 = .ok (.getfield 91, 3) := by decide +kernel
theorem dX12_copy_42 : decode cX12_copy 42 = .ok (.iload_n 1, 1) := by decide +kernel
theorem dX12_copy_43 : decode cX12_copy 43 = .ok (.iaload, 1) := by decide +kernel
theorem dX12_copy_44 : decode cX12_copy 44 = .ok (.aload_n 0, 1) := by decide +kernel
theorem dX12_copy_45 : decode cX12_copy 45 = .ok (.getfield 91, 3) := by decide +kernel
theorem dX12_copy_48 : decode cX12_copy 48 = .ok (.iload_n 3, 1) := by decide +kernel
theorem dX12_copy_49 : decode cX12_copy 49 = .ok (.iaload, 1) := by decide +kernel
theorem dX12_copy_50 : decode cX12_copy 50 = .ok (.if_icmp .eq 6, 3) := by decide +kernel
theorem dX12_copy_53 : decode cX12_copy 53 = .ok (.bipush (-13), 2) := by decide +kernel
theorem dX12_copy_55 : decode cX12_copy 55 = .ok (.ireturn, 1) := by decide +kernel
theorem dX12_copy_56 : decode cX12_copy 56 = .ok (.iload 5, 2) := by decide +kernel
theorem dX12_copy_58 : decode cX12_copy 58 = .ok (.ifCond .lt 39, 3) := by decide +kernel
theorem dX12_copy_61 : decode cX12_copy 61 = .ok (.iload_n 2, 1) := by decide +kernel
theorem dX12_copy_62 : decode cX12_copy 62 = .ok (.ifCond .lt 35, 3) := by decide +kernel
theorem dX12_copy_65 : decode cX12_copy 65 = .ok (.iload 4, 2) := by decide +kernel
theorem dX12_copy_67 : decode cX12_copy 67 = .ok (.ifCond .lt 30, 3) := by decide +kernel
theorem dX12_copy_70 : decode cX12_copy 70 = .ok (.iload_n 2, 1) := by decide +kernel
theorem dX12_copy_71 : decode cX12_copy 71 = .ok (.aload_n 0, 1) := by decide +kernel
theorem dX12_copy_72 : decode cX12_copy 72 = .ok (.getfield 94, 3) := by decide +kernel
theorem dX12_copy_75 : decode cX12_copy 75 = .ok (.iload_n 1, 1) := by decide +kernel
theorem dX12_copy_76 : decode cX12_copy 76 = .ok (.iaload, 1) := by decide +kernel
theorem dX12_copy_77 : decode cX12_copy 77 = .ok (.iload 5, 2) := by decide +kernel
theorem dX12_copy_79 : decode cX12_copy 79 = .ok (.isub, 1) := by decide +kernel
theorem dX12_copy_80 : decode cX12_copy 80 = .ok (.if_icmp .gt 17, 3) := by decide +kernel
theorem dX12_copy_83 : decode cX12_copy 83 = .ok (.iload 4, 2) := by decide +kernel
theorem dX12_copy_85 : decode cX12_copy 85 = .ok (.aload_n 0, 1) := by decide +kernel
theorem dX12_copy_86 : decode cX12_copy 86 = .ok (.getfield 94, 3) := by decide +kernel
theorem dX12_copy_89 : decode cX12_copy 89 = .ok (.iload_n 3, 1) := by decide +kernel
theorem dX12_copy_90 : decode cX12_copy 90 = .ok (.iaload, 1) := by decide +kernel
theorem dX12_copy_91 : decode cX12_copy 91 = .ok (.iload 5, 2) := by decide +kernel
theorem dX12_copy_93 : decode cX12_copy 93 = .ok (.isub, 1) := by decide +kernel
theorem dX12_copy_94 : decode cX12_copy 94 = .ok (.if_icmp .le 6, 3) := by decide +kernel
theorem dX12_copy_97 : decode cX12_copy 97 = .ok (.bipush (-12), 2) := by decide +kernel
theorem dX12_copy_99 : decode cX12_copy 99 = .ok (.ireturn, 1) := by decide +kernel
theorem dX12_copy_100 : decode cX12_copy 100 = .ok (.iload_n 1, 1) := by decide +kernel
theorem dX12_copy_101 : decode cX12_copy 101 = .ok (.iload_n 3, 1) := by decide +kernel
theorem dX12_copy_102 : decode cX12_copy 102 = .ok (.if_icmp .ne 13, 3) := by decide +kernel
theorem dX12_copy_105 : decode cX12_copy 105 = .ok (.iload_n 2, 1) := by decide +kernel
theorem dX12_copy_106 : decode cX12_copy 106 = .ok (.iload 4, 2) := by decide +kernel
theorem dX12_copy_108 : decode cX12_copy 108 = .ok (.if_icmp .ge 7, 3) := by decide +kernel
theorem dX12_copy_111 : decode cX12_copy 111 = .ok (.iconst 1, 1) := by decide +kernel
theorem dX12_copy_112 : decode cX12_copy 112 = .ok (.goto 4, 3) := by decide +kernel
theorem dX12_copy_115 : decode cX12_copy 115 = .ok (.iconst 0, 1) := by decide +kernel
theorem dX12_copy_116 : decode cX12_copy 116 = .ok (.istore 6, 2) := by decide +kernel
theorem dX12_copy_118 : decode cX12_copy 118 = .ok (.iconst 0, 1) := by decide +kernel
theorem dX12_copy_119 : decode cX12_copy 119 = .ok (.istore 7, 2) := by decide +kernel
theorem dX12_copy_121 : decode cX12_copy 121 = .ok (.iload 7, 2) := by decide +kernel
theorem dX12_copy_123 : decode cX12_copy 123 = .ok (.iload 5, 2) := by decide +kernel
theorem dX12_copy_125 : decode cX12_copy 125 = .ok (.if_icmp .ge 57, 3) := by decide +kernel
theorem dX12_copy_128 : decode cX12_copy 128 = .ok (.iload 6, 2) := by decide +kernel
theorem dX12_copy_130 : decode cX12_copy 130 = .ok (.ifCond .eq 13, 3) := by decide +kernel
theorem dX12_copy_133 : decode cX12_copy 133 = .ok (.iload 5, 2) := by decide +kernel
theorem dX12_copy_135 : decode cX12_copy 135 = .ok (.iconst 1, 1) := by decide +kernel
theorem dX12_copy_136 : decode cX12_copy 136 = .ok (.isub, 1) := by decide +kernel
theorem dX12_copy_137 : decode cX12_copy 137 = .ok (.iload 7, 2) := by decide +kernel
theorem dX12_copy_139 : decode cX12_copy 139 = .ok (.isub, 1) := by decide +kernel
theorem dX12_copy_140 : decode cX12_copy 140 = .ok (.goto 5, 3) := by decide +kernel
theorem dX12_copy_143 : decode cX12_copy 143 = .ok (.iload 7, 2) := by decide +kernel
theorem dX12_copy_145 : decode cX12_copy 145 = .ok (.istore 8, 2) := by decide +kernel
theorem dX12_copy_147 : decode cX12_copy 147 = .ok (.aload_n 0, 1) := by decide +kernel
theorem dX12_copy_148 : decode cX12_copy 148 = .ok (.getfield 97, 3) := by decide +kernel
theorem dX12_copy_151 : decode cX12_copy 151 = .ok (.bipush 40, 2) := by decide +kernel
theorem dX12_copy_153 : decode cX12_copy 153 = .ok (.iload_n 3, 1) := by decide +kernel
theorem dX12_copy_154 : decode cX12_copy 154 = .ok (.imul, 1) := by decide +kernel
theorem dX12_copy_155 : decode cX12_copy 155 = .ok (.iload 4, 2) := by decide +kernel
theorem dX12_copy_157 : decode cX12_copy 157 = .ok (.iadd, 1) := by decide +kernel
theorem dX12_copy_158 : decode cX12_copy 158 = .ok (.iload 8, 2) := by decide +kernel
theorem dX12_copy_160 : decode cX12_copy 160 = .ok (.iadd, 1) := by decide +kernel
theorem dX12_copy_161 : decode cX12_copy 161 = .ok (.aload_n 0, 1) := by decide +kernel
theorem dX12_copy_162 : decode cX12_copy 162 = .ok (.getfield 97, 3) := by decide +kernel
theorem dX12_copy_165 : decode cX12_copy 165 = .ok (.bipush 40, 2) := by decide +kernel
theorem dX12_copy_167 : decode cX12_copy 167 = .ok (.iload_n 1, 1) := by decide +kernel
theorem dX12_copy_168 : decode cX12_copy 168 = .ok (.imul, 1) := by decide +kernel
theorem dX12_copy_169 : decode cX12_copy 169 = .ok (.iload_n 2, 1) := by decide +kernel
theorem dX12_copy_170 : decode cX12_copy 170 = .ok (.iadd, 1) := by decide +kernel
theorem dX12_copy_171 : decode cX12_copy 171 = .ok (.iload 8, 2) := by decide +kernel
theorem dX12_copy_173 : decode cX12_copy 173 = .ok (.iadd, 1) := by decide +kernel
theorem dX12_copy_174 : decode cX12_copy 174 = .ok (.iaload, 1) := by decide +kernel
theorem dX12_copy_175 : decode cX12_copy 175 = .ok (.iastore, 1) := by decide +kernel
theorem dX12_copy_176 : decode cX12_copy 176 = .ok (.iinc 7 1, 3) := by decide +kernel
theorem dX12_copy_179 : decode cX12_copy 179 = .ok (.goto (-58), 3) := by decide +kernel
theorem dX12_copy_182 : decode cX12_copy 182 = .ok (.iload 5, 2) := by decide +kernel
theorem dX12_copy_184 : decode cX12_copy 184 = .ok (.ireturn, 1) := by decide +kernel
theorem dX12_pieces_0 : decode cX12_pieces 0 = .ok (.iload_n 1, 1) := by decide +kernel
theorem dX12_pieces_1 : decode cX12_pieces 1 = .ok (.invokestatic 410, 3) := by decide +kernel
theorem dX12_pieces_4 : decode cX12_pieces 4 = .ok (.ifCond .eq 28, 3) := by decide +kernel
theorem dX12_pieces_7 : decode cX12_pieces 7 = .ok (.iload_n 2, 1) := by decide +kernel
theorem dX12_pieces_8 : decode cX12_pieces 8 = .ok (.i2l, 1) := by decide +kernel
theorem dX12_pieces_9 : decode cX12_pieces 9 = .ok (.lconst 0, 1) := by decide +kernel
theorem dX12_pieces_10 : decode cX12_pieces 10 = .ok (.ldc2_w 161, 3) := by decide +kernel
theorem dX12_pieces_13 : decode cX12_pieces 13 = .ok (.invokestatic 125, 3) := by decide +kernel
theorem dX12_pieces_16 : decode cX12_pieces 16 = .ok (.ifCond .eq 16, 3) := by decide +kernel
theorem dX12_pieces_19 : decode cX12_pieces 19 = .ok (.iload 4, 2) := by decide +kernel
theorem dX12_pieces_21 : decode cX12_pieces 21 = .ok (.i2l, 1) := by decide +kernel
theorem dX12_pieces_22 : decode cX12_pieces 22 = .ok (.lconst 0, 1) := by decide +kernel
theorem dX12_pieces_23 : decode cX12_pieces 23 = .ok (.ldc2_w 215, 3) := by decide +kernel
theorem dX12_pieces_26 : decode cX12_pieces 26 = .ok (.invokestatic 125, 3) := by decide +kernel
theorem dX12_pieces_29 : decode cX12_pieces 29 = .ok (.ifCond .ne 6, 3) := by decide +kernel
theorem dX12_pieces_32 : decode cX12_pieces 32 = .ok (.bipush (-2), 2) := by decide +kernel
theorem dX12_pieces_34 : decode cX12_pieces 34 = .ok (.ireturn, 1) := by decide +kernel
theorem dX12_pieces_35 : decode cX12_pieces 35 = .ok (.aload_n 0, 1) := by decide +kernel
theorem dX12_pieces_36 : decode cX12_pieces 36 = .ok (.getfield 87, 3) := by decide +kernel
theorem dX12_pieces_39 : decode cX12_pieces 39 = .ok (.iload_n 1, 1) := by decide +kernel
theorem dX12_pieces_40 : decode cX12_pieces 40 = .ok (.baload, 1) := by decide +kernel
theorem dX12_pieces_41 : decode cX12_pieces 41 = .ok (.ifCond .eq 16, 3) := by decide +kernel
theorem dX12_pieces_44 : decode cX12_pieces 44 = .ok (.aload_n 0, 1) := by decide +kernel
theorem dX12_pieces_45 : decode cX12_pieces 45 = .ok (.getfield 91, 3) := by decide +kernel
theorem dX12_pieces_48 : decode cX12_pieces 48 = .ok (.iload_n 1, 1) := by decide +kernel
theorem dX12_pieces_49 : decode cX12_pieces 49 = .ok (.iaload, 1) := by decide +kernel
theorem dX12_pieces_50 : decode cX12_pieces 50 = .ok (.iload_n 2, 1) := by decide +kernel
theorem dX12_pieces_51 : decode cX12_pieces 51 = .ok (.if_icmp .eq 6, 3) := by decide +kernel
theorem dX12_pieces_54 : decode cX12_pieces 54 = .ok (.bipush (-13), 2) := by decide +kernel
theorem dX12_pieces_56 : decode cX12_pieces 56 = .ok (.ireturn, 1) := by decide +kernel
theorem dX12_pieces_57 : decode cX12_pieces 57 = .ok (.aload_n 0, 1) := by decide +kernel
theorem dX12_pieces_58 : decode cX12_pieces 58 = .ok (.getfield 87, 3) := by decide +kernel
theorem dX12_pieces_61 : decode cX12_pieces 61 = .ok (.iload_n 1, 1) := by decide +kernel
theorem dX12_pieces_62 : decode cX12_pieces 62 = .ok (.baload, 1) := by decide +kernel
theorem dX12_pieces_63 : decode cX12_pieces 63 = .ok (.ifCond .ne 6, 3) := by decide +kernel
theorem dX12_pieces_66 : decode cX12_pieces 66 = .ok (.bipush (-11), 2) := by decide +kernel
theorem dX12_pieces_68 : decode cX12_pieces 68 = .ok (.ireturn, 1) := by decide +kernel
theorem dX12_pieces_69 : decode cX12_pieces 69 = .ok (.iconst 0, 1) := by decide +kernel
theorem dX12_pieces_70 : decode cX12_pieces 70 = .ok (.istore 5, 2) := by decide +kernel
theorem dX12_pieces_72 : decode cX12_pieces 72 = .ok (.iconst 0, 1) := by decide +kernel
theorem dX12_pieces_73 : decode cX12_pieces 73 = .ok (.istore 6, 2) := by decide +kernel
theorem dX12_pieces_75 : decode cX12_pieces 75 = .ok (.iload 6, 2) := by decide +kernel
theorem dX12_pieces_77 : decode cX12_pieces 77 = .ok (.iload 4, 2) := by decide +kernel
theorem dX12_pieces_79 : decode cX12_pieces 79 = .ok (.if_icmp .ge 97, 3) := by decide +kernel
theorem dX12_pieces_82 : decode cX12_pieces 82 = .ok (.iload_n 3, 1) := by decide +kernel
theorem dX12_pieces_83 : decode cX12_pieces 83 = .ok (.ifCond .lt 20, 3) := by decide +kernel
theorem dX12_pieces_86 : decode cX12_pieces 86 = .ok (.iload_n 3, 1) := by decide +kernel
theorem dX12_pieces_87 : decode cX12_pieces 87 = .ok (.aload_n 0, 1) := by decide +kernel
theorem dX12_pieces_88 : decode cX12_pieces 88 = .ok (.getfield 94, 3) := by decide +kernel
theorem dX12_pieces_91 : decode cX12_pieces 91 = .ok (.iload_n 1, 1) := by decide +kernel
theorem dX12_pieces_92 : decode cX12_pieces 92 = .ok (.iaload, 1) := by decide +kernel
theorem dX12_pieces_93 : decode cX12_pieces 93 = .ok (.iconst 4, 1) := by decide +kernel
theorem dX12_pieces_94 : decode cX12_pieces 94 = .ok (.iload 6, 2) := by decide +kernel
theorem dX12_pieces_96 : decode cX12_pieces 96 = .ok (.imul, 1) := by decide +kernel
theorem dX12_pieces_97 : decode cX12_pieces 97 = .ok (.isub, 1) := by decide +kernel
theorem dX12_pieces_98 : decode cX12_pieces 98 = .ok (.iconst 4, 1) := by decide +kernel
theorem dX12_pieces_99 : decode cX12_pieces 99 = .ok (.isub, 1) := by decide +kernel
theorem dX12_pieces_100 : decode cX12_pieces 100 = .ok (.if_icmp .le 6, 3) := by decide +kernel
theorem dX12_pieces_103 : decode cX12_pieces 103 = .ok (.bipush (-12), 2) := by decide +kernel
theorem dX12_pieces_105 : decode cX12_pieces 105 = .ok (.ireturn, 1) := by decide +kernel
theorem dX12_pieces_106 : decode cX12_pieces 106 = .ok (.bipush 40, 2) := by decide +kernel
theorem dX12_pieces_108 : decode cX12_pieces 108 = .ok (.iload_n 1, 1) := by decide +kernel
theorem dX12_pieces_109 : decode cX12_pieces 109 = .ok (.imul, 1) := by decide +kernel
theorem dX12_pieces_110 : decode cX12_pieces 110 = .ok (.iload_n 3, 1) := by decide +kernel
theorem dX12_pieces_111 : decode cX12_pieces 111 = .ok (.iadd, 1) := by decide +kernel
theorem dX12_pieces_112 : decode cX12_pieces 112 = .ok (.iconst 4, 1) := by decide +kernel
theorem dX12_pieces_113 : decode cX12_pieces 113 = .ok (.iload 6, 2) := by decide +kernel
theorem dX12_pieces_115 : decode cX12_pieces 115 = .ok (.imul, 1) := by decide +kernel
theorem dX12_pieces_116 : decode cX12_pieces 116 = .ok (.iadd, 1) := by decide +kernel
theorem dX12_pieces_117 : decode cX12_pieces 117 = .ok (.istore 7, 2) := by decide +kernel
theorem dX12_pieces_119 : decode cX12_pieces 119 = .ok (.iload 5, 2) := by decide +kernel
theorem dX12_pieces_121 : decode cX12_pieces 121 = .ok (.aload_n 0, 1) := by decide +kernel
theorem dX12_pieces_122 : decode cX12_pieces 122 = .ok (.aload_n 0, 1) := by decide +kernel
theorem dX12_pieces_123 : decode cX12_pieces 123 = .ok (.getfield 97, 3) := by decide +kernel
theorem dX12_pieces_126 : decode cX12_pieces 126 = .ok (.iload 7, 2) := by decide +kernel
theorem dX12_pieces_128 : decode cX12_pieces 128 = .ok (.iaload, 1) := by decide +kernel
theorem dX12_pieces_129 : decode cX12_pieces 129 = .ok (.aload_n 0, 1) := by decide +kernel
theorem dX12_pieces_130 : decode cX12_pieces 130 = .ok (.getfield 97, 3) := by decide +kernel
theorem dX12_pieces_133 : decode cX12_pieces 133 = .ok (.iload 7, 2) := by decide +kernel
theorem dX12_pieces_135 : decode cX12_pieces 135 = .ok (.iconst 1, 1) := by decide +kernel
theorem dX12_pieces_136 : decode cX12_pieces 136 = .ok (.iadd, 1) := by decide +kernel
theorem dX12_pieces_137 : decode cX12_pieces 137 = .ok (.iaload, 1) := by decide +kernel
theorem dX12_pieces_138 : decode cX12_pieces 138 = .ok (.aload_n 0, 1) := by decide +kernel
theorem dX12_pieces_139 : decode cX12_pieces 139 = .ok (.getfield 97, 3) := by decide +kernel
theorem dX12_pieces_142 : decode cX12_pieces 142 = .ok (.iload 7, 2) := by decide +kernel
theorem dX12_pieces_144 : decode cX12_pieces 144 = .ok (.iconst 2, 1) := by decide +kernel
theorem dX12_pieces_145 : decode cX12_pieces 145 = .ok (.iadd, 1) := by decide +kernel
theorem dX12_pieces_146 : decode cX12_pieces 146 = .ok (.iaload, 1) := by decide +kernel
theorem dX12_pieces_147 : decode cX12_pieces 147 = .ok (.aload_n 0, 1) := by decide +kernel
theorem dX12_pieces_148 : decode cX12_pieces 148 = .ok (.getfield 97, 3) := by decide +kernel
theorem dX12_pieces_151 : decode cX12_pieces 151 = .ok (.iload 7, 2) := by decide +kernel
theorem dX12_pieces_153 : decode cX12_pieces 153 = .ok (.iconst 3, 1) := by decide +kernel
theorem dX12_pieces_154 : decode cX12_pieces 154 = .ok (.iadd, 1) := by decide +kernel
theorem dX12_pieces_155 : decode cX12_pieces 155 = .ok (.iaload, 1) := by decide +kernel
theorem dX12_pieces_156 : decode cX12_pieces 156 = .ok (.invokevirtual 447, 3) := by decide +kernel
theorem dX12_pieces_159 : decode cX12_pieces 159 = .ok (.ifCond .lt 7, 3) := by decide +kernel
theorem dX12_pieces_162 : decode cX12_pieces 162 = .ok (.iconst 1, 1) := by decide +kernel
theorem dX12_pieces_163 : decode cX12_pieces 163 = .ok (.goto 4, 3) := by decide +kernel
theorem dX12_pieces_166 : decode cX12_pieces 166 = .ok (.iconst 0, 1) := by decide +kernel
theorem dX12_pieces_167 : decode cX12_pieces 167 = .ok (.iadd, 1) := by decide +kernel
theorem dX12_pieces_168 : decode cX12_pieces 168 = .ok (.istore 5, 2) := by decide +kernel
theorem dX12_pieces_170 : decode cX12_pieces 170 = .ok (.iinc 6 1, 3) := by decide +kernel
theorem dX12_pieces_173 : decode cX12_pieces 173 = .ok (.goto (-98), 3) := by decide +kernel
theorem dX12_pieces_176 : decode cX12_pieces 176 = .ok (.iload 5, 2) := by decide +kernel
theorem dX12_pieces_178 : decode cX12_pieces 178 = .ok (.ireturn, 1) := by decide +kernel
theorem dX12_over_0 : decode cX12_over 0 = .ok (.iload_n 0, 1) := by decide +kernel
theorem dX12_over_1 : decode cX12_over 1 = .ok (.ifCond .ne 7, 3) := by decide +kernel
theorem dX12_over_4 : decode cX12_over 4 = .ok (.iconst (-1), 1) := by decide +kernel
theorem dX12_over_5 : decode cX12_over 5 = .ok (.goto 22, 3) := by decide +kernel
theorem dX12_over_8 : decode cX12_over 8 = .ok (.iload_n 0, 1) := by decide +kernel
theorem dX12_over_9 : decode cX12_over 9 = .ok (.iconst 4, 1) := by decide +kernel
theorem dX12_over_10 : decode cX12_over 10 = .ok (.if_icmp .ne 7, 3) := by decide +kernel
theorem dX12_over_13 : decode cX12_over 13 = .ok (.iconst 3, 1) := by decide +kernel
theorem dX12_over_14 : decode cX12_over 14 = .ok (.goto 13, 3) := by decide +kernel
theorem dX12_over_17 : decode cX12_over 17 = .ok (.iload_n 0, 1) := by decide +kernel
theorem dX12_over_18 : decode cX12_over 18 = .ok (.iconst 5, 1) := by decide +kernel
theorem dX12_over_19 : decode cX12_over 19 = .ok (.if_icmp .ne 7, 3) := by decide +kernel
theorem dX12_over_22 : decode cX12_over 22 = .ok (.iconst 1, 1) := by decide +kernel
theorem dX12_over_23 : decode cX12_over 23 = .ok (.goto 4, 3) := by decide +kernel
theorem dX12_over_26 : decode cX12_over 26 = .ok (.iconst 0, 1) := by decide +kernel
theorem dX12_over_27 : decode cX12_over 27 = .ok (.ireturn, 1) := by decide +kernel
theorem dX12_taken_0 : decode cX12_taken 0 = .ok (.iload_n 3, 1) := by decide +kernel
theorem dX12_taken_1 : decode cX12_taken 1 = .ok (.i2l, 1) := by decide +kernel
theorem dX12_taken_2 : decode cX12_taken 2 = .ok (.lconst 0, 1) := by decide +kernel
theorem dX12_taken_3 : decode cX12_taken 3 = .ok (.ldc2_w 159, 3) := by decide +kernel
theorem dX12_taken_6 : decode cX12_taken 6 = .ok (.invokestatic 125, 3) := by decide +kernel
theorem dX12_taken_9 : decode cX12_taken 9 = .ok (.ifCond .ne 6, 3) := by decide +kernel
theorem dX12_taken_12 : decode cX12_taken 12 = .ok (.bipush (-2), 2) := by decide +kernel
theorem dX12_taken_14 : decode cX12_taken 14 = .ok (.ireturn, 1) := by decide +kernel
theorem dX12_taken_15 : decode cX12_taken 15 = .ok (.aload_n 0, 1) := by decide +kernel
theorem dX12_taken_16 : decode cX12_taken 16 = .ok (.iload_n 1, 1) := by decide +kernel
theorem dX12_taken_17 : decode cX12_taken 17 = .ok (.invokevirtual 330, 3) := by decide +kernel
theorem dX12_taken_20 : decode cX12_taken 20 = .ok (.ifCond .eq 21, 3) := by decide +kernel
theorem dX12_taken_23 : decode cX12_taken 23 = .ok (.iload_n 2, 1) := by decide +kernel
theorem dX12_taken_24 : decode cX12_taken 24 = .ok (.i2l, 1) := by decide +kernel
theorem dX12_taken_25 : decode cX12_taken 25 = .ok (.lconst 0, 1) := by decide +kernel
theorem dX12_taken_26 : decode cX12_taken 26 = .ok (.aload_n 0, 1) := by decide +kernel
theorem dX12_taken_27 : decode cX12_taken 27 = .ok (.getfield 44, 3) := by decide +kernel
theorem dX12_taken_30 : decode cX12_taken 30 = .ok (.iload_n 1, 1) := by decide +kernel
theorem dX12_taken_31 : decode cX12_taken 31 = .ok (.iaload, 1) := by decide +kernel
theorem dX12_taken_32 : decode cX12_taken 32 = .ok (.iconst 1, 1) := by decide +kernel
theorem dX12_taken_33 : decode cX12_taken 33 = .ok (.isub, 1) := by decide +kernel
theorem dX12_taken_34 : decode cX12_taken 34 = .ok (.i2l, 1) := by decide +kernel
theorem dX12_taken_35 : decode cX12_taken 35 = .ok (.invokestatic 125, 3) := by decide +kernel
theorem dX12_taken_38 : decode cX12_taken 38 = .ok (.ifCond .ne 6, 3) := by decide +kernel
theorem dX12_taken_41 : decode cX12_taken 41 = .ok (.bipush (-11), 2) := by decide +kernel
theorem dX12_taken_43 : decode cX12_taken 43 = .ok (.ireturn, 1) := by decide +kernel
theorem dX12_taken_44 : decode cX12_taken 44 = .ok (.aload_n 0, 1) := by decide +kernel
theorem dX12_taken_45 : decode cX12_taken 45 = .ok (.getfield 47, 3) := by decide +kernel
theorem dX12_taken_48 : decode cX12_taken 48 = .ok (.sipush 200, 3) := by decide +kernel
theorem dX12_taken_51 : decode cX12_taken 51 = .ok (.iload_n 1, 1) := by decide +kernel
theorem dX12_taken_52 : decode cX12_taken 52 = .ok (.imul, 1) := by decide +kernel
theorem dX12_taken_53 : decode cX12_taken 53 = .ok (.iload_n 2, 1) := by decide +kernel
theorem dX12_taken_54 : decode cX12_taken 54 = .ok (.iadd, 1) := by decide +kernel
theorem dX12_taken_55 : decode cX12_taken 55 = .ok (.iaload, 1) := by decide +kernel
theorem dX12_taken_56 : decode cX12_taken 56 = .ok (.istore 4, 2) := by decide +kernel
theorem dX12_taken_58 : decode cX12_taken 58 = .ok (.iload 4, 2) := by decide +kernel
theorem dX12_taken_60 : decode cX12_taken 60 = .ok (.iconst (-1), 1) := by decide +kernel
theorem dX12_taken_61 : decode cX12_taken 61 = .ok (.if_icmp .eq 19, 3) := by decide +kernel
theorem dX12_taken_64 : decode cX12_taken 64 = .ok (.iload 4, 2) := by decide +kernel
theorem dX12_taken_66 : decode cX12_taken 66 = .ok (.iload_n 3, 1) := by decide +kernel
theorem dX12_taken_67 : decode cX12_taken 67 = .ok (.if_icmp .eq 13, 3) := by decide +kernel
theorem dX12_taken_70 : decode cX12_taken 70 = .ok (.iload 4, 2) := by decide +kernel
theorem dX12_taken_72 : decode cX12_taken 72 = .ok (.invokestatic 451, 3) := by decide +kernel
theorem dX12_taken_75 : decode cX12_taken 75 = .ok (.istore 4, 2) := by decide +kernel
theorem dX12_taken_77 : decode cX12_taken 77 = .ok (.goto (-19), 3) := by decide +kernel
theorem dX12_taken_80 : decode cX12_taken 80 = .ok (.iload 4, 2) := by decide +kernel
theorem dX12_taken_82 : decode cX12_taken 82 = .ok (.iload_n 3, 1) := by decide +kernel
theorem dX12_taken_83 : decode cX12_taken 83 = .ok (.if_icmp .ne 7, 3) := by decide +kernel
theorem dX12_taken_86 : decode cX12_taken 86 = .ok (.iload_n 2, 1) := by decide +kernel
theorem dX12_taken_87 : decode cX12_taken 87 = .ok (.goto 5, 3) := by decide +kernel
theorem dX12_taken_90 : decode cX12_taken 90 = .ok (.bipush (-13), 2) := by decide +kernel
theorem dX12_taken_92 : decode cX12_taken 92 = .ok (.ireturn, 1) := by decide +kernel
set_option maxHeartbeats 4000000 in
set_option maxRecDepth 100000 in
theorem c_X12_in {l : Launch} {w : Wd} (hW : HWd w shM rM 29) (σ : St) (a1 : Int64) (a2 : Int64) (a3 : Int64)  : ∀ res, f_X12_in a1 a2 a3 = some res → MtI l yX12_in cX12_in 6 .boolean 0 0 w [.long a1, .long a2, .long a3] σ (res, σ) := by
  refine mt_P (by decide) rfl hW (fun X hl0 hC hret => ?_)
  show RF X w (Aw w (xs_ X).heap.size) 6 (fun r => QI X w (r, σ)) (f_X12_in a1 a2 a3) 0 [(0, .long a1), (2, .long a2), (4, .long a3)] [] σ
  unfold f_X12_in
  refine r_lload_n hC dX12_in_0 rfl 0 rfl ?_
  refine r_lload_n hC dX12_in_1 rfl 1 rfl ?_
  refine r_lcmp_lt hC 17 dX12_in_2 dX12_in_3 (by decide) (fun c1 => ?_) (fun c1 => ?_)
  · refine r_iconst (v := 0) hC dX12_in_17 (by decide) ?_
    exact r_iretP hC hret rfl dX12_in_18
  · refine r_lload_n hC dX12_in_6 rfl 0 rfl ?_
    refine r_lload hC dX12_in_7 2 rfl ?_
    refine r_lcmp_gt hC 17 dX12_in_9 dX12_in_10 (by decide) (fun c2 => ?_) (fun c2 => ?_)
    · refine r_iconst (v := 0) hC dX12_in_17 (by decide) ?_
      exact r_iretP hC hret rfl dX12_in_18
    · refine r_iconst (v := 1) hC dX12_in_13 (by decide) ?_
      refine r_goto hC 18 dX12_in_14 (by decide) ?_
      exact r_iretP hC hret rfl dX12_in_18
set_option maxHeartbeats 4000000 in
set_option maxRecDepth 100000 in
theorem w_X12_spell_l3 {X : Mc} {w : Wd} (hC : Cok X w (Aw w (xs_ X).heap.size) yX12_spell.cls cX12_spell 5 0 0 shM rM 29) (hret : (xmeth X).sig.returnType = none) (a2 : Int32) (a3 : Int64) (σ : St)     : ∀ (n : Nat) (x1 : Int32) (σ2 : St), RF X w (Aw w (xs_ X).heap.size) 5 (QV X w) (f_X12_spell_l3 a2 a3 n x1 σ2) 3 [(0, .ref (wA w 0)), (1, .int a2), (2, .long a3), (4, .int x1)] [] σ2 := by
  intro n
  induction n with
  | zero => intro x1 σ2; rw [f_X12_spell_l3]; exact r_none
  | succ n ih =>
    intro x1 σ2
    rw [f_X12_spell_l3]
    refine r_iload hC dX12_spell_3 3 rfl ?_
    refine r_bipush (v := 8) hC dX12_spell_5 (by decide) ?_
    refine r_icmp_ge hC 40 dX12_spell_7 (by decide) (fun c3 => ?_) (fun c3 => ?_)
    · exact r_vret hC hret dX12_spell_40
    · refine r_aload_n hC dX12_spell_10 rfl 0 rfl ?_
      refine r_getR hC clX12 0 1 1 rfl rfl rfl (hC.n rfl) rfl lf_X12_13 dX12_spell_11 ?_
      refine r_iload_n hC dX12_spell_14 rfl 1 rfl ?_
      refine r_iload hC dX12_spell_15 3 rfl ?_
      refine r_iadd hC dX12_spell_17 ?_
      refine r_lload_n hC dX12_spell_18 rfl 2 rfl ?_
      refine r_bipush (v := 56) hC dX12_spell_19 (by decide) ?_
      refine r_bipush (v := 8) hC dX12_spell_21 (by decide) ?_
      refine r_iload hC dX12_spell_23 3 rfl ?_
      refine r_imul hC dX12_spell_25 ?_
      refine r_isub hC dX12_spell_26 ?_
      refine r_lshr hC dX12_spell_27 ?_
      refine r_ldc2 (v := 255) hC lc_X12_120 dX12_spell_28 ?_
      refine r_land hC dX12_spell_31 ?_
      refine r_l2i hC dX12_spell_32 ?_
      refine r_gd (fun g4 => ?_)
      refine r_iast hC 1 960 rfl rfl g4 dX12_spell_33 ?_
      refine r_nmS (fun σ5 => ?_)
      refine r_iinc (v := x1 + 1) (lv' := [(4, .int (x1 + 1)), (0, .ref (wA w 0)), (1, .int a2), (2, .long a3)]) hC dX12_spell_34 3 rfl rfl (by decide) rfl ?_
      refine r_goto hC 3 dX12_spell_37 (by decide) ?_
      exact r_lv [1, 2, 3, 0] rfl (ih (x1 + 1) σ5)
set_option maxHeartbeats 4000000 in
set_option maxRecDepth 100000 in
theorem c_X12_spell {l : Launch} {w : Wd} (hW : HWd w shM rM 29) (σ : St) (a2 : Int32) (a3 : Int64)  : ∀ res, f_X12_spell σ a2 a3 = some res → MtV l yX12_spell cX12_spell 5 0 0 w [.ref (wA w 0), .int a2, .long a3] σ res := by
  refine mt_V (by decide) rfl hW (fun X hl0 hC hret => ?_)
  show RF X w (Aw w (xs_ X).heap.size) 5 (QV X w) (f_X12_spell σ a2 a3) 0 [(0, .ref (wA w 0)), (1, .int a2), (2, .long a3)] [] σ
  unfold f_X12_spell
  refine r_iconst (v := 0) hC dX12_spell_0 (by decide) ?_
  refine r_istore (lv' := [(4, .int 0), (0, .ref (wA w 0)), (1, .int a2), (2, .long a3)]) hC dX12_spell_1 (by decide) rfl ?_
  refine r_lv [1, 2, 3, 0] rfl ?_
  exact w_X12_spell_l3 hC hret a2 a3 σ FU 0 σ
set_option maxHeartbeats 4000000 in
set_option maxRecDepth 100000 in
theorem c_X12_isRower {l : Launch} {w : Wd} (hW : HWd w shM rM 29) (σ : St) (a2 : Int32)  : ∀ res, f_X12_isRower σ a2 = some res → MtI l yX12_isRower cX12_isRower 2 .boolean 1 25 w [.ref (wA w 0), .int a2] σ (res, σ) := by
  refine mt_P (by decide) rfl hW (fun X hl0 hC hret => ?_)
  show RF X w (Aw w (xs_ X).heap.size) 2 (fun r => QI X w (r, σ)) (f_X12_isRower σ a2) 0 [(0, .ref (wA w 0)), (1, .int a2)] [] σ
  unfold f_X12_isRower
  refine r_iload_n hC dX12_isRower_0 rfl 1 rfl ?_
  refine r_i2l hC dX12_isRower_1 ?_
  refine r_lconst (v := 0) hC dX12_isRower_2 (by decide) ?_
  refine r_aload_n hC dX12_isRower_3 rfl 0 rfl ?_
  refine r_getI hC clX12 0 11 rfl rfl (hC.n rfl) rfl lf_X12_122 dX12_isRower_4 ?_
  refine r_nmI (fun v1 => ?_)
  refine r_iconst (v := 1) hC dX12_isRower_7 (by decide) ?_
  refine r_isub hC dX12_isRower_8 ?_
  refine r_i2l hC dX12_isRower_9 ?_
  refine r_callSP hC (st := []) [.long (Int32.toInt64 a2), .long 0, .long (Int32.toInt64 (v1 - 1))] (c_X12_in hC.w σ (Int32.toInt64 a2) 0 (Int32.toInt64 (v1 - 1))) yk_X12_in lm_X12_125 rfl ⟨rfl, rfl⟩ rfl dX12_isRower_10 (fun v2 => ?_)
  refine r_gd (fun g3 => ?_)
  exact r_iretP hC hret (by rcases g3 with h9 | h9 <;> rw [h9] <;> rfl) dX12_isRower_13
set_option maxHeartbeats 4000000 in
set_option maxRecDepth 100000 in
theorem c_X12_isSeat {l : Launch} {w : Wd} (hW : HWd w shM rM 29) (σ : St) (a1 : Int32)  : ∀ res, f_X12_isSeat a1 = some res → MtI l yX12_isSeat cX12_isSeat 1 .boolean 1 25 w [.int a1] σ (res, σ) := by
  refine mt_P (by decide) rfl hW (fun X hl0 hC hret => ?_)
  show RF X w (Aw w (xs_ X).heap.size) 1 (fun r => QI X w (r, σ)) (f_X12_isSeat a1) 0 [(0, .int a1)] [] σ
  unfold f_X12_isSeat
  refine r_iload_n hC dX12_isSeat_0 rfl 0 rfl ?_
  refine r_i2l hC dX12_isSeat_1 ?_
  refine r_lconst (v := 0) hC dX12_isSeat_2 (by decide) ?_
  refine r_ldc2 (v := 7) hC lc_X12_129 dX12_isSeat_3 ?_
  refine r_callSP hC (st := []) [.long (Int32.toInt64 a1), .long 0, .long 7] (c_X12_in hC.w σ (Int32.toInt64 a1) 0 7) yk_X12_in lm_X12_125 rfl ⟨rfl, rfl⟩ rfl dX12_isSeat_6 (fun v1 => ?_)
  refine r_gd (fun g2 => ?_)
  exact r_iretP hC hret (by rcases g2 with h9 | h9 <;> rw [h9] <;> rfl) dX12_isSeat_9
set_option maxHeartbeats 4000000 in
set_option maxRecDepth 100000 in
theorem c_X12_rower {l : Launch} {w : Wd} (hW : HWd w shM rM 29) (σ : St) (a2 : Int32) (a3 : Int32) (a4 : Int32) (a5 : Int32)  : ∀ res, f_X12_rower σ a2 a3 a4 a5 = some res → MtI l yX12_rower cX12_rower 5 .int 1 25 w [.ref (wA w 0), .int a2, .int a3, .int a4, .int a5] σ res := by
  refine mt_I (by decide) rfl hW (fun X hl0 hC hret => ?_)
  show RF X w (Aw w (xs_ X).heap.size) 5 (QI X w) (f_X12_rower σ a2 a3 a4 a5) 0 [(0, .ref (wA w 0)), (1, .int a2), (2, .int a3), (3, .int a4), (4, .int a5)] [] σ
  unfold f_X12_rower
  refine r_iload_n hC dX12_rower_0 rfl 1 rfl ?_
  refine r_i2l hC dX12_rower_1 ?_
  refine r_ldc2 (v := 40) hC lc_X12_131 dX12_rower_2 ?_
  refine r_ldc2 (v := 120) hC lc_X12_133 dX12_rower_5 ?_
  refine r_callSP hC (st := []) [.long (Int32.toInt64 a2), .long 40, .long 120] (c_X12_in hC.w σ (Int32.toInt64 a2) 40 120) yk_X12_in lm_X12_125 rfl ⟨rfl, rfl⟩ rfl dX12_rower_8 (fun v1 => ?_)
  refine r_if_eq hC 51 dX12_rower_11 (by decide) (fun c2 => ?_) (fun c2 => ?_)
  · refine r_bipush (v := (-2)) hC dX12_rower_51 (by decide) ?_
    exact r_iret hC hret rfl dX12_rower_53
  · refine r_iload_n hC dX12_rower_14 rfl 2 rfl ?_
    refine r_i2l hC dX12_rower_15 ?_
    refine r_lconst (v := 1) hC dX12_rower_16 (by decide) ?_
    refine r_ldc2 (v := 99) hC lc_X12_135 dX12_rower_17 ?_
    refine r_callSP hC (st := []) [.long (Int32.toInt64 a3), .long 1, .long 99] (c_X12_in hC.w σ (Int32.toInt64 a3) 1 99) yk_X12_in lm_X12_125 rfl ⟨rfl, rfl⟩ rfl dX12_rower_20 (fun v3 => ?_)
    refine r_if_eq hC 51 dX12_rower_23 (by decide) (fun c4 => ?_) (fun c4 => ?_)
    · refine r_bipush (v := (-2)) hC dX12_rower_51 (by decide) ?_
      exact r_iret hC hret rfl dX12_rower_53
    · refine r_iload_n hC dX12_rower_26 rfl 3 rfl ?_
      refine r_i2l hC dX12_rower_27 ?_
      refine r_lconst (v := 0) hC dX12_rower_28 (by decide) ?_
      refine r_ldc2 (v := 9999) hC lc_X12_137 dX12_rower_29 ?_
      refine r_callSP hC (st := []) [.long (Int32.toInt64 a4), .long 0, .long 9999] (c_X12_in hC.w σ (Int32.toInt64 a4) 0 9999) yk_X12_in lm_X12_125 rfl ⟨rfl, rfl⟩ rfl dX12_rower_32 (fun v5 => ?_)
      refine r_if_eq hC 51 dX12_rower_35 (by decide) (fun c6 => ?_) (fun c6 => ?_)
      · refine r_bipush (v := (-2)) hC dX12_rower_51 (by decide) ?_
        exact r_iret hC hret rfl dX12_rower_53
      · refine r_iload hC dX12_rower_38 4 rfl ?_
        refine r_i2l hC dX12_rower_40 ?_
        refine r_lconst (v := 0) hC dX12_rower_41 (by decide) ?_
        refine r_ldc2 (v := 99) hC lc_X12_135 dX12_rower_42 ?_
        refine r_callSP hC (st := []) [.long (Int32.toInt64 a5), .long 0, .long 99] (c_X12_in hC.w σ (Int32.toInt64 a5) 0 99) yk_X12_in lm_X12_125 rfl ⟨rfl, rfl⟩ rfl dX12_rower_45 (fun v7 => ?_)
        refine r_if_ne hC 54 dX12_rower_48 (by decide) (fun c8 => ?_) (fun c8 => ?_)
        · refine r_aload_n hC dX12_rower_54 rfl 0 rfl ?_
          refine r_getI hC clX12 0 11 rfl rfl (hC.n rfl) rfl lf_X12_122 dX12_rower_55 ?_
          refine r_nmI (fun v9 => ?_)
          refine r_bipush (v := 16) hC dX12_rower_58 (by decide) ?_
          refine r_icmp_ne hC 66 dX12_rower_60 (by decide) (fun c10 => ?_) (fun c10 => ?_)
          · refine r_aload_n hC dX12_rower_66 rfl 0 rfl ?_
            refine r_getR hC clX12 0 7 4 rfl rfl rfl (hC.n rfl) rfl lf_X12_23 dX12_rower_67 ?_
            refine r_aload_n hC dX12_rower_70 rfl 0 rfl ?_
            refine r_getI hC clX12 0 11 rfl rfl (hC.n rfl) rfl lf_X12_122 dX12_rower_71 ?_
            refine r_nmI (fun v11 => ?_)
            refine r_iload_n hC dX12_rower_74 rfl 1 rfl ?_
            refine r_gd (fun g12 => ?_)
            refine r_iast hC 4 16 rfl rfl g12 dX12_rower_75 ?_
            refine r_nmS (fun σ13 => ?_)
            refine r_aload_n hC dX12_rower_76 rfl 0 rfl ?_
            refine r_getR hC clX12 0 8 5 rfl rfl rfl (hC.n rfl) rfl lf_X12_26 dX12_rower_77 ?_
            refine r_aload_n hC dX12_rower_80 rfl 0 rfl ?_
            refine r_getI hC clX12 0 11 rfl rfl (hC.n rfl) rfl lf_X12_122 dX12_rower_81 ?_
            refine r_nmI (fun v14 => ?_)
            refine r_iload_n hC dX12_rower_84 rfl 2 rfl ?_
            refine r_gd (fun g15 => ?_)
            refine r_iast hC 5 16 rfl rfl g15 dX12_rower_85 ?_
            refine r_nmS (fun σ16 => ?_)
            refine r_aload_n hC dX12_rower_86 rfl 0 rfl ?_
            refine r_getR hC clX12 0 9 6 rfl rfl rfl (hC.n rfl) rfl lf_X12_29 dX12_rower_87 ?_
            refine r_aload_n hC dX12_rower_90 rfl 0 rfl ?_
            refine r_getI hC clX12 0 11 rfl rfl (hC.n rfl) rfl lf_X12_122 dX12_rower_91 ?_
            refine r_nmI (fun v17 => ?_)
            refine r_iload_n hC dX12_rower_94 rfl 3 rfl ?_
            refine r_gd (fun g18 => ?_)
            refine r_iast hC 6 16 rfl rfl g18 dX12_rower_95 ?_
            refine r_nmS (fun σ19 => ?_)
            refine r_aload_n hC dX12_rower_96 rfl 0 rfl ?_
            refine r_getR hC clX12 0 10 7 rfl rfl rfl (hC.n rfl) rfl lf_X12_32 dX12_rower_97 ?_
            refine r_aload_n hC dX12_rower_100 rfl 0 rfl ?_
            refine r_getI hC clX12 0 11 rfl rfl (hC.n rfl) rfl lf_X12_122 dX12_rower_101 ?_
            refine r_nmI (fun v20 => ?_)
            refine r_iload hC dX12_rower_104 4 rfl ?_
            refine r_gd (fun g21 => ?_)
            refine r_iast hC 7 16 rfl rfl g21 dX12_rower_106 ?_
            refine r_nmS (fun σ22 => ?_)
            refine r_aload_n hC dX12_rower_107 rfl 0 rfl ?_
            refine r_dup hC dX12_rower_108 rfl ?_
            refine r_getI hC clX12 0 11 rfl rfl (hC.n rfl) rfl lf_X12_122 dX12_rower_109 ?_
            refine r_nmI (fun v23 => ?_)
            refine r_iconst (v := 1) hC dX12_rower_112 (by decide) ?_
            refine r_iadd hC dX12_rower_113 ?_
            refine r_putI hC clX12 0 11 rfl rfl rfl (hC.n rfl) rfl rfl lf_X12_122 dX12_rower_114 ?_
            refine r_nmS (fun σ24 => ?_)
            refine r_aload_n hC dX12_rower_117 rfl 0 rfl ?_
            refine r_getI hC clX12 0 11 rfl rfl (hC.n rfl) rfl lf_X12_122 dX12_rower_118 ?_
            refine r_nmI (fun v25 => ?_)
            refine r_iconst (v := 1) hC dX12_rower_121 (by decide) ?_
            refine r_isub hC dX12_rower_122 ?_
            exact r_iret hC hret rfl dX12_rower_123
          · refine r_bipush (v := (-4)) hC dX12_rower_63 (by decide) ?_
            exact r_iret hC hret rfl dX12_rower_65
        · refine r_bipush (v := (-2)) hC dX12_rower_51 (by decide) ?_
          exact r_iret hC hret rfl dX12_rower_53
set_option maxHeartbeats 4000000 in
set_option maxRecDepth 100000 in
theorem w_X12_seatOf_l2 {X : Mc} {w : Wd} (hC : Cok X w (Aw w (xs_ X).heap.size) yX12_seatOf.cls cX12_seatOf 3 0 0 shM rM 29) (hret : (xmeth X).sig.returnType = some .int) (σ : St) (a2 : Int32)     : ∀ (n : Nat) (x1 : Int32), RF X w (Aw w (xs_ X).heap.size) 3 (fun r => QI X w (r, σ)) (f_X12_seatOf_l2 σ a2 n x1) 2 [(0, .ref (wA w 0)), (1, .int a2), (2, .int x1)] [] σ := by
  intro n
  induction n with
  | zero => intro x1; rw [f_X12_seatOf_l2]; exact r_none
  | succ n ih =>
    intro x1
    rw [f_X12_seatOf_l2]
    refine r_iload_n hC dX12_seatOf_2 rfl 2 rfl ?_
    refine r_bipush (v := 8) hC dX12_seatOf_3 (by decide) ?_
    refine r_icmp_ge hC 26 dX12_seatOf_5 (by decide) (fun c2 => ?_) (fun c2 => ?_)
    · refine r_iconst (v := (-1)) hC dX12_seatOf_26 (by decide) ?_
      exact r_iretP hC hret rfl dX12_seatOf_27
    · refine r_aload_n hC dX12_seatOf_8 rfl 0 rfl ?_
      refine r_getR hC clX12 0 12 8 rfl rfl rfl (hC.n rfl) rfl lf_X12_35 dX12_seatOf_9 ?_
      refine r_iload_n hC dX12_seatOf_12 rfl 2 rfl ?_
      refine r_gd (fun g3 => ?_)
      refine r_iald hC 8 8 rfl rfl g3 dX12_seatOf_13 ?_
      refine r_nmI (fun v4 => ?_)
      refine r_iload_n hC dX12_seatOf_14 rfl 1 rfl ?_
      refine r_icmp_ne hC 20 dX12_seatOf_15 (by decide) (fun c5 => ?_) (fun c5 => ?_)
      · refine r_iinc (v := x1 + 1) (lv' := [(2, .int (x1 + 1)), (0, .ref (wA w 0)), (1, .int a2)]) hC dX12_seatOf_20 2 rfl rfl (by decide) rfl ?_
        refine r_goto hC 2 dX12_seatOf_23 (by decide) ?_
        exact r_lv [1, 2, 0] rfl (ih (x1 + 1))
      · refine r_iload_n hC dX12_seatOf_18 rfl 2 rfl ?_
        exact r_iretP hC hret rfl dX12_seatOf_19
set_option maxHeartbeats 4000000 in
set_option maxRecDepth 100000 in
theorem c_X12_seatOf {l : Launch} {w : Wd} (hW : HWd w shM rM 29) (σ : St) (a2 : Int32)  : ∀ res, f_X12_seatOf σ a2 = some res → MtI l yX12_seatOf cX12_seatOf 3 .int 0 0 w [.ref (wA w 0), .int a2] σ (res, σ) := by
  refine mt_P (by decide) rfl hW (fun X hl0 hC hret => ?_)
  show RF X w (Aw w (xs_ X).heap.size) 3 (fun r => QI X w (r, σ)) (f_X12_seatOf σ a2) 0 [(0, .ref (wA w 0)), (1, .int a2)] [] σ
  unfold f_X12_seatOf
  refine r_iconst (v := 0) hC dX12_seatOf_0 (by decide) ?_
  refine r_istore_n (lv' := [(2, .int 0), (0, .ref (wA w 0)), (1, .int a2)]) hC dX12_seatOf_1 rfl (by decide) rfl ?_
  refine r_lv [1, 2, 0] rfl ?_
  exact w_X12_seatOf_l2 hC hret σ a2 FU 0
set_option maxHeartbeats 4000000 in
set_option maxRecDepth 100000 in
theorem c_X12_rowerTold {l : Launch} {w : Wd} (hW : HWd w shM rM 29) (σ : St) (a2 : Int32) (a3 : Int32)  : ∀ res, f_X12_rowerTold σ a2 a3 = some res → MtI l yX12_rowerTold cX12_rowerTold 3 .int 2 46 w [.ref (wA w 0), .int a2, .int a3] σ (res, σ) := by
  refine mt_P (by decide) rfl hW (fun X hl0 hC hret => ?_)
  show RF X w (Aw w (xs_ X).heap.size) 3 (fun r => QI X w (r, σ)) (f_X12_rowerTold σ a2 a3) 0 [(0, .ref (wA w 0)), (1, .int a2), (2, .int a3)] [] σ
  unfold f_X12_rowerTold
  refine r_aload_n hC dX12_rowerTold_0 rfl 0 rfl ?_
  refine r_iload_n hC dX12_rowerTold_1 rfl 1 rfl ?_
  refine r_callVP hC (b := 0) (ci := 12) (st := []) [.int a2] rfl (hC.n rfl) rfl rfl (c_X12_isRower hC.w σ a2) yk_X12_isRower lm_X12_139 rfl ⟨rfl, rfl⟩ rfl dX12_rowerTold_2 (fun v1 => ?_)
  refine r_if_ne hC 11 dX12_rowerTold_5 (by decide) (fun c2 => ?_) (fun c2 => ?_)
  · refine r_iload_n hC dX12_rowerTold_11 rfl 2 rfl ?_
    refine r_tab1 (off := 36) hC 48 0 dX12_rowerTold_12 (by decide) (by decide) (by decide) (by decide) ?_ (fun c5 => ?_)
    · refine r_aload_n hC dX12_rowerTold_48 rfl 0 rfl ?_
      refine r_getR hC clX12 0 7 4 rfl rfl rfl (hC.n rfl) rfl lf_X12_23 dX12_rowerTold_49 ?_
      refine r_iload_n hC dX12_rowerTold_52 rfl 1 rfl ?_
      refine r_gd (fun g3 => ?_)
      refine r_iald hC 4 16 rfl rfl g3 dX12_rowerTold_53 ?_
      refine r_nmI (fun v4 => ?_)
      exact r_iretP hC hret rfl dX12_rowerTold_54
    · refine r_tab1 (off := 43) hC 55 1 dX12_rowerTold_12 (by decide) (by decide) (by decide) (by decide) ?_ (fun c8 => ?_)
      · refine r_aload_n hC dX12_rowerTold_55 rfl 0 rfl ?_
        refine r_getR hC clX12 0 8 5 rfl rfl rfl (hC.n rfl) rfl lf_X12_26 dX12_rowerTold_56 ?_
        refine r_iload_n hC dX12_rowerTold_59 rfl 1 rfl ?_
        refine r_gd (fun g6 => ?_)
        refine r_iald hC 5 16 rfl rfl g6 dX12_rowerTold_60 ?_
        refine r_nmI (fun v7 => ?_)
        exact r_iretP hC hret rfl dX12_rowerTold_61
      · refine r_tab1 (off := 50) hC 62 2 dX12_rowerTold_12 (by decide) (by decide) (by decide) (by decide) ?_ (fun c11 => ?_)
        · refine r_aload_n hC dX12_rowerTold_62 rfl 0 rfl ?_
          refine r_getR hC clX12 0 9 6 rfl rfl rfl (hC.n rfl) rfl lf_X12_29 dX12_rowerTold_63 ?_
          refine r_iload_n hC dX12_rowerTold_66 rfl 1 rfl ?_
          refine r_gd (fun g9 => ?_)
          refine r_iald hC 6 16 rfl rfl g9 dX12_rowerTold_67 ?_
          refine r_nmI (fun v10 => ?_)
          exact r_iretP hC hret rfl dX12_rowerTold_68
        · refine r_tab1 (off := 57) hC 69 3 dX12_rowerTold_12 (by decide) (by decide) (by decide) (by decide) ?_ (fun c14 => ?_)
          · refine r_aload_n hC dX12_rowerTold_69 rfl 0 rfl ?_
            refine r_getR hC clX12 0 10 7 rfl rfl rfl (hC.n rfl) rfl lf_X12_32 dX12_rowerTold_70 ?_
            refine r_iload_n hC dX12_rowerTold_73 rfl 1 rfl ?_
            refine r_gd (fun g12 => ?_)
            refine r_iald hC 7 16 rfl rfl g12 dX12_rowerTold_74 ?_
            refine r_nmI (fun v13 => ?_)
            exact r_iretP hC hret rfl dX12_rowerTold_75
          · refine r_tab1 (off := 64) hC 76 4 dX12_rowerTold_12 (by decide) (by decide) (by decide) (by decide) ?_ (fun c16 => ?_)
            · refine r_aload_n hC dX12_rowerTold_76 rfl 0 rfl ?_
              refine r_iload_n hC dX12_rowerTold_77 rfl 1 rfl ?_
              refine r_callVP hC (b := 0) (ci := 12) (st := []) [.int a2] rfl (hC.n rfl) rfl rfl (c_X12_seatOf hC.w σ a2) yk_X12_seatOf lm_X12_143 rfl ⟨rfl, rfl⟩ rfl dX12_rowerTold_78 (fun v15 => ?_)
              exact r_iretP hC hret rfl dX12_rowerTold_81
            · refine r_tabD hC 82 dX12_rowerTold_12 (by have e0 := ne_toInt (a := 0) (by decide) c5; have e1 := ne_toInt (a := 1) (by decide) c8; have e2 := ne_toInt (a := 2) (by decide) c11; have e3 := ne_toInt (a := 3) (by decide) c14; have e4 := ne_toInt (a := 4) (by decide) c16; omega) (by decide) ?_
              refine r_bipush (v := (-5)) hC dX12_rowerTold_82 (by decide) ?_
              exact r_iretP hC hret rfl dX12_rowerTold_84
  · refine r_bipush (v := (-5)) hC dX12_rowerTold_8 (by decide) ?_
    exact r_iretP hC hret rfl dX12_rowerTold_10
set_option maxHeartbeats 4000000 in
set_option maxRecDepth 100000 in
theorem c_X12_sit {l : Launch} {w : Wd} (hW : HWd w shM rM 29) (σ : St) (a2 : Int32) (a3 : Int32)  : ∀ res, f_X12_sit σ a2 a3 = some res → MtI l yX12_sit cX12_sit 5 .int 2 46 w [.ref (wA w 0), .int a2, .int a3] σ res := by
  refine mt_I (by decide) rfl hW (fun X hl0 hC hret => ?_)
  show RF X w (Aw w (xs_ X).heap.size) 5 (QI X w) (f_X12_sit σ a2 a3) 0 [(0, .ref (wA w 0)), (1, .int a2), (2, .int a3)] [] σ
  unfold f_X12_sit
  refine r_iload_n hC dX12_sit_0 rfl 1 rfl ?_
  refine r_callSP hC (st := []) [.int a2] (c_X12_isSeat hC.w σ a2) yk_X12_isSeat lm_X12_147 rfl ⟨rfl, rfl⟩ rfl dX12_sit_1 (fun v1 => ?_)
  refine r_if_eq hC 20 dX12_sit_4 (by decide) (fun c2 => ?_) (fun c2 => ?_)
  · refine r_bipush (v := (-5)) hC dX12_sit_20 (by decide) ?_
    exact r_iret hC hret rfl dX12_sit_22
  · refine r_iload_n hC dX12_sit_7 rfl 2 rfl ?_
    refine r_iconst (v := (-1)) hC dX12_sit_8 (by decide) ?_
    refine r_jn (T := fun (j3 : Option (Int32 × St)) => RF X w (Aw w (xs_ X).heap.size) 5 (QI X w) j3 23 [(0, .ref (wA w 0)), (1, .int a2), (2, .int a3)] [] σ) ?_ (fun j3 hj3 => ?_)
    · refine r_aload_n hC dX12_sit_23 rfl 0 rfl ?_
      refine r_getR hC clX12 0 12 8 rfl rfl rfl (hC.n rfl) rfl lf_X12_35 dX12_sit_24 ?_
      refine r_iload_n hC dX12_sit_27 rfl 1 rfl ?_
      refine r_gd (fun g4 => ?_)
      refine r_iald hC 8 8 rfl rfl g4 dX12_sit_28 ?_
      refine r_nmI (fun v5 => ?_)
      refine r_istore_n (lv' := [(3, .int v5), (0, .ref (wA w 0)), (1, .int a2), (2, .int a3)]) hC dX12_sit_29 rfl (by decide) rfl ?_
      refine r_iload_n hC dX12_sit_30 rfl 3 rfl ?_
      refine r_iconst (v := (-1)) hC dX12_sit_31 (by decide) ?_
      refine r_jn (T := fun (j7 : Int32 → Option (Int32 × St)) => ∀ (t6 : Int32), RF X w (Aw w (xs_ X).heap.size) 5 (QI X w) (j7 t6) 44 [(0, .ref (wA w 0)), (1, .int a2), (2, .int a3), (3, .int v5)] [.int t6] σ) ?_ (fun j7 hj7 => ?_)
      · intro t6
        refine r_istore (lv' := [(4, .int t6), (0, .ref (wA w 0)), (1, .int a2), (2, .int a3), (3, .int v5)]) hC dX12_sit_44 (by decide) rfl ?_
        refine r_iload hC dX12_sit_46 0 rfl ?_
        refine r_iconst (v := (-1)) hC dX12_sit_48 (by decide) ?_
        refine r_jn (T := fun (j9 : St → Option (Int32 × St)) => ∀ (σ8 : St), RF X w (Aw w (xs_ X).heap.size) 5 (QI X w) (j9 σ8) 60 [(0, .ref (wA w 0)), (1, .int a2), (2, .int a3), (3, .int v5)] [] σ8) ?_ (fun j9 hj9 => ?_)
        · intro σ8
          refine r_aload_n hC dX12_sit_60 rfl 0 rfl ?_
          refine r_getR hC clX12 0 12 8 rfl rfl rfl (hC.n rfl) rfl lf_X12_35 dX12_sit_61 ?_
          refine r_iload_n hC dX12_sit_64 rfl 1 rfl ?_
          refine r_iload_n hC dX12_sit_65 rfl 2 rfl ?_
          refine r_gd (fun g10 => ?_)
          refine r_iast hC 8 8 rfl rfl g10 dX12_sit_66 ?_
          refine r_nmS (fun σ11 => ?_)
          refine r_iload_n hC dX12_sit_67 rfl 3 rfl ?_
          exact r_iret hC hret rfl dX12_sit_68
        · refine r_icmp_eq hC 60 dX12_sit_49 (by decide) (fun c12 => ?_) (fun c12 => ?_)
          · exact r_lv [1, 2, 3, 4] rfl (hj9 σ)
          · refine r_aload_n hC dX12_sit_52 rfl 1 rfl ?_
            refine r_getR hC clX12 0 12 8 rfl rfl rfl (hC.n rfl) rfl lf_X12_35 dX12_sit_53 ?_
            refine r_iload hC dX12_sit_56 0 rfl ?_
            refine r_iconst (v := (-1)) hC dX12_sit_58 (by decide) ?_
            refine r_gd (fun g13 => ?_)
            refine r_iast hC 8 8 rfl rfl g13 dX12_sit_59 ?_
            refine r_nmS (fun σ14 => ?_)
            exact r_lv [1, 2, 3, 4] rfl (hj9 σ14)
      · refine r_icmp_ne hC 39 dX12_sit_32 (by decide) (fun c15 => ?_) (fun c15 => ?_)
        · refine r_aload_n hC dX12_sit_39 rfl 1 rfl ?_
          refine r_iload_n hC dX12_sit_40 rfl 3 rfl ?_
          refine r_callVP hC (b := 0) (ci := 12) (st := []) [.int a3] rfl (hC.n rfl) rfl rfl (c_X12_seatOf hC.w σ a3) yk_X12_seatOf lm_X12_143 rfl ⟨rfl, rfl⟩ rfl dX12_sit_41 (fun v16 => ?_)
          exact r_lv [1, 2, 3, 0] rfl (hj7 v16)
        · refine r_iconst (v := (-1)) hC dX12_sit_35 (by decide) ?_
          refine r_goto hC 44 dX12_sit_36 (by decide) ?_
          exact r_lv [1, 2, 3, 0] rfl (hj7 (-1))
    · refine r_icmp_eq hC 23 dX12_sit_9 (by decide) (fun c17 => ?_) (fun c17 => ?_)
      · exact r_lv [0, 1, 2] rfl hj3
      · refine r_aload_n hC dX12_sit_12 rfl 0 rfl ?_
        refine r_iload_n hC dX12_sit_13 rfl 2 rfl ?_
        refine r_callVP hC (b := 0) (ci := 12) (st := []) [.int a3] rfl (hC.n rfl) rfl rfl (c_X12_isRower hC.w σ a3) yk_X12_isRower lm_X12_139 rfl ⟨rfl, rfl⟩ rfl dX12_sit_14 (fun v18 => ?_)
        refine r_if_ne hC 23 dX12_sit_17 (by decide) (fun c19 => ?_) (fun c19 => ?_)
        · exact r_lv [0, 1, 2] rfl hj3
        · refine r_bipush (v := (-5)) hC dX12_sit_20 (by decide) ?_
          exact r_iret hC hret rfl dX12_sit_22
set_option maxHeartbeats 4000000 in
set_option maxRecDepth 100000 in
theorem c_X12_rig {l : Launch} {w : Wd} (hW : HWd w shM rM 29) (σ : St) (a2 : Int32) (a3 : Int32) (a4 : Int32)  : ∀ res, f_X12_rig σ a2 a3 a4 = some res → MtI l yX12_rig cX12_rig 5 .int 2 45 w [.ref (wA w 0), .int a2, .int a3, .int a4] σ res := by
  refine mt_I (by decide) rfl hW (fun X hl0 hC hret => ?_)
  show RF X w (Aw w (xs_ X).heap.size) 5 (QI X w) (f_X12_rig σ a2 a3 a4) 0 [(0, .ref (wA w 0)), (1, .int a2), (2, .int a3), (3, .int a4)] [] σ
  unfold f_X12_rig
  refine r_iload_n hC dX12_rig_0 rfl 1 rfl ?_
  refine r_callSP hC (st := []) [.int a2] (c_X12_isSeat hC.w σ a2) yk_X12_isSeat lm_X12_147 rfl ⟨rfl, rfl⟩ rfl dX12_rig_1 (fun v1 => ?_)
  refine r_if_eq hC 38 dX12_rig_4 (by decide) (fun c2 => ?_) (fun c2 => ?_)
  · refine r_bipush (v := (-2)) hC dX12_rig_38 (by decide) ?_
    exact r_iret hC hret rfl dX12_rig_40
  · refine r_iload_n hC dX12_rig_7 rfl 2 rfl ?_
    refine r_i2l hC dX12_rig_8 ?_
    refine r_lconst (v := 0) hC dX12_rig_9 (by decide) ?_
    refine r_lconst (v := 1) hC dX12_rig_10 (by decide) ?_
    refine r_callSP hC (st := []) [.long (Int32.toInt64 a3), .long 0, .long 1] (c_X12_in hC.w σ (Int32.toInt64 a3) 0 1) yk_X12_in lm_X12_125 rfl ⟨rfl, rfl⟩ rfl dX12_rig_11 (fun v3 => ?_)
    refine r_if_eq hC 38 dX12_rig_14 (by decide) (fun c4 => ?_) (fun c4 => ?_)
    · refine r_bipush (v := (-2)) hC dX12_rig_38 (by decide) ?_
      exact r_iret hC hret rfl dX12_rig_40
    · refine r_iload_n hC dX12_rig_17 rfl 3 rfl ?_
      refine r_i2l hC dX12_rig_18 ?_
      refine r_iload_n hC dX12_rig_19 rfl 2 rfl ?_
      refine r_i2l hC dX12_rig_20 ?_
      refine r_iload_n hC dX12_rig_21 rfl 2 rfl ?_
      refine r_jn (T := fun (j6 : Int64 → Option (Int32 × St)) => ∀ (t5 : Int64), RF X w (Aw w (xs_ X).heap.size) 5 (QI X w) (j6 t5) 32 [(0, .ref (wA w 0)), (1, .int a2), (2, .int a3), (3, .int a4)] [.long t5, .long (Int32.toInt64 a3), .long (Int32.toInt64 a4)] σ) ?_ (fun j6 hj6 => ?_)
      · intro t5
        refine r_callSP hC (st := []) [.long (Int32.toInt64 a4), .long (Int32.toInt64 a3), .long t5] (c_X12_in hC.w σ (Int32.toInt64 a4) (Int32.toInt64 a3) t5) yk_X12_in lm_X12_125 rfl ⟨rfl, rfl⟩ rfl dX12_rig_32 (fun v7 => ?_)
        refine r_if_ne hC 41 dX12_rig_35 (by decide) (fun c8 => ?_) (fun c8 => ?_)
        · refine r_iload_n hC dX12_rig_41 rfl 2 rfl ?_
          refine r_jn (T := fun (j10 : Int32 → Option (Int32 × St)) => ∀ (t9 : Int32), RF X w (Aw w (xs_ X).heap.size) 5 (QI X w) (j10 t9) 60 [(0, .ref (wA w 0)), (1, .int a2), (2, .int a3), (3, .int a4)] [.int t9] σ) ?_ (fun j10 hj10 => ?_)
          · intro t9
            refine r_istore (lv' := [(4, .int t9), (0, .ref (wA w 0)), (1, .int a2), (2, .int a3), (3, .int a4)]) hC dX12_rig_60 (by decide) rfl ?_
            refine r_iload_n hC dX12_rig_62 rfl 3 rfl ?_
            refine r_if_ne hC 76 dX12_rig_63 (by decide) (fun c11 => ?_) (fun c11 => ?_)
            · refine r_aload_n hC dX12_rig_76 rfl 1 rfl ?_
              refine r_getR hC clX12 0 14 10 rfl rfl rfl (hC.n rfl) rfl lf_X12_41 dX12_rig_77 ?_
              refine r_iload_n hC dX12_rig_80 rfl 2 rfl ?_
              refine r_iload_n hC dX12_rig_81 rfl 4 rfl ?_
              refine r_gd (fun g12 => ?_)
              refine r_iast hC 10 8 rfl rfl g12 dX12_rig_82 ?_
              refine r_nmS (fun σ13 => ?_)
              refine r_iload hC dX12_rig_83 0 rfl ?_
              exact r_iret hC hret rfl dX12_rig_85
            · refine r_aload_n hC dX12_rig_66 rfl 1 rfl ?_
              refine r_getR hC clX12 0 13 9 rfl rfl rfl (hC.n rfl) rfl lf_X12_38 dX12_rig_67 ?_
              refine r_iload_n hC dX12_rig_70 rfl 2 rfl ?_
              refine r_iload_n hC dX12_rig_71 rfl 4 rfl ?_
              refine r_gd (fun g14 => ?_)
              refine r_iast hC 9 8 rfl rfl g14 dX12_rig_72 ?_
              refine r_nmS (fun σ15 => ?_)
              refine r_goto hC 83 dX12_rig_73 (by decide) ?_
              refine r_iload hC dX12_rig_83 0 rfl ?_
              exact r_iret hC hret rfl dX12_rig_85
          · refine r_if_ne hC 54 dX12_rig_42 (by decide) (fun c16 => ?_) (fun c16 => ?_)
            · refine r_aload_n hC dX12_rig_54 rfl 0 rfl ?_
              refine r_getR hC clX12 0 14 10 rfl rfl rfl (hC.n rfl) rfl lf_X12_41 dX12_rig_55 ?_
              refine r_iload_n hC dX12_rig_58 rfl 1 rfl ?_
              refine r_gd (fun g17 => ?_)
              refine r_iald hC 10 8 rfl rfl g17 dX12_rig_59 ?_
              refine r_nmI (fun v18 => ?_)
              exact r_lv [0, 1, 2, 3] rfl (hj10 v18)
            · refine r_aload_n hC dX12_rig_45 rfl 0 rfl ?_
              refine r_getR hC clX12 0 13 9 rfl rfl rfl (hC.n rfl) rfl lf_X12_38 dX12_rig_46 ?_
              refine r_iload_n hC dX12_rig_49 rfl 1 rfl ?_
              refine r_gd (fun g19 => ?_)
              refine r_iald hC 9 8 rfl rfl g19 dX12_rig_50 ?_
              refine r_nmI (fun v20 => ?_)
              refine r_goto hC 60 dX12_rig_51 (by decide) ?_
              exact r_lv [0, 1, 2, 3] rfl (hj10 v20)
        · refine r_bipush (v := (-2)) hC dX12_rig_38 (by decide) ?_
          exact r_iret hC hret rfl dX12_rig_40
      · refine r_if_ne hC 29 dX12_rig_22 (by decide) (fun c21 => ?_) (fun c21 => ?_)
        · refine r_ldc2 (v := 9) hC lc_X12_150 dX12_rig_29 ?_
          exact r_lv [0, 1, 2, 3] rfl (hj6 9)
        · refine r_lconst (v := 1) hC dX12_rig_25 (by decide) ?_
          refine r_goto hC 32 dX12_rig_26 (by decide) ?_
          exact r_lv [0, 1, 2, 3] rfl (hj6 1)
set_option maxHeartbeats 4000000 in
set_option maxRecDepth 100000 in
theorem c_X12_water {l : Launch} {w : Wd} (hW : HWd w shM rM 29) (σ : St) (a2 : Int32) (a3 : Int32)  : ∀ res, f_X12_water σ a2 a3 = some res → MtI l yX12_water cX12_water 4 .int 1 25 w [.ref (wA w 0), .int a2, .int a3] σ res := by
  refine mt_I (by decide) rfl hW (fun X hl0 hC hret => ?_)
  show RF X w (Aw w (xs_ X).heap.size) 4 (QI X w) (f_X12_water σ a2 a3) 0 [(0, .ref (wA w 0)), (1, .int a2), (2, .int a3)] [] σ
  unfold f_X12_water
  refine r_iload_n hC dX12_water_0 rfl 1 rfl ?_
  refine r_i2l hC dX12_water_1 ?_
  refine r_lconst (v := 0) hC dX12_water_2 (by decide) ?_
  refine r_lconst (v := 1) hC dX12_water_3 (by decide) ?_
  refine r_callSP hC (st := []) [.long (Int32.toInt64 a2), .long 0, .long 1] (c_X12_in hC.w σ (Int32.toInt64 a2) 0 1) yk_X12_in lm_X12_125 rfl ⟨rfl, rfl⟩ rfl dX12_water_4 (fun v1 => ?_)
  refine r_if_eq hC 42 dX12_water_7 (by decide) (fun c2 => ?_) (fun c2 => ?_)
  · refine r_sipush (v := (-1000)) hC dX12_water_42 (by decide) ?_
    exact r_iret hC hret rfl dX12_water_45
  · refine r_iload_n hC dX12_water_10 rfl 2 rfl ?_
    refine r_i2l hC dX12_water_11 ?_
    refine r_iload_n hC dX12_water_12 rfl 1 rfl ?_
    refine r_jn (T := fun (j4 : Int64 → Option (Int32 × St)) => ∀ (t3 : Int64), RF X w (Aw w (xs_ X).heap.size) 4 (QI X w) (j4 t3) 23 [(0, .ref (wA w 0)), (1, .int a2), (2, .int a3)] [.long t3, .long (Int32.toInt64 a3)] σ) ?_ (fun j4 hj4 => ?_)
    · intro t3
      refine r_iload_n hC dX12_water_23 rfl 1 rfl ?_
      refine r_jn (T := fun (j6 : Int64 → Option (Int32 × St)) => ∀ (t5 : Int64), RF X w (Aw w (xs_ X).heap.size) 4 (QI X w) (j6 t5) 36 [(0, .ref (wA w 0)), (1, .int a2), (2, .int a3)] [.long t5, .long t3, .long (Int32.toInt64 a3)] σ) ?_ (fun j6 hj6 => ?_)
      · intro t5
        refine r_callSP hC (st := []) [.long (Int32.toInt64 a3), .long t3, .long t5] (c_X12_in hC.w σ (Int32.toInt64 a3) t3 t5) yk_X12_in lm_X12_125 rfl ⟨rfl, rfl⟩ rfl dX12_water_36 (fun v7 => ?_)
        refine r_if_ne hC 46 dX12_water_39 (by decide) (fun c8 => ?_) (fun c8 => ?_)
        · refine r_iload_n hC dX12_water_46 rfl 1 rfl ?_
          refine r_jn (T := fun (j10 : Int32 → Option (Int32 × St)) => ∀ (t9 : Int32), RF X w (Aw w (xs_ X).heap.size) 4 (QI X w) (j10 t9) 61 [(0, .ref (wA w 0)), (1, .int a2), (2, .int a3)] [.int t9] σ) ?_ (fun j10 hj10 => ?_)
          · intro t9
            refine r_istore_n (lv' := [(3, .int t9), (0, .ref (wA w 0)), (1, .int a2), (2, .int a3)]) hC dX12_water_61 rfl (by decide) rfl ?_
            refine r_iload_n hC dX12_water_62 rfl 2 rfl ?_
            refine r_if_ne hC 74 dX12_water_63 (by decide) (fun c11 => ?_) (fun c11 => ?_)
            · refine r_aload_n hC dX12_water_74 rfl 1 rfl ?_
              refine r_iload_n hC dX12_water_75 rfl 3 rfl ?_
              refine r_putI hC clX12 0 16 rfl rfl rfl (hC.n rfl) rfl rfl lf_X12_156 dX12_water_76 ?_
              refine r_nmS (fun σ12 => ?_)
              refine r_iload_n hC dX12_water_79 rfl 0 rfl ?_
              exact r_iret hC hret rfl dX12_water_80
            · refine r_aload_n hC dX12_water_66 rfl 1 rfl ?_
              refine r_iload_n hC dX12_water_67 rfl 3 rfl ?_
              refine r_putI hC clX12 0 15 rfl rfl rfl (hC.n rfl) rfl rfl lf_X12_117 dX12_water_68 ?_
              refine r_nmS (fun σ13 => ?_)
              refine r_goto hC 79 dX12_water_71 (by decide) ?_
              refine r_iload_n hC dX12_water_79 rfl 0 rfl ?_
              exact r_iret hC hret rfl dX12_water_80
          · refine r_if_ne hC 57 dX12_water_47 (by decide) (fun c14 => ?_) (fun c14 => ?_)
            · refine r_aload_n hC dX12_water_57 rfl 0 rfl ?_
              refine r_getI hC clX12 0 16 rfl rfl (hC.n rfl) rfl lf_X12_156 dX12_water_58 ?_
              refine r_nmI (fun v15 => ?_)
              exact r_lv [0, 1, 2] rfl (hj10 v15)
            · refine r_aload_n hC dX12_water_50 rfl 0 rfl ?_
              refine r_getI hC clX12 0 15 rfl rfl (hC.n rfl) rfl lf_X12_117 dX12_water_51 ?_
              refine r_nmI (fun v16 => ?_)
              refine r_goto hC 61 dX12_water_54 (by decide) ?_
              exact r_lv [0, 1, 2] rfl (hj10 v16)
        · refine r_sipush (v := (-1000)) hC dX12_water_42 (by decide) ?_
          exact r_iret hC hret rfl dX12_water_45
      · refine r_if_ne hC 33 dX12_water_24 (by decide) (fun c17 => ?_) (fun c17 => ?_)
        · refine r_ldc2 (v := 99) hC lc_X12_135 dX12_water_33 ?_
          exact r_lv [0, 1, 2] rfl (hj6 99)
        · refine r_ldc2 (v := 999) hC lc_X12_154 dX12_water_27 ?_
          refine r_goto hC 36 dX12_water_30 (by decide) ?_
          exact r_lv [0, 1, 2] rfl (hj6 999)
    · refine r_if_ne hC 20 dX12_water_13 (by decide) (fun c18 => ?_) (fun c18 => ?_)
      · refine r_ldc2 (v := (-99)) hC lc_X12_152 dX12_water_20 ?_
        exact r_lv [0, 1, 2] rfl (hj4 (-99))
      · refine r_lconst (v := 1) hC dX12_water_16 (by decide) ?_
        refine r_goto hC 23 dX12_water_17 (by decide) ?_
        exact r_lv [0, 1, 2] rfl (hj4 1)
set_option maxHeartbeats 4000000 in
set_option maxRecDepth 100000 in
theorem c_X12_pullOf {l : Launch} {w : Wd} (hW : HWd w shM rM 29) (σ : St) (a1 : Int32) (a2 : Int32) (a3 : Int32)  : ∀ res, f_X12_pullOf a1 a2 a3 = some res → MtI l yX12_pullOf cX12_pullOf 4 .int 0 0 w [.int a1, .int a2, .int a3] σ (res, σ) := by
  refine mt_P (by decide) rfl hW (fun X hl0 hC hret => ?_)
  show RF X w (Aw w (xs_ X).heap.size) 4 (fun r => QI X w (r, σ)) (f_X12_pullOf a1 a2 a3) 0 [(0, .int a1), (1, .int a2), (2, .int a3)] [] σ
  unfold f_X12_pullOf
  refine r_iload_n hC dX12_pullOf_0 rfl 2 rfl ?_
  refine r_jn (T := fun (j2 : Int32 → Option Int32) => ∀ (t1 : Int32), RF X w (Aw w (xs_ X).heap.size) 4 (fun r => QI X w (r, σ)) (j2 t1) 11 [(0, .int a1), (1, .int a2)] [.int t1] σ) ?_ (fun j2 hj2 => ?_)
  · intro t1
    refine r_istore_n (lv' := [(3, .int t1), (0, .int a1), (1, .int a2)]) hC dX12_pullOf_11 rfl (by decide) rfl ?_
    refine r_iload_n hC dX12_pullOf_12 rfl 1 rfl ?_
    refine r_tab1 (off := 35) hC 48 1 dX12_pullOf_13 (by decide) (by decide) (by decide) (by decide) ?_ (fun c3 => ?_)
    · refine r_iconst (v := 2) hC dX12_pullOf_48 (by decide) ?_
      refine r_iload_n hC dX12_pullOf_49 rfl 2 rfl ?_
      refine r_imul hC dX12_pullOf_50 ?_
      refine r_iconst (v := 3) hC dX12_pullOf_51 (by decide) ?_
      refine r_idiv hC dX12_pullOf_52 (by decide) ?_
      exact r_iretP hC hret rfl dX12_pullOf_53
    · refine r_tab1 (off := 41) hC 54 2 dX12_pullOf_13 (by decide) (by decide) (by decide) (by decide) ?_ (fun c4 => ?_)
      · refine r_iload_n hC dX12_pullOf_54 rfl 2 rfl ?_
        refine r_iload_n hC dX12_pullOf_55 rfl 2 rfl ?_
        refine r_iconst (v := 4) hC dX12_pullOf_56 (by decide) ?_
        refine r_idiv hC dX12_pullOf_57 (by decide) ?_
        refine r_iadd hC dX12_pullOf_58 ?_
        exact r_iretP hC hret rfl dX12_pullOf_59
      · refine r_tab1 (off := 47) hC 60 3 dX12_pullOf_13 (by decide) (by decide) (by decide) (by decide) ?_ (fun c5 => ?_)
        · refine r_iload_n hC dX12_pullOf_60 rfl 0 rfl ?_
          exact r_iretP hC hret rfl dX12_pullOf_61
        · refine r_tab1 (off := 49) hC 62 4 dX12_pullOf_13 (by decide) (by decide) (by decide) (by decide) ?_ (fun c7 => ?_)
          · refine r_iload_n hC dX12_pullOf_62 rfl 0 rfl ?_
            refine r_iconst (v := 3) hC dX12_pullOf_63 (by decide) ?_
            refine r_icmp_le hC 73 dX12_pullOf_64 (by decide) (fun c6 => ?_) (fun c6 => ?_)
            · refine r_iconst (v := 0) hC dX12_pullOf_73 (by decide) ?_
              exact r_iretP hC hret rfl dX12_pullOf_74
            · refine r_iload_n hC dX12_pullOf_67 rfl 0 rfl ?_
              refine r_iconst (v := 3) hC dX12_pullOf_68 (by decide) ?_
              refine r_isub hC dX12_pullOf_69 ?_
              refine r_goto hC 74 dX12_pullOf_70 (by decide) ?_
              exact r_iretP hC hret rfl dX12_pullOf_74
          · refine r_tab1 (off := 62) hC 75 5 dX12_pullOf_13 (by decide) (by decide) (by decide) (by decide) ?_ (fun c8 => ?_)
            · refine r_iconst (v := 2) hC dX12_pullOf_75 (by decide) ?_
              refine r_iload_n hC dX12_pullOf_76 rfl 2 rfl ?_
              refine r_imul hC dX12_pullOf_77 ?_
              refine r_iconst (v := 3) hC dX12_pullOf_78 (by decide) ?_
              refine r_idiv hC dX12_pullOf_79 (by decide) ?_
              refine r_iconst (v := 2) hC dX12_pullOf_80 (by decide) ?_
              refine r_idiv hC dX12_pullOf_81 (by decide) ?_
              exact r_iretP hC hret rfl dX12_pullOf_82
            · refine r_tabD hC 83 dX12_pullOf_13 (by have e0 := ne_toInt (a := 1) (by decide) c3; have e1 := ne_toInt (a := 2) (by decide) c4; have e2 := ne_toInt (a := 3) (by decide) c5; have e3 := ne_toInt (a := 4) (by decide) c7; have e4 := ne_toInt (a := 5) (by decide) c8; omega) (by decide) ?_
              refine r_iload_n hC dX12_pullOf_83 rfl 2 rfl ?_
              exact r_iretP hC hret rfl dX12_pullOf_84
  · refine r_if_ne hC 10 dX12_pullOf_1 (by decide) (fun c9 => ?_) (fun c9 => ?_)
    · refine r_iload_n hC dX12_pullOf_10 rfl 1 rfl ?_
      exact r_lv [0, 1] rfl (hj2 a2)
    · refine r_iload_n hC dX12_pullOf_4 rfl 1 rfl ?_
      refine r_iconst (v := 2) hC dX12_pullOf_5 (by decide) ?_
      refine r_idiv hC dX12_pullOf_6 (by decide) ?_
      refine r_goto hC 11 dX12_pullOf_7 (by decide) ?_
      exact r_lv [0, 1] rfl (hj2 (a2 / 2))
set_option maxHeartbeats 4000000 in
set_option maxRecDepth 100000 in
theorem c_X12_costOf {l : Launch} {w : Wd} (hW : HWd w shM rM 29) (σ : St) (a1 : Int32) (a2 : Int32)  : ∀ res, f_X12_costOf a1 a2 = some res → MtI l yX12_costOf cX12_costOf 2 .int 0 0 w [.int a1, .int a2] σ (res, σ) := by
  refine mt_P (by decide) rfl hW (fun X hl0 hC hret => ?_)
  show RF X w (Aw w (xs_ X).heap.size) 2 (fun r => QI X w (r, σ)) (f_X12_costOf a1 a2) 0 [(0, .int a1), (1, .int a2)] [] σ
  unfold f_X12_costOf
  refine r_iload_n hC dX12_costOf_0 rfl 0 rfl ?_
  refine r_tab1 (off := 35) hC 36 1 dX12_costOf_1 (by decide) (by decide) (by decide) (by decide) ?_ (fun c1 => ?_)
  · refine r_iload_n hC dX12_costOf_36 rfl 1 rfl ?_
    refine r_iconst (v := 5) hC dX12_costOf_37 (by decide) ?_
    refine r_iadd hC dX12_costOf_38 ?_
    exact r_iretP hC hret rfl dX12_costOf_39
  · refine r_tab1 (off := 39) hC 40 2 dX12_costOf_1 (by decide) (by decide) (by decide) (by decide) ?_ (fun c2 => ?_)
    · refine r_iconst (v := 2) hC dX12_costOf_40 (by decide) ?_
      refine r_iload_n hC dX12_costOf_41 rfl 1 rfl ?_
      refine r_imul hC dX12_costOf_42 ?_
      exact r_iretP hC hret rfl dX12_costOf_43
    · refine r_tab1 (off := 53) hC 54 3 dX12_costOf_1 (by decide) (by decide) (by decide) (by decide) ?_ (fun c3 => ?_)
      · refine r_iload_n hC dX12_costOf_54 rfl 1 rfl ?_
        exact r_iretP hC hret rfl dX12_costOf_55
      · refine r_tab1 (off := 43) hC 44 4 dX12_costOf_1 (by decide) (by decide) (by decide) (by decide) ?_ (fun c4 => ?_)
        · refine r_iload_n hC dX12_costOf_44 rfl 1 rfl ?_
          refine r_iconst (v := 2) hC dX12_costOf_45 (by decide) ?_
          refine r_iadd hC dX12_costOf_46 ?_
          exact r_iretP hC hret rfl dX12_costOf_47
        · refine r_tab1 (off := 47) hC 48 5 dX12_costOf_1 (by decide) (by decide) (by decide) (by decide) ?_ (fun c5 => ?_)
          · refine r_iload_n hC dX12_costOf_48 rfl 1 rfl ?_
            refine r_iconst (v := 5) hC dX12_costOf_49 (by decide) ?_
            refine r_iadd hC dX12_costOf_50 ?_
            refine r_iconst (v := 3) hC dX12_costOf_51 (by decide) ?_
            refine r_idiv hC dX12_costOf_52 (by decide) ?_
            exact r_iretP hC hret rfl dX12_costOf_53
          · refine r_tabD hC 54 dX12_costOf_1 (by have e0 := ne_toInt (a := 1) (by decide) c1; have e1 := ne_toInt (a := 2) (by decide) c2; have e2 := ne_toInt (a := 3) (by decide) c3; have e3 := ne_toInt (a := 4) (by decide) c4; have e4 := ne_toInt (a := 5) (by decide) c5; omega) (by decide) ?_
            refine r_iload_n hC dX12_costOf_54 rfl 1 rfl ?_
            exact r_iretP hC hret rfl dX12_costOf_55
set_option maxHeartbeats 4000000 in
set_option maxRecDepth 100000 in
theorem c_X12_slipsOf {l : Launch} {w : Wd} (hW : HWd w shM rM 29) (σ : St) (a1 : Int32)  : ∀ res, f_X12_slipsOf a1 = some res → MtI l yX12_slipsOf cX12_slipsOf 1 .int 0 0 w [.int a1] σ (res, σ) := by
  refine mt_P (by decide) rfl hW (fun X hl0 hC hret => ?_)
  show RF X w (Aw w (xs_ X).heap.size) 1 (fun r => QI X w (r, σ)) (f_X12_slipsOf a1) 0 [(0, .int a1)] [] σ
  unfold f_X12_slipsOf
  refine r_iload_n hC dX12_slipsOf_0 rfl 0 rfl ?_
  refine r_iconst (v := 2) hC dX12_slipsOf_1 (by decide) ?_
  refine r_icmp_ne hC 9 dX12_slipsOf_2 (by decide) (fun c1 => ?_) (fun c1 => ?_)
  · refine r_iload_n hC dX12_slipsOf_9 rfl 0 rfl ?_
    refine r_iconst (v := 3) hC dX12_slipsOf_10 (by decide) ?_
    refine r_icmp_ne hC 18 dX12_slipsOf_11 (by decide) (fun c2 => ?_) (fun c2 => ?_)
    · refine r_iload_n hC dX12_slipsOf_18 rfl 0 rfl ?_
      refine r_iconst (v := 4) hC dX12_slipsOf_19 (by decide) ?_
      refine r_icmp_ne hC 27 dX12_slipsOf_20 (by decide) (fun c3 => ?_) (fun c3 => ?_)
      · refine r_iconst (v := 0) hC dX12_slipsOf_27 (by decide) ?_
        exact r_iretP hC hret rfl dX12_slipsOf_28
      · refine r_iconst (v := 5) hC dX12_slipsOf_23 (by decide) ?_
        refine r_goto hC 28 dX12_slipsOf_24 (by decide) ?_
        exact r_iretP hC hret rfl dX12_slipsOf_28
    · refine r_iconst (v := 3) hC dX12_slipsOf_14 (by decide) ?_
      refine r_goto hC 28 dX12_slipsOf_15 (by decide) ?_
      exact r_iretP hC hret rfl dX12_slipsOf_28
  · refine r_iconst (v := 1) hC dX12_slipsOf_5 (by decide) ?_
    refine r_goto hC 28 dX12_slipsOf_6 (by decide) ?_
    exact r_iretP hC hret rfl dX12_slipsOf_28
set_option maxHeartbeats 4000000 in
set_option maxRecDepth 100000 in
theorem c_X12_stroke {l : Launch} {w : Wd} (hW : HWd w shM rM 29) (σ : St) (a2 : Int32) (a3 : Int32) (a4 : Int32) (a5 : Int32)  : ∀ res, f_X12_stroke a2 a3 a4 a5 = some res → MtI l yX12_stroke cX12_stroke 5 .int 2 45 w [.ref (wA w 0), .int a2, .int a3, .int a4, .int a5] σ (res, σ) := by
  refine mt_P (by decide) rfl hW (fun X hl0 hC hret => ?_)
  show RF X w (Aw w (xs_ X).heap.size) 5 (fun r => QI X w (r, σ)) (f_X12_stroke a2 a3 a4 a5) 0 [(0, .ref (wA w 0)), (1, .int a2), (2, .int a3), (3, .int a4), (4, .int a5)] [] σ
  unfold f_X12_stroke
  refine r_iload_n hC dX12_stroke_0 rfl 1 rfl ?_
  refine r_i2l hC dX12_stroke_1 ?_
  refine r_lconst (v := 0) hC dX12_stroke_2 (by decide) ?_
  refine r_ldc2 (v := 5) hC lc_X12_159 dX12_stroke_3 ?_
  refine r_callSP hC (st := []) [.long (Int32.toInt64 a2), .long 0, .long 5] (c_X12_in hC.w σ (Int32.toInt64 a2) 0 5) yk_X12_in lm_X12_125 rfl ⟨rfl, rfl⟩ rfl dX12_stroke_6 (fun v1 => ?_)
  refine r_if_eq hC 44 dX12_stroke_9 (by decide) (fun c2 => ?_) (fun c2 => ?_)
  · refine r_bipush (v := (-2)) hC dX12_stroke_44 (by decide) ?_
    exact r_iretP hC hret rfl dX12_stroke_46
  · refine r_iload_n hC dX12_stroke_12 rfl 2 rfl ?_
    refine r_i2l hC dX12_stroke_13 ?_
    refine r_lconst (v := 0) hC dX12_stroke_14 (by decide) ?_
    refine r_ldc2 (v := 999) hC lc_X12_154 dX12_stroke_15 ?_
    refine r_callSP hC (st := []) [.long (Int32.toInt64 a3), .long 0, .long 999] (c_X12_in hC.w σ (Int32.toInt64 a3) 0 999) yk_X12_in lm_X12_125 rfl ⟨rfl, rfl⟩ rfl dX12_stroke_18 (fun v3 => ?_)
    refine r_if_eq hC 44 dX12_stroke_21 (by decide) (fun c4 => ?_) (fun c4 => ?_)
    · refine r_bipush (v := (-2)) hC dX12_stroke_44 (by decide) ?_
      exact r_iretP hC hret rfl dX12_stroke_46
    · refine r_iload_n hC dX12_stroke_24 rfl 3 rfl ?_
      refine r_callSP hC (st := []) [.int a4] (c_X12_isSeat hC.w σ a4) yk_X12_isSeat lm_X12_147 rfl ⟨rfl, rfl⟩ rfl dX12_stroke_25 (fun v5 => ?_)
      refine r_if_eq hC 44 dX12_stroke_28 (by decide) (fun c6 => ?_) (fun c6 => ?_)
      · refine r_bipush (v := (-2)) hC dX12_stroke_44 (by decide) ?_
        exact r_iretP hC hret rfl dX12_stroke_46
      · refine r_iload hC dX12_stroke_31 4 rfl ?_
        refine r_i2l hC dX12_stroke_33 ?_
        refine r_lconst (v := 0) hC dX12_stroke_34 (by decide) ?_
        refine r_ldc2 (v := 2) hC lc_X12_161 dX12_stroke_35 ?_
        refine r_callSP hC (st := []) [.long (Int32.toInt64 a5), .long 0, .long 2] (c_X12_in hC.w σ (Int32.toInt64 a5) 0 2) yk_X12_in lm_X12_125 rfl ⟨rfl, rfl⟩ rfl dX12_stroke_38 (fun v7 => ?_)
        refine r_if_ne hC 47 dX12_stroke_41 (by decide) (fun c8 => ?_) (fun c8 => ?_)
        · refine r_iload hC dX12_stroke_47 4 rfl ?_
          refine r_if_ne hC 61 dX12_stroke_49 (by decide) (fun c9 => ?_) (fun c9 => ?_)
          · refine r_iload hC dX12_stroke_61 4 rfl ?_
            refine r_iconst (v := 1) hC dX12_stroke_63 (by decide) ?_
            refine r_icmp_ne hC 75 dX12_stroke_64 (by decide) (fun c10 => ?_) (fun c10 => ?_)
            · refine r_iload_n hC dX12_stroke_75 rfl 1 rfl ?_
              refine r_callSP hC (st := []) [.int a2] (c_X12_slipsOf hC.w σ a2) yk_X12_slipsOf lm_X12_171 rfl ⟨rfl, rfl⟩ rfl dX12_stroke_76 (fun v11 => ?_)
              exact r_iretP hC hret rfl dX12_stroke_79
            · refine r_iload_n hC dX12_stroke_67 rfl 1 rfl ?_
              refine r_iload_n hC dX12_stroke_68 rfl 2 rfl ?_
              refine r_callSP hC (st := []) [.int a2, .int a3] (c_X12_costOf hC.w σ a2 a3) yk_X12_costOf lm_X12_167 rfl ⟨rfl, rfl⟩ rfl dX12_stroke_69 (fun v12 => ?_)
              refine r_goto hC 79 dX12_stroke_72 (by decide) ?_
              exact r_iretP hC hret rfl dX12_stroke_79
          · refine r_iload_n hC dX12_stroke_52 rfl 1 rfl ?_
            refine r_iload_n hC dX12_stroke_53 rfl 2 rfl ?_
            refine r_iload_n hC dX12_stroke_54 rfl 3 rfl ?_
            refine r_callSP hC (st := []) [.int a2, .int a3, .int a4] (c_X12_pullOf hC.w σ a2 a3 a4) yk_X12_pullOf lm_X12_163 rfl ⟨rfl, rfl⟩ rfl dX12_stroke_55 (fun v13 => ?_)
            refine r_goto hC 79 dX12_stroke_58 (by decide) ?_
            exact r_iretP hC hret rfl dX12_stroke_79
        · refine r_bipush (v := (-2)) hC dX12_stroke_44 (by decide) ?_
          exact r_iretP hC hret rfl dX12_stroke_46
set_option maxHeartbeats 4000000 in
set_option maxRecDepth 100000 in
theorem w_X12_feed_l33 {X : Mc} {w : Wd} (hC : Cok X w (Aw w (xs_ X).heap.size) yX12_feed.cls cX12_feed 5 1 25 shM rM 29) (hret : (xmeth X).sig.returnType = some .int) (a2 : Int32) (a3 : Int64) (σ : St)   (K8 : St → Option (Int32 × St)) (hK8 : ∀ (σ7 : St), RF X w (Aw w (xs_ X).heap.size) 5 (QI X w) (K8 σ7) 76 [(0, .ref (wA w 0))] [] σ7) : ∀ (n : Nat) (x5 : Int32) (σ6 : St), RF X w (Aw w (xs_ X).heap.size) 5 (QI X w) (f_X12_feed_l33 a2 a3 K8 n x5 σ6) 33 [(0, .ref (wA w 0)), (1, .int a2), (2, .long a3), (4, .int x5)] [] σ6 := by
  intro n
  induction n with
  | zero => intro x5 σ6; rw [f_X12_feed_l33]; exact r_none
  | succ n ih =>
    intro x5 σ6
    rw [f_X12_feed_l33]
    refine r_iload hC dX12_feed_33 3 rfl ?_
    refine r_iload_n hC dX12_feed_35 rfl 1 rfl ?_
    refine r_icmp_ge hC 76 dX12_feed_36 (by decide) (fun c9 => ?_) (fun c9 => ?_)
    · exact r_lv [0] rfl (hK8 σ6)
    · refine r_aload_n hC dX12_feed_39 rfl 0 rfl ?_
      refine r_getR hC clX12 0 5 3 rfl rfl rfl (hC.n rfl) rfl lf_X12_20 dX12_feed_40 ?_
      refine r_aload_n hC dX12_feed_43 rfl 0 rfl ?_
      refine r_getI hC clX12 0 6 rfl rfl (hC.n rfl) rfl lf_X12_176 dX12_feed_44 ?_
      refine r_nmI (fun v10 => ?_)
      refine r_lload_n hC dX12_feed_47 rfl 2 rfl ?_
      refine r_bipush (v := 8) hC dX12_feed_48 (by decide) ?_
      refine r_iload hC dX12_feed_50 3 rfl ?_
      refine r_imul hC dX12_feed_52 ?_
      refine r_lshr hC dX12_feed_53 ?_
      refine r_ldc2 (v := 255) hC lc_X12_120 dX12_feed_54 ?_
      refine r_land hC dX12_feed_57 ?_
      refine r_l2i hC dX12_feed_58 ?_
      refine r_gd (fun g11 => ?_)
      refine r_iast hC 3 160 rfl rfl g11 dX12_feed_59 ?_
      refine r_nmS (fun σ12 => ?_)
      refine r_aload_n hC dX12_feed_60 rfl 0 rfl ?_
      refine r_dup hC dX12_feed_61 rfl ?_
      refine r_getI hC clX12 0 6 rfl rfl (hC.n rfl) rfl lf_X12_176 dX12_feed_62 ?_
      refine r_nmI (fun v13 => ?_)
      refine r_iconst (v := 1) hC dX12_feed_65 (by decide) ?_
      refine r_iadd hC dX12_feed_66 ?_
      refine r_putI hC clX12 0 6 rfl rfl rfl (hC.n rfl) rfl rfl lf_X12_176 dX12_feed_67 ?_
      refine r_nmS (fun σ14 => ?_)
      refine r_iinc (v := x5 + 1) (lv' := [(4, .int (x5 + 1)), (0, .ref (wA w 0)), (1, .int a2), (2, .long a3)]) hC dX12_feed_70 3 rfl rfl (by decide) rfl ?_
      refine r_goto hC 33 dX12_feed_73 (by decide) ?_
      exact r_lv [1, 2, 3, 0] rfl (ih (x5 + 1) σ14)
set_option maxHeartbeats 4000000 in
set_option maxRecDepth 100000 in
theorem c_X12_feed {l : Launch} {w : Wd} (hW : HWd w shM rM 29) (σ : St) (a2 : Int32) (a3 : Int64)  : ∀ res, f_X12_feed σ a2 a3 = some res → MtI l yX12_feed cX12_feed 5 .int 1 25 w [.ref (wA w 0), .int a2, .long a3] σ res := by
  refine mt_I (by decide) rfl hW (fun X hl0 hC hret => ?_)
  show RF X w (Aw w (xs_ X).heap.size) 5 (QI X w) (f_X12_feed σ a2 a3) 0 [(0, .ref (wA w 0)), (1, .int a2), (2, .long a3)] [] σ
  unfold f_X12_feed
  refine r_iload_n hC dX12_feed_0 rfl 1 rfl ?_
  refine r_i2l hC dX12_feed_1 ?_
  refine r_lconst (v := 1) hC dX12_feed_2 (by decide) ?_
  refine r_ldc2 (v := 8) hC lc_X12_174 dX12_feed_3 ?_
  refine r_callSP hC (st := []) [.long (Int32.toInt64 a2), .long 1, .long 8] (c_X12_in hC.w σ (Int32.toInt64 a2) 1 8) yk_X12_in lm_X12_125 rfl ⟨rfl, rfl⟩ rfl dX12_feed_6 (fun v1 => ?_)
  refine r_if_ne hC 15 dX12_feed_9 (by decide) (fun c2 => ?_) (fun c2 => ?_)
  · refine r_aload_n hC dX12_feed_15 rfl 0 rfl ?_
    refine r_getI hC clX12 0 6 rfl rfl (hC.n rfl) rfl lf_X12_176 dX12_feed_16 ?_
    refine r_nmI (fun v3 => ?_)
    refine r_iload_n hC dX12_feed_19 rfl 1 rfl ?_
    refine r_iadd hC dX12_feed_20 ?_
    refine r_sipush (v := 160) hC dX12_feed_21 (by decide) ?_
    refine r_icmp_le hC 30 dX12_feed_24 (by decide) (fun c4 => ?_) (fun c4 => ?_)
    · refine r_iconst (v := 0) hC dX12_feed_30 (by decide) ?_
      refine r_istore (lv' := [(4, .int 0), (0, .ref (wA w 0)), (1, .int a2), (2, .long a3)]) hC dX12_feed_31 (by decide) rfl ?_
      refine r_lv [1, 2, 3, 0] rfl ?_
      refine w_X12_feed_l33 hC hret a2 a3 σ _ ?_ FU 0 σ
      · intro σ7
        refine r_aload_n hC dX12_feed_76 rfl 0 rfl ?_
        refine r_getI hC clX12 0 6 rfl rfl (hC.n rfl) rfl lf_X12_176 dX12_feed_77 ?_
        refine r_nmI (fun v15 => ?_)
        exact r_iret hC hret rfl dX12_feed_80
    · refine r_bipush (v := (-4)) hC dX12_feed_27 (by decide) ?_
      exact r_iret hC hret rfl dX12_feed_29
  · refine r_bipush (v := (-2)) hC dX12_feed_12 (by decide) ?_
    exact r_iret hC hret rfl dX12_feed_14
set_option maxHeartbeats 4000000 in
set_option maxRecDepth 100000 in
theorem c_X12_byteAt {l : Launch} {w : Wd} (hW : HWd w shM rM 29) (σ : St) (a2 : Int32)  : ∀ res, f_X12_byteAt σ a2 = some res → MtI l yX12_byteAt cX12_byteAt 2 .int 0 0 w [.ref (wA w 0), .int a2] σ (res, σ) := by
  refine mt_P (by decide) rfl hW (fun X hl0 hC hret => ?_)
  show RF X w (Aw w (xs_ X).heap.size) 2 (fun r => QI X w (r, σ)) (f_X12_byteAt σ a2) 0 [(0, .ref (wA w 0)), (1, .int a2)] [] σ
  unfold f_X12_byteAt
  refine r_iload_n hC dX12_byteAt_0 rfl 1 rfl ?_
  refine r_aload_n hC dX12_byteAt_1 rfl 0 rfl ?_
  refine r_getI hC clX12 0 18 rfl rfl (hC.n rfl) rfl lf_X12_179 dX12_byteAt_2 ?_
  refine r_nmI (fun v1 => ?_)
  refine r_icmp_ge hC 22 dX12_byteAt_5 (by decide) (fun c2 => ?_) (fun c2 => ?_)
  · refine r_iconst (v := (-1)) hC dX12_byteAt_22 (by decide) ?_
    exact r_iretP hC hret rfl dX12_byteAt_23
  · refine r_aload_n hC dX12_byteAt_8 rfl 0 rfl ?_
    refine r_getR hC clX12 0 1 1 rfl rfl rfl (hC.n rfl) rfl lf_X12_13 dX12_byteAt_9 ?_
    refine r_aload_n hC dX12_byteAt_12 rfl 0 rfl ?_
    refine r_getI hC clX12 0 17 rfl rfl (hC.n rfl) rfl lf_X12_182 dX12_byteAt_13 ?_
    refine r_nmI (fun v3 => ?_)
    refine r_iload_n hC dX12_byteAt_16 rfl 1 rfl ?_
    refine r_iadd hC dX12_byteAt_17 ?_
    refine r_nmI (fun v4 => ?_)
    refine r_gd (fun g5 => ?_)
    refine r_iald hC 1 960 rfl rfl g5 dX12_byteAt_18 ?_
    refine r_nmI (fun v6 => ?_)
    refine r_goto hC 23 dX12_byteAt_19 (by decide) ?_
    exact r_iretP hC hret rfl dX12_byteAt_23
set_option maxHeartbeats 4000000 in
set_option maxRecDepth 100000 in
theorem w_X12_next_l0 {X : Mc} {w : Wd} (hC : Cok X w (Aw w (xs_ X).heap.size) yX12_next.cls cX12_next 3 1 25 shM rM 29) (hret : (xmeth X).sig.returnType = none) (σ : St)   (K3 : St → Option St) (hK3 : ∀ (σ2 : St), RF X w (Aw w (xs_ X).heap.size) 3 (QV X w) (K3 σ2) 39 [(0, .ref (wA w 0))] [] σ2) : ∀ (n : Nat) (σ1 : St), RF X w (Aw w (xs_ X).heap.size) 3 (QV X w) (f_X12_next_l0 K3 n σ1) 0 [(0, .ref (wA w 0))] [] σ1 := by
  intro n
  induction n with
  | zero => intro σ1; rw [f_X12_next_l0]; exact r_none
  | succ n ih =>
    intro σ1
    rw [f_X12_next_l0]
    refine r_aload_n hC dX12_next_0 rfl 0 rfl ?_
    refine r_aload_n hC dX12_next_1 rfl 0 rfl ?_
    refine r_getI hC clX12 0 22 rfl rfl (hC.n rfl) rfl lf_X12_185 dX12_next_2 ?_
    refine r_nmI (fun v4 => ?_)
    refine r_callVP hC (b := 0) (ci := 12) (st := []) [.int v4] rfl (hC.n rfl) rfl rfl (c_X12_byteAt hC.w σ1 v4) yk_X12_byteAt lm_X12_188 rfl ⟨rfl, rfl⟩ rfl dX12_next_5 (fun v5 => ?_)
    refine r_bipush (v := 32) hC dX12_next_8 (by decide) ?_
    refine r_jn (T := fun (j6 : Option St) => RF X w (Aw w (xs_ X).heap.size) 3 (QV X w) j6 26 [(0, .ref (wA w 0))] [] σ1) ?_ (fun j6 hj6 => ?_)
    · refine r_aload_n hC dX12_next_26 rfl 0 rfl ?_
      refine r_dup hC dX12_next_27 rfl ?_
      refine r_getI hC clX12 0 22 rfl rfl (hC.n rfl) rfl lf_X12_185 dX12_next_28 ?_
      refine r_nmI (fun v7 => ?_)
      refine r_iconst (v := 1) hC dX12_next_31 (by decide) ?_
      refine r_iadd hC dX12_next_32 ?_
      refine r_putI hC clX12 0 22 rfl rfl rfl (hC.n rfl) rfl rfl lf_X12_185 dX12_next_33 ?_
      refine r_nmS (fun σ8 => ?_)
      refine r_goto hC 0 dX12_next_36 (by decide) ?_
      exact r_lv [0] rfl (ih σ8)
    · refine r_icmp_eq hC 26 dX12_next_10 (by decide) (fun c9 => ?_) (fun c9 => ?_)
      · exact r_lv [0] rfl hj6
      · refine r_aload_n hC dX12_next_13 rfl 0 rfl ?_
        refine r_aload_n hC dX12_next_14 rfl 0 rfl ?_
        refine r_getI hC clX12 0 22 rfl rfl (hC.n rfl) rfl lf_X12_185 dX12_next_15 ?_
        refine r_nmI (fun v10 => ?_)
        refine r_callVP hC (b := 0) (ci := 12) (st := []) [.int v10] rfl (hC.n rfl) rfl rfl (c_X12_byteAt hC.w σ1 v10) yk_X12_byteAt lm_X12_188 rfl ⟨rfl, rfl⟩ rfl dX12_next_18 (fun v11 => ?_)
        refine r_bipush (v := 10) hC dX12_next_21 (by decide) ?_
        refine r_icmp_ne hC 39 dX12_next_23 (by decide) (fun c12 => ?_) (fun c12 => ?_)
        · exact r_lv [0] rfl (hK3 σ1)
        · exact r_lv [0] rfl hj6
set_option maxHeartbeats 4000000 in
set_option maxRecDepth 100000 in
theorem w_X12_next_l211 {X : Mc} {w : Wd} (hC : Cok X w (Aw w (xs_ X).heap.size) yX12_next.cls cX12_next 3 1 25 shM rM 29) (hret : (xmeth X).sig.returnType = none) (σ37 : St)   (K42 : Int32 → St → Option St) (hK42 : ∀ (x40 : Int32) (σ41 : St), RF X w (Aw w (xs_ X).heap.size) 3 (QV X w) (K42 x40 σ41) 286 [(0, .ref (wA w 0)), (2, .int x40)] [] σ41) : ∀ (n : Nat) (x38 : Int32) (σ39 : St), RF X w (Aw w (xs_ X).heap.size) 3 (QV X w) (f_X12_next_l211 K42 n x38 σ39) 211 [(0, .ref (wA w 0)), (2, .int x38)] [] σ39 := by
  intro n
  induction n with
  | zero => intro x38 σ39; rw [f_X12_next_l211]; exact r_none
  | succ n ih =>
    intro x38 σ39
    rw [f_X12_next_l211]
    refine r_aload_n hC dX12_next_211 rfl 0 rfl ?_
    refine r_aload_n hC dX12_next_212 rfl 0 rfl ?_
    refine r_getI hC clX12 0 22 rfl rfl (hC.n rfl) rfl lf_X12_185 dX12_next_213 ?_
    refine r_nmI (fun v43 => ?_)
    refine r_callVP hC (b := 0) (ci := 12) (st := []) [.int v43] rfl (hC.n rfl) rfl rfl (c_X12_byteAt hC.w σ39 v43) yk_X12_byteAt lm_X12_188 rfl ⟨rfl, rfl⟩ rfl dX12_next_216 (fun v44 => ?_)
    refine r_i2l hC dX12_next_219 ?_
    refine r_ldc2 (v := 48) hC lc_X12_211 dX12_next_220 ?_
    refine r_ldc2 (v := 57) hC lc_X12_213 dX12_next_223 ?_
    refine r_callSP hC (st := []) [.long (Int32.toInt64 v44), .long 48, .long 57] (c_X12_in hC.w σ39 (Int32.toInt64 v44) 48 57) yk_X12_in lm_X12_125 rfl ⟨rfl, rfl⟩ rfl dX12_next_226 (fun v45 => ?_)
    refine r_if_eq hC 286 dX12_next_229 (by decide) (fun c46 => ?_) (fun c46 => ?_)
    · exact r_lv [0, 1] rfl (hK42 x38 σ39)
    · refine r_aload_n hC dX12_next_232 rfl 0 rfl ?_
      refine r_iload_n hC dX12_next_233 rfl 1 rfl ?_
      refine r_iconst (v := 4) hC dX12_next_234 (by decide) ?_
      refine r_jn (T := fun (j48 : Int64 → Option St) => ∀ (t47 : Int64), RF X w (Aw w (xs_ X).heap.size) 3 (QV X w) (j48 t47) 267 [(0, .ref (wA w 0)), (2, .int x38)] [.long t47, .ref (wA w 0)] σ39) ?_ (fun j48 hj48 => ?_)
      · intro t47
        refine r_putL hC clX12 0 21 rfl rfl rfl (hC.n rfl) rfl rfl lf_X12_201 dX12_next_267 ?_
        refine r_nmS (fun σ49 => ?_)
        refine r_iinc (v := x38 + 1) (lv' := [(2, .int (x38 + 1)), (0, .ref (wA w 0))]) hC dX12_next_270 1 rfl rfl (by decide) rfl ?_
        refine r_aload_n hC dX12_next_273 rfl 1 rfl ?_
        refine r_dup hC dX12_next_274 rfl ?_
        refine r_getI hC clX12 0 22 rfl rfl (hC.n rfl) rfl lf_X12_185 dX12_next_275 ?_
        refine r_nmI (fun v50 => ?_)
        refine r_iconst (v := 1) hC dX12_next_278 (by decide) ?_
        refine r_iadd hC dX12_next_279 ?_
        refine r_putI hC clX12 0 22 rfl rfl rfl (hC.n rfl) rfl rfl lf_X12_185 dX12_next_280 ?_
        refine r_nmS (fun σ51 => ?_)
        refine r_goto hC 211 dX12_next_283 (by decide) ?_
        exact r_lv [1, 0] rfl (ih (x38 + 1) σ51)
      · refine r_icmp_ge hC 263 dX12_next_235 (by decide) (fun c52 => ?_) (fun c52 => ?_)
        · refine r_aload_n hC dX12_next_263 rfl 0 rfl ?_
          refine r_getL hC clX12 0 21 rfl rfl (hC.n rfl) rfl lf_X12_201 dX12_next_264 ?_
          refine r_nmL (fun v53 => ?_)
          exact r_lv [0, 1] rfl (hj48 v53)
        · refine r_ldc2 (v := 10) hC lc_X12_215 dX12_next_238 ?_
          refine r_aload_n hC dX12_next_241 rfl 0 rfl ?_
          refine r_getL hC clX12 0 21 rfl rfl (hC.n rfl) rfl lf_X12_201 dX12_next_242 ?_
          refine r_nmL (fun v54 => ?_)
          refine r_lmul hC dX12_next_245 ?_
          refine r_aload_n hC dX12_next_246 rfl 0 rfl ?_
          refine r_aload_n hC dX12_next_247 rfl 0 rfl ?_
          refine r_getI hC clX12 0 22 rfl rfl (hC.n rfl) rfl lf_X12_185 dX12_next_248 ?_
          refine r_nmI (fun v55 => ?_)
          refine r_callVP hC (b := 0) (ci := 12) (st := [.long (10 * v54), .ref (wA w 0)]) [.int v55] rfl (hC.n rfl) rfl rfl (c_X12_byteAt hC.w σ39 v55) yk_X12_byteAt lm_X12_188 rfl ⟨rfl, rfl⟩ rfl dX12_next_251 (fun v56 => ?_)
          refine r_i2l hC dX12_next_254 ?_
          refine r_ladd hC dX12_next_255 ?_
          refine r_ldc2 (v := 48) hC lc_X12_211 dX12_next_256 ?_
          refine r_lsub hC dX12_next_259 ?_
          refine r_goto hC 267 dX12_next_260 (by decide) ?_
          exact r_lv [0, 1] rfl (hj48 (((10 * v54) + (Int32.toInt64 v56)) - 48))
set_option maxHeartbeats 4000000 in
set_option maxRecDepth 100000 in
theorem w_X12_next_l107 {X : Mc} {w : Wd} (hC : Cok X w (Aw w (xs_ X).heap.size) yX12_next.cls cX12_next 3 1 25 shM rM 29) (hret : (xmeth X).sig.returnType = none) (σ62 : St)     : ∀ (n : Nat) (x63 : Int32) (σ64 : St), RF X w (Aw w (xs_ X).heap.size) 3 (QV X w) (f_X12_next_l107 n x63 σ64) 107 [(0, .ref (wA w 0)), (2, .int x63)] [] σ64 := by
  intro n
  induction n with
  | zero => intro x63 σ64; rw [f_X12_next_l107]; exact r_none
  | succ n ih =>
    intro x63 σ64
    rw [f_X12_next_l107]
    refine r_aload_n hC dX12_next_107 rfl 0 rfl ?_
    refine r_aload_n hC dX12_next_108 rfl 0 rfl ?_
    refine r_getI hC clX12 0 22 rfl rfl (hC.n rfl) rfl lf_X12_185 dX12_next_109 ?_
    refine r_nmI (fun v65 => ?_)
    refine r_callVP hC (b := 0) (ci := 12) (st := []) [.int v65] rfl (hC.n rfl) rfl rfl (c_X12_byteAt hC.w σ64 v65) yk_X12_byteAt lm_X12_188 rfl ⟨rfl, rfl⟩ rfl dX12_next_112 (fun v66 => ?_)
    refine r_i2l hC dX12_next_115 ?_
    refine r_ldc2 (v := 97) hC lc_X12_197 dX12_next_116 ?_
    refine r_ldc2 (v := 122) hC lc_X12_199 dX12_next_119 ?_
    refine r_callSP hC (st := []) [.long (Int32.toInt64 v66), .long 97, .long 122] (c_X12_in hC.w σ64 (Int32.toInt64 v66) 97 122) yk_X12_in lm_X12_125 rfl ⟨rfl, rfl⟩ rfl dX12_next_122 (fun v67 => ?_)
    refine r_if_eq hC 182 dX12_next_125 (by decide) (fun c68 => ?_) (fun c68 => ?_)
    · refine r_goto hC 372 dX12_next_182 (by decide) ?_
      exact r_vret hC hret dX12_next_372
    · refine r_aload_n hC dX12_next_128 rfl 0 rfl ?_
      refine r_iload_n hC dX12_next_129 rfl 1 rfl ?_
      refine r_bipush (v := 8) hC dX12_next_130 (by decide) ?_
      refine r_jn (T := fun (j70 : Int64 → Option St) => ∀ (t69 : Int64), RF X w (Aw w (xs_ X).heap.size) 3 (QV X w) (j70 t69) 163 [(0, .ref (wA w 0)), (2, .int x63)] [.long t69, .ref (wA w 0)] σ64) ?_ (fun j70 hj70 => ?_)
      · intro t69
        refine r_putL hC clX12 0 21 rfl rfl rfl (hC.n rfl) rfl rfl lf_X12_201 dX12_next_163 ?_
        refine r_nmS (fun σ71 => ?_)
        refine r_iinc (v := x63 + 1) (lv' := [(2, .int (x63 + 1)), (0, .ref (wA w 0))]) hC dX12_next_166 1 rfl rfl (by decide) rfl ?_
        refine r_aload_n hC dX12_next_169 rfl 1 rfl ?_
        refine r_dup hC dX12_next_170 rfl ?_
        refine r_getI hC clX12 0 22 rfl rfl (hC.n rfl) rfl lf_X12_185 dX12_next_171 ?_
        refine r_nmI (fun v72 => ?_)
        refine r_iconst (v := 1) hC dX12_next_174 (by decide) ?_
        refine r_iadd hC dX12_next_175 ?_
        refine r_putI hC clX12 0 22 rfl rfl rfl (hC.n rfl) rfl rfl lf_X12_185 dX12_next_176 ?_
        refine r_nmS (fun σ73 => ?_)
        refine r_goto hC 107 dX12_next_179 (by decide) ?_
        exact r_lv [1, 0] rfl (ih (x63 + 1) σ73)
      · refine r_icmp_ge hC 160 dX12_next_132 (by decide) (fun c74 => ?_) (fun c74 => ?_)
        · refine r_ldc2 (v := (-1)) hC lc_X12_209 dX12_next_160 ?_
          exact r_lv [0, 1] rfl (hj70 (-1))
        · refine r_ldc2 (v := 27) hC lc_X12_205 dX12_next_135 ?_
          refine r_aload_n hC dX12_next_138 rfl 0 rfl ?_
          refine r_getL hC clX12 0 21 rfl rfl (hC.n rfl) rfl lf_X12_201 dX12_next_139 ?_
          refine r_nmL (fun v75 => ?_)
          refine r_lmul hC dX12_next_142 ?_
          refine r_aload_n hC dX12_next_143 rfl 0 rfl ?_
          refine r_aload_n hC dX12_next_144 rfl 0 rfl ?_
          refine r_getI hC clX12 0 22 rfl rfl (hC.n rfl) rfl lf_X12_185 dX12_next_145 ?_
          refine r_nmI (fun v76 => ?_)
          refine r_callVP hC (b := 0) (ci := 12) (st := [.long (27 * v75), .ref (wA w 0)]) [.int v76] rfl (hC.n rfl) rfl rfl (c_X12_byteAt hC.w σ64 v76) yk_X12_byteAt lm_X12_188 rfl ⟨rfl, rfl⟩ rfl dX12_next_148 (fun v77 => ?_)
          refine r_i2l hC dX12_next_151 ?_
          refine r_ladd hC dX12_next_152 ?_
          refine r_ldc2 (v := 96) hC lc_X12_207 dX12_next_153 ?_
          refine r_lsub hC dX12_next_156 ?_
          refine r_goto hC 163 dX12_next_157 (by decide) ?_
          exact r_lv [0, 1] rfl (hj70 (((27 * v75) + (Int32.toInt64 v77)) - 96))
set_option maxHeartbeats 4000000 in
set_option maxRecDepth 100000 in
theorem c_X12_next {l : Launch} {w : Wd} (hW : HWd w shM rM 29) (σ : St)   : ∀ res, f_X12_next σ = some res → MtV l yX12_next cX12_next 3 1 25 w [.ref (wA w 0)] σ res := by
  refine mt_V (by decide) rfl hW (fun X hl0 hC hret => ?_)
  show RF X w (Aw w (xs_ X).heap.size) 3 (QV X w) (f_X12_next σ) 0 [(0, .ref (wA w 0))] [] σ
  unfold f_X12_next
  refine r_lv [0] rfl ?_
  refine w_X12_next_l0 hC hret σ _ ?_ FU σ
  · intro σ2
    refine r_aload_n hC dX12_next_39 rfl 0 rfl ?_
    refine r_aload_n hC dX12_next_40 rfl 0 rfl ?_
    refine r_getI hC clX12 0 22 rfl rfl (hC.n rfl) rfl lf_X12_185 dX12_next_41 ?_
    refine r_nmI (fun v13 => ?_)
    refine r_putI hC clX12 0 20 rfl rfl rfl (hC.n rfl) rfl rfl lf_X12_191 dX12_next_44 ?_
    refine r_nmS (fun σ14 => ?_)
    refine r_aload_n hC dX12_next_47 rfl 0 rfl ?_
    refine r_aload_n hC dX12_next_48 rfl 0 rfl ?_
    refine r_getI hC clX12 0 22 rfl rfl (hC.n rfl) rfl lf_X12_185 dX12_next_49 ?_
    refine r_nmI (fun v15 => ?_)
    refine r_callVP hC (b := 0) (ci := 12) (st := []) [.int v15] rfl (hC.n rfl) rfl rfl (c_X12_byteAt hC.w σ14 v15) yk_X12_byteAt lm_X12_188 rfl ⟨rfl, rfl⟩ rfl dX12_next_52 (fun v16 => ?_)
    refine r_istore_n (lv' := [(1, .int v16), (0, .ref (wA w 0))]) hC dX12_next_55 rfl (by decide) rfl ?_
    refine r_aload_n hC dX12_next_56 rfl 1 rfl ?_
    refine r_iconst (v := 4) hC dX12_next_57 (by decide) ?_
    refine r_putI hC clX12 0 19 rfl rfl rfl (hC.n rfl) rfl rfl lf_X12_194 dX12_next_58 ?_
    refine r_nmS (fun σ17 => ?_)
    refine r_iload_n hC dX12_next_61 rfl 0 rfl ?_
    refine r_if_ge hC 81 dX12_next_62 (by decide) (fun c18 => ?_) (fun c18 => ?_)
    · refine r_iload_n hC dX12_next_81 rfl 0 rfl ?_
      refine r_i2l hC dX12_next_82 ?_
      refine r_ldc2 (v := 97) hC lc_X12_197 dX12_next_83 ?_
      refine r_ldc2 (v := 122) hC lc_X12_199 dX12_next_86 ?_
      refine r_callSP hC (st := []) [.long (Int32.toInt64 v16), .long 97, .long 122] (c_X12_in hC.w σ17 (Int32.toInt64 v16) 97 122) yk_X12_in lm_X12_125 rfl ⟨rfl, rfl⟩ rfl dX12_next_89 (fun v19 => ?_)
      refine r_if_eq hC 185 dX12_next_92 (by decide) (fun c20 => ?_) (fun c20 => ?_)
      · refine r_iload_n hC dX12_next_185 rfl 0 rfl ?_
        refine r_i2l hC dX12_next_186 ?_
        refine r_ldc2 (v := 48) hC lc_X12_211 dX12_next_187 ?_
        refine r_ldc2 (v := 57) hC lc_X12_213 dX12_next_190 ?_
        refine r_callSP hC (st := []) [.long (Int32.toInt64 v16), .long 48, .long 57] (c_X12_in hC.w σ17 (Int32.toInt64 v16) 48 57) yk_X12_in lm_X12_125 rfl ⟨rfl, rfl⟩ rfl dX12_next_193 (fun v21 => ?_)
        refine r_if_eq hC 303 dX12_next_196 (by decide) (fun c22 => ?_) (fun c22 => ?_)
        · refine r_iload_n hC dX12_next_303 rfl 0 rfl ?_
          refine r_bipush (v := 40) hC dX12_next_304 (by decide) ?_
          refine r_jn (T := fun (j23 : Option St) => RF X w (Aw w (xs_ X).heap.size) 3 (QV X w) j23 351 [(0, .ref (wA w 0)), (1, .int v16)] [] σ17) ?_ (fun j23 hj23 => ?_)
          · refine r_aload_n hC dX12_next_351 rfl 0 rfl ?_
            refine r_iconst (v := 3) hC dX12_next_352 (by decide) ?_
            refine r_putI hC clX12 0 19 rfl rfl rfl (hC.n rfl) rfl rfl lf_X12_194 dX12_next_353 ?_
            refine r_nmS (fun σ24 => ?_)
            refine r_aload_n hC dX12_next_356 rfl 0 rfl ?_
            refine r_iload_n hC dX12_next_357 rfl 1 rfl ?_
            refine r_i2l hC dX12_next_358 ?_
            refine r_putL hC clX12 0 21 rfl rfl rfl (hC.n rfl) rfl rfl lf_X12_201 dX12_next_359 ?_
            refine r_nmS (fun σ25 => ?_)
            refine r_aload_n hC dX12_next_362 rfl 0 rfl ?_
            refine r_dup hC dX12_next_363 rfl ?_
            refine r_getI hC clX12 0 22 rfl rfl (hC.n rfl) rfl lf_X12_185 dX12_next_364 ?_
            refine r_nmI (fun v26 => ?_)
            refine r_iconst (v := 1) hC dX12_next_367 (by decide) ?_
            refine r_iadd hC dX12_next_368 ?_
            refine r_putI hC clX12 0 22 rfl rfl rfl (hC.n rfl) rfl rfl lf_X12_185 dX12_next_369 ?_
            refine r_nmS (fun σ27 => ?_)
            exact r_vret hC hret dX12_next_372
          · refine r_icmp_eq hC 351 dX12_next_306 (by decide) (fun c28 => ?_) (fun c28 => ?_)
            · exact r_lv [1, 0] rfl hj23
            · refine r_iload_n hC dX12_next_309 rfl 0 rfl ?_
              refine r_bipush (v := 41) hC dX12_next_310 (by decide) ?_
              refine r_icmp_eq hC 351 dX12_next_312 (by decide) (fun c29 => ?_) (fun c29 => ?_)
              · exact r_lv [1, 0] rfl hj23
              · refine r_iload_n hC dX12_next_315 rfl 0 rfl ?_
                refine r_bipush (v := 59) hC dX12_next_316 (by decide) ?_
                refine r_icmp_eq hC 351 dX12_next_318 (by decide) (fun c30 => ?_) (fun c30 => ?_)
                · exact r_lv [1, 0] rfl hj23
                · refine r_iload_n hC dX12_next_321 rfl 0 rfl ?_
                  refine r_bipush (v := 43) hC dX12_next_322 (by decide) ?_
                  refine r_icmp_eq hC 351 dX12_next_324 (by decide) (fun c31 => ?_) (fun c31 => ?_)
                  · exact r_lv [1, 0] rfl hj23
                  · refine r_iload_n hC dX12_next_327 rfl 0 rfl ?_
                    refine r_bipush (v := 45) hC dX12_next_328 (by decide) ?_
                    refine r_icmp_eq hC 351 dX12_next_330 (by decide) (fun c32 => ?_) (fun c32 => ?_)
                    · exact r_lv [1, 0] rfl hj23
                    · refine r_iload_n hC dX12_next_333 rfl 0 rfl ?_
                      refine r_bipush (v := 42) hC dX12_next_334 (by decide) ?_
                      refine r_icmp_eq hC 351 dX12_next_336 (by decide) (fun c33 => ?_) (fun c33 => ?_)
                      · exact r_lv [1, 0] rfl hj23
                      · refine r_iload_n hC dX12_next_339 rfl 0 rfl ?_
                        refine r_bipush (v := 60) hC dX12_next_340 (by decide) ?_
                        refine r_icmp_eq hC 351 dX12_next_342 (by decide) (fun c34 => ?_) (fun c34 => ?_)
                        · exact r_lv [1, 0] rfl hj23
                        · refine r_iload_n hC dX12_next_345 rfl 0 rfl ?_
                          refine r_bipush (v := 61) hC dX12_next_346 (by decide) ?_
                          refine r_icmp_ne hC 372 dX12_next_348 (by decide) (fun c35 => ?_) (fun c35 => ?_)
                          · exact r_vret hC hret dX12_next_372
                          · exact r_lv [1, 0] rfl hj23
        · refine r_aload_n hC dX12_next_199 rfl 1 rfl ?_
          refine r_iconst (v := 2) hC dX12_next_200 (by decide) ?_
          refine r_putI hC clX12 0 19 rfl rfl rfl (hC.n rfl) rfl rfl lf_X12_194 dX12_next_201 ?_
          refine r_nmS (fun σ36 => ?_)
          refine r_aload_n hC dX12_next_204 rfl 1 rfl ?_
          refine r_lconst (v := 0) hC dX12_next_205 (by decide) ?_
          refine r_putL hC clX12 0 21 rfl rfl rfl (hC.n rfl) rfl rfl lf_X12_201 dX12_next_206 ?_
          refine r_nmS (fun σ37 => ?_)
          refine r_iconst (v := 0) hC dX12_next_209 (by decide) ?_
          refine r_istore_n (lv' := [(2, .int 0), (1, .int v16), (0, .ref (wA w 0))]) hC dX12_next_210 rfl (by decide) rfl ?_
          refine r_lv [2, 0] rfl ?_
          refine w_X12_next_l211 hC hret σ37 _ ?_ FU 0 σ37
          · intro x40 σ41
            refine r_aload_n hC dX12_next_286 rfl 0 rfl ?_
            refine r_iload_n hC dX12_next_287 rfl 1 rfl ?_
            refine r_iconst (v := 4) hC dX12_next_288 (by decide) ?_
            refine r_jn (T := fun (j58 : Int32 → Option St) => ∀ (t57 : Int32), RF X w (Aw w (xs_ X).heap.size) 3 (QV X w) (j58 t57) 297 [] [.int t57, .ref (wA w 0)] σ41) ?_ (fun j58 hj58 => ?_)
            · intro t57
              refine r_putI hC clX12 0 19 rfl rfl rfl (hC.n rfl) rfl rfl lf_X12_194 dX12_next_297 ?_
              refine r_nmS (fun σ59 => ?_)
              refine r_goto hC 372 dX12_next_300 (by decide) ?_
              exact r_vret hC hret dX12_next_372
            · refine r_icmp_le hC 296 dX12_next_289 (by decide) (fun c60 => ?_) (fun c60 => ?_)
              · refine r_iconst (v := 2) hC dX12_next_296 (by decide) ?_
                exact r_lv [] rfl (hj58 2)
              · refine r_iconst (v := 4) hC dX12_next_292 (by decide) ?_
                refine r_goto hC 297 dX12_next_293 (by decide) ?_
                exact r_lv [] rfl (hj58 4)
      · refine r_aload_n hC dX12_next_95 rfl 1 rfl ?_
        refine r_iconst (v := 1) hC dX12_next_96 (by decide) ?_
        refine r_putI hC clX12 0 19 rfl rfl rfl (hC.n rfl) rfl rfl lf_X12_194 dX12_next_97 ?_
        refine r_nmS (fun σ61 => ?_)
        refine r_aload_n hC dX12_next_100 rfl 1 rfl ?_
        refine r_lconst (v := 0) hC dX12_next_101 (by decide) ?_
        refine r_putL hC clX12 0 21 rfl rfl rfl (hC.n rfl) rfl rfl lf_X12_201 dX12_next_102 ?_
        refine r_nmS (fun σ62 => ?_)
        refine r_iconst (v := 0) hC dX12_next_105 (by decide) ?_
        refine r_istore_n (lv' := [(2, .int 0), (1, .int v16), (0, .ref (wA w 0))]) hC dX12_next_106 rfl (by decide) rfl ?_
        refine r_lv [2, 0] rfl ?_
        exact w_X12_next_l107 hC hret σ62 FU 0 σ62
    · refine r_aload_n hC dX12_next_65 rfl 1 rfl ?_
      refine r_iconst (v := 0) hC dX12_next_66 (by decide) ?_
      refine r_putI hC clX12 0 19 rfl rfl rfl (hC.n rfl) rfl rfl lf_X12_194 dX12_next_67 ?_
      refine r_nmS (fun σ78 => ?_)
      refine r_aload_n hC dX12_next_70 rfl 1 rfl ?_
      refine r_aload_n hC dX12_next_71 rfl 1 rfl ?_
      refine r_getI hC clX12 0 18 rfl rfl (hC.n rfl) rfl lf_X12_179 dX12_next_72 ?_
      refine r_nmI (fun v79 => ?_)
      refine r_putI hC clX12 0 20 rfl rfl rfl (hC.n rfl) rfl rfl lf_X12_191 dX12_next_75 ?_
      refine r_nmS (fun σ80 => ?_)
      refine r_goto hC 372 dX12_next_78 (by decide) ?_
      exact r_vret hC hret dX12_next_372
set_option maxHeartbeats 4000000 in
set_option maxRecDepth 100000 in
theorem c_X12_fail {l : Launch} {w : Wd} (hW : HWd w shM rM 29) (σ : St)   : ∀ res, f_X12_fail σ = some res → MtV l yX12_fail cX12_fail 1 0 0 w [.ref (wA w 0)] σ res := by
  refine mt_V (by decide) rfl hW (fun X hl0 hC hret => ?_)
  show RF X w (Aw w (xs_ X).heap.size) 1 (QV X w) (f_X12_fail σ) 0 [(0, .ref (wA w 0))] [] σ
  unfold f_X12_fail
  refine r_aload_n hC dX12_fail_0 rfl 0 rfl ?_
  refine r_getZ hC clX12 0 24 rfl rfl (hC.n rfl) rfl lf_X12_217 dX12_fail_1 ?_
  refine r_nmI (fun v1 => ?_)
  refine r_if_ne hC 20 dX12_fail_4 (by decide) (fun c2 => ?_) (fun c2 => ?_)
  · exact r_vret hC hret dX12_fail_20
  · refine r_aload_n hC dX12_fail_7 rfl 0 rfl ?_
    refine r_iconst (v := 1) hC dX12_fail_8 (by decide) ?_
    refine r_putZ hC clX12 0 24 (Or.inr rfl) rfl rfl rfl (hC.n rfl) rfl rfl lf_X12_217 dX12_fail_9 ?_
    refine r_nmS (fun σ3 => ?_)
    refine r_aload_n hC dX12_fail_12 rfl 0 rfl ?_
    refine r_aload_n hC dX12_fail_13 rfl 0 rfl ?_
    refine r_getI hC clX12 0 20 rfl rfl (hC.n rfl) rfl lf_X12_191 dX12_fail_14 ?_
    refine r_nmI (fun v4 => ?_)
    refine r_putI hC clX12 0 25 rfl rfl rfl (hC.n rfl) rfl rfl lf_X12_221 dX12_fail_17 ?_
    refine r_nmS (fun σ5 => ?_)
    exact r_vret hC hret dX12_fail_20
set_option maxHeartbeats 4000000 in
set_option maxRecDepth 100000 in
theorem c_X12_isWord {l : Launch} {w : Wd} (hW : HWd w shM rM 29) (σ : St) (a2 : Int64)  : ∀ res, f_X12_isWord σ a2 = some res → MtI l yX12_isWord cX12_isWord 3 .boolean 0 0 w [.ref (wA w 0), .long a2] σ (res, σ) := by
  refine mt_P (by decide) rfl hW (fun X hl0 hC hret => ?_)
  show RF X w (Aw w (xs_ X).heap.size) 3 (fun r => QI X w (r, σ)) (f_X12_isWord σ a2) 0 [(0, .ref (wA w 0)), (1, .long a2)] [] σ
  unfold f_X12_isWord
  refine r_aload_n hC dX12_isWord_0 rfl 0 rfl ?_
  refine r_getZ hC clX12 0 24 rfl rfl (hC.n rfl) rfl lf_X12_217 dX12_isWord_1 ?_
  refine r_nmI (fun v1 => ?_)
  refine r_if_ne hC 28 dX12_isWord_4 (by decide) (fun c2 => ?_) (fun c2 => ?_)
  · refine r_iconst (v := 0) hC dX12_isWord_28 (by decide) ?_
    exact r_iretP hC hret rfl dX12_isWord_29
  · refine r_aload_n hC dX12_isWord_7 rfl 0 rfl ?_
    refine r_getI hC clX12 0 19 rfl rfl (hC.n rfl) rfl lf_X12_194 dX12_isWord_8 ?_
    refine r_nmI (fun v3 => ?_)
    refine r_iconst (v := 1) hC dX12_isWord_11 (by decide) ?_
    refine r_icmp_ne hC 28 dX12_isWord_12 (by decide) (fun c4 => ?_) (fun c4 => ?_)
    · refine r_iconst (v := 0) hC dX12_isWord_28 (by decide) ?_
      exact r_iretP hC hret rfl dX12_isWord_29
    · refine r_aload_n hC dX12_isWord_15 rfl 0 rfl ?_
      refine r_getL hC clX12 0 21 rfl rfl (hC.n rfl) rfl lf_X12_201 dX12_isWord_16 ?_
      refine r_nmL (fun v5 => ?_)
      refine r_lload_n hC dX12_isWord_19 rfl 1 rfl ?_
      refine r_lcmp_ne hC 28 dX12_isWord_20 dX12_isWord_21 (by decide) (fun c6 => ?_) (fun c6 => ?_)
      · refine r_iconst (v := 0) hC dX12_isWord_28 (by decide) ?_
        exact r_iretP hC hret rfl dX12_isWord_29
      · refine r_iconst (v := 1) hC dX12_isWord_24 (by decide) ?_
        refine r_goto hC 29 dX12_isWord_25 (by decide) ?_
        exact r_iretP hC hret rfl dX12_isWord_29
set_option maxHeartbeats 4000000 in
set_option maxRecDepth 100000 in
theorem c_X12_isSign {l : Launch} {w : Wd} (hW : HWd w shM rM 29) (σ : St) (a2 : Int32)  : ∀ res, f_X12_isSign σ a2 = some res → MtI l yX12_isSign cX12_isSign 2 .boolean 0 0 w [.ref (wA w 0), .int a2] σ (res, σ) := by
  refine mt_P (by decide) rfl hW (fun X hl0 hC hret => ?_)
  show RF X w (Aw w (xs_ X).heap.size) 2 (fun r => QI X w (r, σ)) (f_X12_isSign σ a2) 0 [(0, .ref (wA w 0)), (1, .int a2)] [] σ
  unfold f_X12_isSign
  refine r_aload_n hC dX12_isSign_0 rfl 0 rfl ?_
  refine r_getZ hC clX12 0 24 rfl rfl (hC.n rfl) rfl lf_X12_217 dX12_isSign_1 ?_
  refine r_nmI (fun v1 => ?_)
  refine r_if_ne hC 29 dX12_isSign_4 (by decide) (fun c2 => ?_) (fun c2 => ?_)
  · refine r_iconst (v := 0) hC dX12_isSign_29 (by decide) ?_
    exact r_iretP hC hret rfl dX12_isSign_30
  · refine r_aload_n hC dX12_isSign_7 rfl 0 rfl ?_
    refine r_getI hC clX12 0 19 rfl rfl (hC.n rfl) rfl lf_X12_194 dX12_isSign_8 ?_
    refine r_nmI (fun v3 => ?_)
    refine r_iconst (v := 3) hC dX12_isSign_11 (by decide) ?_
    refine r_icmp_ne hC 29 dX12_isSign_12 (by decide) (fun c4 => ?_) (fun c4 => ?_)
    · refine r_iconst (v := 0) hC dX12_isSign_29 (by decide) ?_
      exact r_iretP hC hret rfl dX12_isSign_30
    · refine r_aload_n hC dX12_isSign_15 rfl 0 rfl ?_
      refine r_getL hC clX12 0 21 rfl rfl (hC.n rfl) rfl lf_X12_201 dX12_isSign_16 ?_
      refine r_nmL (fun v5 => ?_)
      refine r_iload_n hC dX12_isSign_19 rfl 1 rfl ?_
      refine r_i2l hC dX12_isSign_20 ?_
      refine r_lcmp_ne hC 29 dX12_isSign_21 dX12_isSign_22 (by decide) (fun c6 => ?_) (fun c6 => ?_)
      · refine r_iconst (v := 0) hC dX12_isSign_29 (by decide) ?_
        exact r_iretP hC hret rfl dX12_isSign_30
      · refine r_iconst (v := 1) hC dX12_isSign_25 (by decide) ?_
        refine r_goto hC 30 dX12_isSign_26 (by decide) ?_
        exact r_iretP hC hret rfl dX12_isSign_30
set_option maxHeartbeats 4000000 in
set_option maxRecDepth 100000 in
theorem c_X12_opens {l : Launch} {w : Wd} (hW : HWd w shM rM 29) (σ : St)   : ∀ res, f_X12_opens σ = some res → MtI l yX12_opens cX12_opens 1 .boolean 2 47 w [.ref (wA w 0)] σ res := by
  refine mt_I (by decide) rfl hW (fun X hl0 hC hret => ?_)
  show RF X w (Aw w (xs_ X).heap.size) 1 (QI X w) (f_X12_opens σ) 0 [(0, .ref (wA w 0))] [] σ
  unfold f_X12_opens
  refine r_aload_n hC dX12_opens_0 rfl 0 rfl ?_
  refine r_getI hC clX12 0 23 rfl rfl (hC.n rfl) rfl lf_X12_224 dX12_opens_1 ?_
  refine r_nmI (fun v1 => ?_)
  refine r_iconst (v := 5) hC dX12_opens_4 (by decide) ?_
  refine r_icmp_ne hC 14 dX12_opens_5 (by decide) (fun c2 => ?_) (fun c2 => ?_)
  · refine r_aload_n hC dX12_opens_14 rfl 0 rfl ?_
    refine r_dup hC dX12_opens_15 rfl ?_
    refine r_getI hC clX12 0 23 rfl rfl (hC.n rfl) rfl lf_X12_224 dX12_opens_16 ?_
    refine r_nmI (fun v3 => ?_)
    refine r_iconst (v := 1) hC dX12_opens_19 (by decide) ?_
    refine r_iadd hC dX12_opens_20 ?_
    refine r_putI hC clX12 0 23 rfl rfl rfl (hC.n rfl) rfl rfl lf_X12_224 dX12_opens_21 ?_
    refine r_nmS (fun σ4 => ?_)
    refine r_aload_n hC dX12_opens_24 rfl 0 rfl ?_
    refine r_callVV hC (b := 0) (ci := 12) (st := []) [] rfl (hC.n rfl) rfl rfl (c_X12_next hC.w σ4) yk_X12_next lm_X12_230 rfl ⟨rfl, rfl⟩ rfl dX12_opens_25 (fun σ5 => ?_)
    refine r_iconst (v := 1) hC dX12_opens_28 (by decide) ?_
    exact r_iret hC hret rfl dX12_opens_29
  · refine r_aload_n hC dX12_opens_8 rfl 0 rfl ?_
    refine r_callVV hC (b := 0) (ci := 12) (st := []) [] rfl (hC.n rfl) rfl rfl (c_X12_fail hC.w σ) yk_X12_fail lm_X12_227 rfl ⟨rfl, rfl⟩ rfl dX12_opens_9 (fun σ6 => ?_)
    refine r_iconst (v := 0) hC dX12_opens_12 (by decide) ?_
    exact r_iret hC hret rfl dX12_opens_13
set_option maxHeartbeats 4000000 in
set_option maxRecDepth 100000 in
theorem c_X12_name {l : Launch} {w : Wd} (hW : HWd w shM rM 29) (σ : St)   : ∀ res, f_X12_name σ = some res → MtI l yX12_name cX12_name 1 .int 1 22 w [.ref (wA w 0)] σ res := by
  refine mt_I (by decide) rfl hW (fun X hl0 hC hret => ?_)
  show RF X w (Aw w (xs_ X).heap.size) 1 (QI X w) (f_X12_name σ) 0 [(0, .ref (wA w 0))] [] σ
  unfold f_X12_name
  refine r_aload_n hC dX12_name_0 rfl 0 rfl ?_
  refine r_ldc2 (v := 3497099) hC lc_X12_233 dX12_name_1 ?_
  refine r_callVP hC (b := 0) (ci := 12) (st := []) [.long 3497099] rfl (hC.n rfl) rfl rfl (c_X12_isWord hC.w σ 3497099) yk_X12_isWord lm_X12_235 rfl ⟨rfl, rfl⟩ rfl dX12_name_4 (fun v1 => ?_)
  refine r_if_eq hC 15 dX12_name_7 (by decide) (fun c2 => ?_) (fun c2 => ?_)
  · refine r_aload_n hC dX12_name_15 rfl 0 rfl ?_
    refine r_ldc2 (v := 10502465) hC lc_X12_242 dX12_name_16 ?_
    refine r_callVP hC (b := 0) (ci := 12) (st := []) [.long 10502465] rfl (hC.n rfl) rfl rfl (c_X12_isWord hC.w σ 10502465) yk_X12_isWord lm_X12_235 rfl ⟨rfl, rfl⟩ rfl dX12_name_19 (fun v3 => ?_)
    refine r_if_eq hC 30 dX12_name_22 (by decide) (fun c4 => ?_) (fun c4 => ?_)
    · refine r_aload_n hC dX12_name_30 rfl 0 rfl ?_
      refine r_ldc2 (v := 377669) hC lc_X12_247 dX12_name_31 ?_
      refine r_callVP hC (b := 0) (ci := 12) (st := []) [.long 377669] rfl (hC.n rfl) rfl rfl (c_X12_isWord hC.w σ 377669) yk_X12_isWord lm_X12_235 rfl ⟨rfl, rfl⟩ rfl dX12_name_34 (fun v5 => ?_)
      refine r_if_eq hC 45 dX12_name_37 (by decide) (fun c6 => ?_) (fun c6 => ?_)
      · refine r_aload_n hC dX12_name_45 rfl 0 rfl ?_
        refine r_ldc2 (v := 141471) hC lc_X12_252 dX12_name_46 ?_
        refine r_callVP hC (b := 0) (ci := 12) (st := []) [.long 141471] rfl (hC.n rfl) rfl rfl (c_X12_isWord hC.w σ 141471) yk_X12_isWord lm_X12_235 rfl ⟨rfl, rfl⟩ rfl dX12_name_49 (fun v7 => ?_)
        refine r_if_eq hC 65 dX12_name_52 (by decide) (fun c8 => ?_) (fun c8 => ?_)
        · refine r_aload_n hC dX12_name_65 rfl 0 rfl ?_
          refine r_ldc2 (v := 10416091) hC lc_X12_254 dX12_name_66 ?_
          refine r_callVP hC (b := 0) (ci := 12) (st := []) [.long 10416091] rfl (hC.n rfl) rfl rfl (c_X12_isWord hC.w σ 10416091) yk_X12_isWord lm_X12_235 rfl ⟨rfl, rfl⟩ rfl dX12_name_69 (fun v9 => ?_)
          refine r_if_eq hC 80 dX12_name_72 (by decide) (fun c10 => ?_) (fun c10 => ?_)
          · refine r_aload_n hC dX12_name_80 rfl 0 rfl ?_
            refine r_ldc2 (v := 283623584) hC lc_X12_259 dX12_name_81 ?_
            refine r_callVP hC (b := 0) (ci := 12) (st := []) [.long 283623584] rfl (hC.n rfl) rfl rfl (c_X12_isWord hC.w σ 283623584) yk_X12_isWord lm_X12_235 rfl ⟨rfl, rfl⟩ rfl dX12_name_84 (fun v11 => ?_)
            refine r_if_eq hC 95 dX12_name_87 (by decide) (fun c12 => ?_) (fun c12 => ?_)
            · refine r_aload_n hC dX12_name_95 rfl 0 rfl ?_
              refine r_callVV hC (b := 0) (ci := 12) (st := []) [] rfl (hC.n rfl) rfl rfl (c_X12_fail hC.w σ) yk_X12_fail lm_X12_227 rfl ⟨rfl, rfl⟩ rfl dX12_name_96 (fun σ13 => ?_)
              refine r_iconst (v := 0) hC dX12_name_99 (by decide) ?_
              exact r_iret hC hret rfl dX12_name_100
            · refine r_aload_n hC dX12_name_90 rfl 0 rfl ?_
              refine r_getI hC clX12 0 30 rfl rfl (hC.n rfl) rfl lf_X12_261 dX12_name_91 ?_
              refine r_nmI (fun v14 => ?_)
              exact r_iret hC hret rfl dX12_name_94
          · refine r_aload_n hC dX12_name_75 rfl 0 rfl ?_
            refine r_getI hC clX12 0 29 rfl rfl (hC.n rfl) rfl lf_X12_256 dX12_name_76 ?_
            refine r_nmI (fun v15 => ?_)
            exact r_iret hC hret rfl dX12_name_79
        · refine r_aload_n hC dX12_name_55 rfl 0 rfl ?_
          refine r_getR hC clX12 0 14 10 rfl rfl rfl (hC.n rfl) rfl lf_X12_41 dX12_name_56 ?_
          refine r_aload_n hC dX12_name_59 rfl 0 rfl ?_
          refine r_getI hC clX12 0 28 rfl rfl (hC.n rfl) rfl lf_X12_249 dX12_name_60 ?_
          refine r_nmI (fun v16 => ?_)
          refine r_gd (fun g17 => ?_)
          refine r_iald hC 10 8 rfl rfl g17 dX12_name_63 ?_
          refine r_nmI (fun v18 => ?_)
          exact r_iret hC hret rfl dX12_name_64
      · refine r_aload_n hC dX12_name_40 rfl 0 rfl ?_
        refine r_getI hC clX12 0 28 rfl rfl (hC.n rfl) rfl lf_X12_249 dX12_name_41 ?_
        refine r_nmI (fun v19 => ?_)
        exact r_iret hC hret rfl dX12_name_44
    · refine r_aload_n hC dX12_name_25 rfl 0 rfl ?_
      refine r_getI hC clX12 0 27 rfl rfl (hC.n rfl) rfl lf_X12_244 dX12_name_26 ?_
      refine r_nmI (fun v20 => ?_)
      exact r_iret hC hret rfl dX12_name_29
  · refine r_aload_n hC dX12_name_10 rfl 0 rfl ?_
    refine r_getI hC clX12 0 26 rfl rfl (hC.n rfl) rfl lf_X12_239 dX12_name_11 ?_
    refine r_nmI (fun v21 => ?_)
    exact r_iret hC hret rfl dX12_name_14
set_option maxHeartbeats 4000000 in
set_option maxRecDepth 100000 in
theorem cb_X12_one {l : Launch} {w : Wd} (hW : HWd w shM rM 29) (dd : Nat) (rc : Nat → St → Option (Int32 × St)) (hr0 : ∀ (σ : St)  (res : (Int32 × St)), rc 0 σ  = some res → MtI l yX12_one cX12_one 2 .int (3 + dd) (67 + 40 * dd) w [.ref (wA w 0)] σ res) (hr5 : ∀ (σ : St)  (res : (Int32 × St)), rc 5 σ  = some res → MtI l yX12_either cX12_either 3 .int (3 + dd) (67 + 40 * dd) w [.ref (wA w 0)] σ res) (σ : St)  : ∀ res, fb_X12_one rc σ = some res → MtI l yX12_one cX12_one 2 .int (3 + (dd + 1)) (67 + 40 * (dd + 1)) w [.ref (wA w 0)] σ res := by
  refine mt_I (by decide) rfl hW (fun X hl0 hC hret => ?_)
  subst hl0
  show RF X w (Aw w (xs_ X).heap.size) 2 (QI X w) (fb_X12_one rc σ) 0 [(0, .ref (wA w 0))] [] σ
  unfold fb_X12_one
  refine r_iconst (v := 0) hC dX12_one_0 (by decide) ?_
  refine r_istore_n (lv' := [(1, .int 0), (0, .ref (wA w 0))]) hC dX12_one_1 rfl (by decide) rfl ?_
  refine r_aload_n hC dX12_one_2 rfl 1 rfl ?_
  refine r_bipush (v := 45) hC dX12_one_3 (by decide) ?_
  refine r_callVP hC (b := 0) (ci := 12) (st := []) [.int 45] rfl (hC.n rfl) rfl rfl (c_X12_isSign hC.w σ 45) yk_X12_isSign lm_X12_264 rfl ⟨Nat.ble_eq.mpr (by omega), Nat.ble_eq.mpr (by omega)⟩ rfl dX12_one_5 (fun v1 => ?_)
  refine r_if_eq hC 37 dX12_one_8 (by decide) (fun c2 => ?_) (fun c2 => ?_)
  · refine r_aload_n hC dX12_one_37 rfl 1 rfl ?_
    refine r_bipush (v := 40) hC dX12_one_38 (by decide) ?_
    refine r_callVP hC (b := 0) (ci := 12) (st := []) [.int 40] rfl (hC.n rfl) rfl rfl (c_X12_isSign hC.w σ 40) yk_X12_isSign lm_X12_264 rfl ⟨Nat.ble_eq.mpr (by omega), Nat.ble_eq.mpr (by omega)⟩ rfl dX12_one_40 (fun v3 => ?_)
    refine r_if_eq hC 95 dX12_one_43 (by decide) (fun c4 => ?_) (fun c4 => ?_)
    · refine r_aload_n hC dX12_one_95 rfl 1 rfl ?_
      refine r_getZ hC clX12 0 24 rfl rfl (hC.n rfl) rfl lf_X12_217 dX12_one_96 ?_
      refine r_nmI (fun v5 => ?_)
      refine r_jn (T := fun (j6 : Option (Int32 × St)) => RF X w (Aw w (xs_ X).heap.size) 2 (QI X w) j6 123 [(0, .ref (wA w 0)), (1, .int 0)] [] σ) ?_ (fun j6 hj6 => ?_)
      · refine r_aload_n hC dX12_one_123 rfl 0 rfl ?_
        refine r_getZ hC clX12 0 24 rfl rfl (hC.n rfl) rfl lf_X12_217 dX12_one_124 ?_
        refine r_nmI (fun v7 => ?_)
        refine r_jn (T := fun (j8 : Option (Int32 × St)) => RF X w (Aw w (xs_ X).heap.size) 2 (QI X w) j8 157 [(0, .ref (wA w 0)), (1, .int 0)] [] σ) ?_ (fun j8 hj8 => ?_)
        · refine r_aload_n hC dX12_one_157 rfl 0 rfl ?_
          refine r_callVV hC (b := 0) (ci := 12) (st := []) [] rfl (hC.n rfl) rfl rfl (c_X12_fail hC.w σ) yk_X12_fail lm_X12_227 rfl ⟨Nat.ble_eq.mpr (by omega), Nat.ble_eq.mpr (by omega)⟩ rfl dX12_one_158 (fun σ9 => ?_)
          refine r_iload_n hC dX12_one_161 rfl 1 rfl ?_
          exact r_iret hC hret rfl dX12_one_162
        · refine r_if_ne hC 157 dX12_one_127 (by decide) (fun c10 => ?_) (fun c10 => ?_)
          · exact r_lv [0, 1] rfl hj8
          · refine r_aload_n hC dX12_one_130 rfl 0 rfl ?_
            refine r_getI hC clX12 0 19 rfl rfl (hC.n rfl) rfl lf_X12_194 dX12_one_131 ?_
            refine r_nmI (fun v11 => ?_)
            refine r_iconst (v := 1) hC dX12_one_134 (by decide) ?_
            refine r_icmp_ne hC 157 dX12_one_135 (by decide) (fun c12 => ?_) (fun c12 => ?_)
            · exact r_lv [0, 1] rfl hj8
            · refine r_aload_n hC dX12_one_138 rfl 0 rfl ?_
              refine r_callVI hC (b := 0) (ci := 12) (st := []) [] rfl (hC.n rfl) rfl rfl (c_X12_name hC.w σ) yk_X12_name lm_X12_278 rfl ⟨Nat.ble_eq.mpr (by omega), Nat.ble_eq.mpr (by omega)⟩ rfl dX12_one_139 (fun v13 σ14 => ?_)
              refine r_istore_n (lv' := [(1, .int v13), (0, .ref (wA w 0))]) hC dX12_one_142 rfl (by decide) rfl ?_
              refine r_aload_n hC dX12_one_143 rfl 1 rfl ?_
              refine r_getZ hC clX12 0 24 rfl rfl (hC.n rfl) rfl lf_X12_217 dX12_one_144 ?_
              refine r_nmI (fun v15 => ?_)
              refine r_if_ne hC 161 dX12_one_147 (by decide) (fun c16 => ?_) (fun c16 => ?_)
              · refine r_iload_n hC dX12_one_161 rfl 0 rfl ?_
                exact r_iret hC hret rfl dX12_one_162
              · refine r_aload_n hC dX12_one_150 rfl 1 rfl ?_
                refine r_callVV hC (b := 0) (ci := 12) (st := []) [] rfl (hC.n rfl) rfl rfl (c_X12_next hC.w σ14) yk_X12_next lm_X12_230 rfl ⟨Nat.ble_eq.mpr (by omega), Nat.ble_eq.mpr (by omega)⟩ rfl dX12_one_151 (fun σ17 => ?_)
                refine r_goto hC 161 dX12_one_154 (by decide) ?_
                refine r_iload_n hC dX12_one_161 rfl 0 rfl ?_
                exact r_iret hC hret rfl dX12_one_162
      · refine r_if_ne hC 123 dX12_one_99 (by decide) (fun c18 => ?_) (fun c18 => ?_)
        · exact r_lv [1, 0] rfl hj6
        · refine r_aload_n hC dX12_one_102 rfl 1 rfl ?_
          refine r_getI hC clX12 0 19 rfl rfl (hC.n rfl) rfl lf_X12_194 dX12_one_103 ?_
          refine r_nmI (fun v19 => ?_)
          refine r_iconst (v := 2) hC dX12_one_106 (by decide) ?_
          refine r_icmp_ne hC 123 dX12_one_107 (by decide) (fun c20 => ?_) (fun c20 => ?_)
          · exact r_lv [1, 0] rfl hj6
          · refine r_aload_n hC dX12_one_110 rfl 1 rfl ?_
            refine r_getL hC clX12 0 21 rfl rfl (hC.n rfl) rfl lf_X12_201 dX12_one_111 ?_
            refine r_nmL (fun v21 => ?_)
            refine r_l2i hC dX12_one_114 ?_
            refine r_nmI (fun v22 => ?_)
            refine r_istore_n (lv' := [(1, .int v22), (0, .ref (wA w 0))]) hC dX12_one_115 rfl (by decide) rfl ?_
            refine r_aload_n hC dX12_one_116 rfl 1 rfl ?_
            refine r_callVV hC (b := 0) (ci := 12) (st := []) [] rfl (hC.n rfl) rfl rfl (c_X12_next hC.w σ) yk_X12_next lm_X12_230 rfl ⟨Nat.ble_eq.mpr (by omega), Nat.ble_eq.mpr (by omega)⟩ rfl dX12_one_117 (fun σ23 => ?_)
            refine r_goto hC 161 dX12_one_120 (by decide) ?_
            refine r_iload_n hC dX12_one_161 rfl 0 rfl ?_
            exact r_iret hC hret rfl dX12_one_162
    · refine r_aload_n hC dX12_one_46 rfl 1 rfl ?_
      refine r_callVI hC (b := 0) (ci := 12) (st := []) [] rfl (hC.n rfl) rfl rfl (c_X12_opens hC.w σ) yk_X12_opens lm_X12_267 rfl ⟨Nat.ble_eq.mpr (by omega), Nat.ble_eq.mpr (by omega)⟩ rfl dX12_one_47 (fun v24 σ25 => ?_)
      refine r_if_eq hC 161 dX12_one_50 (by decide) (fun c26 => ?_) (fun c26 => ?_)
      · refine r_iload_n hC dX12_one_161 rfl 0 rfl ?_
        exact r_iret hC hret rfl dX12_one_162
      · refine r_aload_n hC dX12_one_53 rfl 1 rfl ?_
        refine r_callVI hC (b := 0) (ci := 12) (st := []) [] rfl (hC.n rfl) rfl rfl (hr5 σ25) yk_X12_either lm_X12_275 rfl ⟨Nat.ble_eq.mpr (by omega), Nat.ble_eq.mpr (by omega)⟩ rfl dX12_one_54 (fun v27 σ28 => ?_)
        refine r_istore_n (lv' := [(1, .int v27), (0, .ref (wA w 0))]) hC dX12_one_57 rfl (by decide) rfl ?_
        refine r_aload_n hC dX12_one_58 rfl 1 rfl ?_
        refine r_bipush (v := 41) hC dX12_one_59 (by decide) ?_
        refine r_callVP hC (b := 0) (ci := 12) (st := []) [.int 41] rfl (hC.n rfl) rfl rfl (c_X12_isSign hC.w σ28 41) yk_X12_isSign lm_X12_264 rfl ⟨Nat.ble_eq.mpr (by omega), Nat.ble_eq.mpr (by omega)⟩ rfl dX12_one_61 (fun v29 => ?_)
        refine r_jn (T := fun (j31 : St → Option (Int32 × St)) => ∀ (σ30 : St), RF X w (Aw w (xs_ X).heap.size) 2 (QI X w) (j31 σ30) 71 [(0, .ref (wA w 0)), (1, .int v27)] [] σ30) ?_ (fun j31 hj31 => ?_)
        · intro σ30
          refine r_aload_n hC dX12_one_71 rfl 0 rfl ?_
          refine r_dup hC dX12_one_72 rfl ?_
          refine r_getI hC clX12 0 23 rfl rfl (hC.n rfl) rfl lf_X12_224 dX12_one_73 ?_
          refine r_nmI (fun v32 => ?_)
          refine r_iconst (v := 1) hC dX12_one_76 (by decide) ?_
          refine r_isub hC dX12_one_77 ?_
          refine r_putI hC clX12 0 23 rfl rfl rfl (hC.n rfl) rfl rfl lf_X12_224 dX12_one_78 ?_
          refine r_nmS (fun σ33 => ?_)
          refine r_aload_n hC dX12_one_81 rfl 0 rfl ?_
          refine r_getZ hC clX12 0 24 rfl rfl (hC.n rfl) rfl lf_X12_217 dX12_one_82 ?_
          refine r_nmI (fun v34 => ?_)
          refine r_if_ne hC 161 dX12_one_85 (by decide) (fun c35 => ?_) (fun c35 => ?_)
          · refine r_iload_n hC dX12_one_161 rfl 1 rfl ?_
            exact r_iret hC hret rfl dX12_one_162
          · refine r_aload_n hC dX12_one_88 rfl 0 rfl ?_
            refine r_callVV hC (b := 0) (ci := 12) (st := []) [] rfl (hC.n rfl) rfl rfl (c_X12_next hC.w σ33) yk_X12_next lm_X12_230 rfl ⟨Nat.ble_eq.mpr (by omega), Nat.ble_eq.mpr (by omega)⟩ rfl dX12_one_89 (fun σ36 => ?_)
            refine r_goto hC 161 dX12_one_92 (by decide) ?_
            refine r_iload_n hC dX12_one_161 rfl 1 rfl ?_
            exact r_iret hC hret rfl dX12_one_162
        · refine r_if_ne hC 71 dX12_one_64 (by decide) (fun c37 => ?_) (fun c37 => ?_)
          · exact r_lv [1, 0] rfl (hj31 σ28)
          · refine r_aload_n hC dX12_one_67 rfl 1 rfl ?_
            refine r_callVV hC (b := 0) (ci := 12) (st := []) [] rfl (hC.n rfl) rfl rfl (c_X12_fail hC.w σ28) yk_X12_fail lm_X12_227 rfl ⟨Nat.ble_eq.mpr (by omega), Nat.ble_eq.mpr (by omega)⟩ rfl dX12_one_68 (fun σ38 => ?_)
            exact r_lv [1, 0] rfl (hj31 σ38)
  · refine r_aload_n hC dX12_one_11 rfl 1 rfl ?_
    refine r_callVI hC (b := 0) (ci := 12) (st := []) [] rfl (hC.n rfl) rfl rfl (c_X12_opens hC.w σ) yk_X12_opens lm_X12_267 rfl ⟨Nat.ble_eq.mpr (by omega), Nat.ble_eq.mpr (by omega)⟩ rfl dX12_one_12 (fun v39 σ40 => ?_)
    refine r_if_eq hC 161 dX12_one_15 (by decide) (fun c41 => ?_) (fun c41 => ?_)
    · refine r_iload_n hC dX12_one_161 rfl 0 rfl ?_
      exact r_iret hC hret rfl dX12_one_162
    · refine r_aload_n hC dX12_one_18 rfl 1 rfl ?_
      refine r_callVI hC (b := 0) (ci := 12) (st := []) [] rfl (hC.n rfl) rfl rfl (hr0 σ40) yk_X12_one lm_X12_271 rfl ⟨Nat.ble_eq.mpr (by omega), Nat.ble_eq.mpr (by omega)⟩ rfl dX12_one_19 (fun v42 σ43 => ?_)
      refine r_ineg hC dX12_one_22 ?_
      refine r_istore_n (lv' := [(1, .int (-v42)), (0, .ref (wA w 0))]) hC dX12_one_23 rfl (by decide) rfl ?_
      refine r_aload_n hC dX12_one_24 rfl 1 rfl ?_
      refine r_dup hC dX12_one_25 rfl ?_
      refine r_getI hC clX12 0 23 rfl rfl (hC.n rfl) rfl lf_X12_224 dX12_one_26 ?_
      refine r_nmI (fun v44 => ?_)
      refine r_iconst (v := 1) hC dX12_one_29 (by decide) ?_
      refine r_isub hC dX12_one_30 ?_
      refine r_putI hC clX12 0 23 rfl rfl rfl (hC.n rfl) rfl rfl lf_X12_224 dX12_one_31 ?_
      refine r_nmS (fun σ45 => ?_)
      refine r_goto hC 161 dX12_one_34 (by decide) ?_
      refine r_iload_n hC dX12_one_161 rfl 0 rfl ?_
      exact r_iret hC hret rfl dX12_one_162
set_option maxHeartbeats 4000000 in
set_option maxRecDepth 100000 in
theorem w_X12_term_l5 {dd : Nat} {X : Mc} {w : Wd} (hC : Cok X w (Aw w (xs_ X).heap.size) yX12_term.cls cX12_term 2 (3 + (dd + 1)) (67 + 40 * (dd + 1)) shM rM 29) (hret : (xmeth X).sig.returnType = some .int) (rc : Nat → St → Option (Int32 × St)) (σ : St) (σ2 : St) (hr0 : ∀ (σ : St)  (res : (Int32 × St)), rc 0 σ  = some res → MtI X.2.1 yX12_one cX12_one 2 .int (3 + dd) (67 + 40 * dd) w [.ref (wA w 0)] σ res)    : ∀ (n : Nat) (x3 : Int32) (σ4 : St), RF X w (Aw w (xs_ X).heap.size) 2 (QI X w) (f_X12_term_l5 rc n x3 σ4) 5 [(0, .ref (wA w 0)), (1, .int x3)] [] σ4 := by
  intro n
  induction n with
  | zero => intro x3 σ4; rw [f_X12_term_l5]; exact r_none
  | succ n ih =>
    intro x3 σ4
    rw [f_X12_term_l5]
    refine r_aload_n hC dX12_term_5 rfl 0 rfl ?_
    refine r_bipush (v := 42) hC dX12_term_6 (by decide) ?_
    refine r_callVP hC (b := 0) (ci := 12) (st := []) [.int 42] rfl (hC.n rfl) rfl rfl (c_X12_isSign hC.w σ4 42) yk_X12_isSign lm_X12_264 rfl ⟨Nat.ble_eq.mpr (by omega), Nat.ble_eq.mpr (by omega)⟩ rfl dX12_term_8 (fun v5 => ?_)
    refine r_if_eq hC 28 dX12_term_11 (by decide) (fun c6 => ?_) (fun c6 => ?_)
    · refine r_iload_n hC dX12_term_28 rfl 1 rfl ?_
      exact r_iret hC hret rfl dX12_term_29
    · refine r_aload_n hC dX12_term_14 rfl 0 rfl ?_
      refine r_callVV hC (b := 0) (ci := 12) (st := []) [] rfl (hC.n rfl) rfl rfl (c_X12_next hC.w σ4) yk_X12_next lm_X12_230 rfl ⟨Nat.ble_eq.mpr (by omega), Nat.ble_eq.mpr (by omega)⟩ rfl dX12_term_15 (fun σ7 => ?_)
      refine r_iload_n hC dX12_term_18 rfl 1 rfl ?_
      refine r_aload_n hC dX12_term_19 rfl 0 rfl ?_
      refine r_callVI hC (b := 0) (ci := 12) (st := [.int x3]) [] rfl (hC.n rfl) rfl rfl (hr0 σ7) yk_X12_one lm_X12_271 rfl ⟨Nat.ble_eq.mpr (by omega), Nat.ble_eq.mpr (by omega)⟩ rfl dX12_term_20 (fun v8 σ9 => ?_)
      refine r_imul hC dX12_term_23 ?_
      refine r_nmI (fun v10 => ?_)
      refine r_istore_n (lv' := [(1, .int v10), (0, .ref (wA w 0))]) hC dX12_term_24 rfl (by decide) rfl ?_
      refine r_goto hC 5 dX12_term_25 (by decide) ?_
      exact r_lv [1, 0] rfl (ih v10 σ9)
set_option maxHeartbeats 4000000 in
set_option maxRecDepth 100000 in
theorem cb_X12_term {l : Launch} {w : Wd} (hW : HWd w shM rM 29) (dd : Nat) (rc : Nat → St → Option (Int32 × St)) (hr0 : ∀ (σ : St)  (res : (Int32 × St)), rc 0 σ  = some res → MtI l yX12_one cX12_one 2 .int (3 + dd) (67 + 40 * dd) w [.ref (wA w 0)] σ res) (σ : St)  : ∀ res, fb_X12_term rc σ = some res → MtI l yX12_term cX12_term 2 .int (3 + (dd + 1)) (67 + 40 * (dd + 1)) w [.ref (wA w 0)] σ res := by
  refine mt_I (by decide) rfl hW (fun X hl0 hC hret => ?_)
  subst hl0
  show RF X w (Aw w (xs_ X).heap.size) 2 (QI X w) (fb_X12_term rc σ) 0 [(0, .ref (wA w 0))] [] σ
  unfold fb_X12_term
  refine r_aload_n hC dX12_term_0 rfl 0 rfl ?_
  refine r_callVI hC (b := 0) (ci := 12) (st := []) [] rfl (hC.n rfl) rfl rfl (hr0 σ) yk_X12_one lm_X12_271 rfl ⟨Nat.ble_eq.mpr (by omega), Nat.ble_eq.mpr (by omega)⟩ rfl dX12_term_1 (fun v1 σ2 => ?_)
  refine r_istore_n (lv' := [(1, .int v1), (0, .ref (wA w 0))]) hC dX12_term_4 rfl (by decide) rfl ?_
  refine r_lv [1, 0] rfl ?_
  exact w_X12_term_l5 hC hret rc σ σ2 hr0 FU v1 σ2
set_option maxHeartbeats 4000000 in
set_option maxRecDepth 100000 in
theorem w_X12_added_l5 {dd : Nat} {X : Mc} {w : Wd} (hC : Cok X w (Aw w (xs_ X).heap.size) yX12_added.cls cX12_added 4 (3 + (dd + 1)) (67 + 40 * (dd + 1)) shM rM 29) (hret : (xmeth X).sig.returnType = some .int) (rc : Nat → St → Option (Int32 × St)) (σ : St) (σ2 : St) (hr1 : ∀ (σ : St)  (res : (Int32 × St)), rc 1 σ  = some res → MtI X.2.1 yX12_term cX12_term 2 .int (3 + dd) (67 + 40 * dd) w [.ref (wA w 0)] σ res)    : ∀ (n : Nat) (x3 : Int32) (σ4 : St), RF X w (Aw w (xs_ X).heap.size) 4 (QI X w) (f_X12_added_l5 rc n x3 σ4) 5 [(0, .ref (wA w 0)), (1, .int x3)] [] σ4 := by
  intro n
  induction n with
  | zero => intro x3 σ4; rw [f_X12_added_l5]; exact r_none
  | succ n ih =>
    intro x3 σ4
    rw [f_X12_added_l5]
    refine r_aload_n hC dX12_added_5 rfl 0 rfl ?_
    refine r_bipush (v := 43) hC dX12_added_6 (by decide) ?_
    refine r_callVP hC (b := 0) (ci := 12) (st := []) [.int 43] rfl (hC.n rfl) rfl rfl (c_X12_isSign hC.w σ4 43) yk_X12_isSign lm_X12_264 rfl ⟨Nat.ble_eq.mpr (by omega), Nat.ble_eq.mpr (by omega)⟩ rfl dX12_added_8 (fun v5 => ?_)
    refine r_jn (T := fun (j6 : Option (Int32 × St)) => RF X w (Aw w (xs_ X).heap.size) 4 (QI X w) j6 23 [(0, .ref (wA w 0)), (1, .int x3)] [] σ4) ?_ (fun j6 hj6 => ?_)
    · refine r_aload_n hC dX12_added_23 rfl 0 rfl ?_
      refine r_getL hC clX12 0 21 rfl rfl (hC.n rfl) rfl lf_X12_201 dX12_added_24 ?_
      refine r_nmL (fun v7 => ?_)
      refine r_ldc2 (v := 43) hC lc_X12_284 dX12_added_27 ?_
      refine r_jn (T := fun (j9 : Int32 → Option (Int32 × St)) => ∀ (t8 : Int32), RF X w (Aw w (xs_ X).heap.size) 4 (QI X w) (j9 t8) 39 [(0, .ref (wA w 0)), (1, .int x3)] [.int t8] σ4) ?_ (fun j9 hj9 => ?_)
      · intro t8
        refine r_istore_n (lv' := [(2, .int t8), (0, .ref (wA w 0)), (1, .int x3)]) hC dX12_added_39 rfl (by decide) rfl ?_
        refine r_aload_n hC dX12_added_40 rfl 1 rfl ?_
        refine r_callVV hC (b := 0) (ci := 12) (st := []) [] rfl (hC.n rfl) rfl rfl (c_X12_next hC.w σ4) yk_X12_next lm_X12_230 rfl ⟨Nat.ble_eq.mpr (by omega), Nat.ble_eq.mpr (by omega)⟩ rfl dX12_added_41 (fun σ10 => ?_)
        refine r_aload_n hC dX12_added_44 rfl 1 rfl ?_
        refine r_callVI hC (b := 0) (ci := 12) (st := []) [] rfl (hC.n rfl) rfl rfl (hr1 σ10) yk_X12_term lm_X12_281 rfl ⟨Nat.ble_eq.mpr (by omega), Nat.ble_eq.mpr (by omega)⟩ rfl dX12_added_45 (fun v11 σ12 => ?_)
        refine r_istore_n (lv' := [(3, .int v11), (2, .int t8), (0, .ref (wA w 0)), (1, .int x3)]) hC dX12_added_48 rfl (by decide) rfl ?_
        refine r_iload_n hC dX12_added_49 rfl 1 rfl ?_
        refine r_jn (T := fun (j14 : Int32 → Option (Int32 × St)) => ∀ (t13 : Int32), RF X w (Aw w (xs_ X).heap.size) 4 (QI X w) (j14 t13) 62 [(0, .ref (wA w 0))] [.int t13] σ12) ?_ (fun j14 hj14 => ?_)
        · intro t13
          refine r_istore_n (lv' := [(1, .int t13), (0, .ref (wA w 0))]) hC dX12_added_62 rfl (by decide) rfl ?_
          refine r_goto hC 5 dX12_added_63 (by decide) ?_
          exact r_lv [1, 0] rfl (ih t13 σ12)
        · refine r_if_eq hC 59 dX12_added_50 (by decide) (fun c15 => ?_) (fun c15 => ?_)
          · refine r_iload_n hC dX12_added_59 rfl 3 rfl ?_
            refine r_iload_n hC dX12_added_60 rfl 0 rfl ?_
            refine r_isub hC dX12_added_61 ?_
            exact r_lv [2] rfl (hj14 (x3 - v11))
          · refine r_iload_n hC dX12_added_53 rfl 3 rfl ?_
            refine r_iload_n hC dX12_added_54 rfl 0 rfl ?_
            refine r_iadd hC dX12_added_55 ?_
            refine r_goto hC 62 dX12_added_56 (by decide) ?_
            exact r_lv [2] rfl (hj14 (x3 + v11))
      · refine r_lcmp_ne hC 38 dX12_added_30 dX12_added_31 (by decide) (fun c16 => ?_) (fun c16 => ?_)
        · refine r_iconst (v := 0) hC dX12_added_38 (by decide) ?_
          exact r_lv [0, 1] rfl (hj9 0)
        · refine r_iconst (v := 1) hC dX12_added_34 (by decide) ?_
          refine r_goto hC 39 dX12_added_35 (by decide) ?_
          exact r_lv [0, 1] rfl (hj9 1)
    · refine r_if_ne hC 23 dX12_added_11 (by decide) (fun c17 => ?_) (fun c17 => ?_)
      · exact r_lv [0, 1] rfl hj6
      · refine r_aload_n hC dX12_added_14 rfl 0 rfl ?_
        refine r_bipush (v := 45) hC dX12_added_15 (by decide) ?_
        refine r_callVP hC (b := 0) (ci := 12) (st := []) [.int 45] rfl (hC.n rfl) rfl rfl (c_X12_isSign hC.w σ4 45) yk_X12_isSign lm_X12_264 rfl ⟨Nat.ble_eq.mpr (by omega), Nat.ble_eq.mpr (by omega)⟩ rfl dX12_added_17 (fun v18 => ?_)
        refine r_if_eq hC 66 dX12_added_20 (by decide) (fun c19 => ?_) (fun c19 => ?_)
        · refine r_iload_n hC dX12_added_66 rfl 1 rfl ?_
          exact r_iret hC hret rfl dX12_added_67
        · exact r_lv [0, 1] rfl hj6
set_option maxHeartbeats 4000000 in
set_option maxRecDepth 100000 in
theorem cb_X12_added {l : Launch} {w : Wd} (hW : HWd w shM rM 29) (dd : Nat) (rc : Nat → St → Option (Int32 × St)) (hr1 : ∀ (σ : St)  (res : (Int32 × St)), rc 1 σ  = some res → MtI l yX12_term cX12_term 2 .int (3 + dd) (67 + 40 * dd) w [.ref (wA w 0)] σ res) (σ : St)  : ∀ res, fb_X12_added rc σ = some res → MtI l yX12_added cX12_added 4 .int (3 + (dd + 1)) (67 + 40 * (dd + 1)) w [.ref (wA w 0)] σ res := by
  refine mt_I (by decide) rfl hW (fun X hl0 hC hret => ?_)
  subst hl0
  show RF X w (Aw w (xs_ X).heap.size) 4 (QI X w) (fb_X12_added rc σ) 0 [(0, .ref (wA w 0))] [] σ
  unfold fb_X12_added
  refine r_aload_n hC dX12_added_0 rfl 0 rfl ?_
  refine r_callVI hC (b := 0) (ci := 12) (st := []) [] rfl (hC.n rfl) rfl rfl (hr1 σ) yk_X12_term lm_X12_281 rfl ⟨Nat.ble_eq.mpr (by omega), Nat.ble_eq.mpr (by omega)⟩ rfl dX12_added_1 (fun v1 σ2 => ?_)
  refine r_istore_n (lv' := [(1, .int v1), (0, .ref (wA w 0))]) hC dX12_added_4 rfl (by decide) rfl ?_
  refine r_lv [1, 0] rfl ?_
  exact w_X12_added_l5 hC hret rc σ σ2 hr1 FU v1 σ2
set_option maxHeartbeats 4000000 in
set_option maxRecDepth 100000 in
theorem cb_X12_not {l : Launch} {w : Wd} (hW : HWd w shM rM 29) (dd : Nat) (rc : Nat → St → Option (Int32 × St)) (hr2 : ∀ (σ : St)  (res : (Int32 × St)), rc 2 σ  = some res → MtI l yX12_added cX12_added 4 .int (3 + dd) (67 + 40 * dd) w [.ref (wA w 0)] σ res) (hr3 : ∀ (σ : St)  (res : (Int32 × St)), rc 3 σ  = some res → MtI l yX12_not cX12_not 4 .int (3 + dd) (67 + 40 * dd) w [.ref (wA w 0)] σ res) (σ : St)  : ∀ res, fb_X12_not rc σ = some res → MtI l yX12_not cX12_not 4 .int (3 + (dd + 1)) (67 + 40 * (dd + 1)) w [.ref (wA w 0)] σ res := by
  refine mt_I (by decide) rfl hW (fun X hl0 hC hret => ?_)
  subst hl0
  show RF X w (Aw w (xs_ X).heap.size) 4 (QI X w) (fb_X12_not rc σ) 0 [(0, .ref (wA w 0))] [] σ
  unfold fb_X12_not
  refine r_aload_n hC dX12_not_0 rfl 0 rfl ?_
  refine r_ldc2 (v := 10631) hC lc_X12_286 dX12_not_1 ?_
  refine r_callVP hC (b := 0) (ci := 12) (st := []) [.long 10631] rfl (hC.n rfl) rfl rfl (c_X12_isWord hC.w σ 10631) yk_X12_isWord lm_X12_235 rfl ⟨Nat.ble_eq.mpr (by omega), Nat.ble_eq.mpr (by omega)⟩ rfl dX12_not_4 (fun v1 => ?_)
  refine r_if_eq hC 44 dX12_not_7 (by decide) (fun c2 => ?_) (fun c2 => ?_)
  · refine r_aload_n hC dX12_not_44 rfl 0 rfl ?_
    refine r_callVI hC (b := 0) (ci := 12) (st := []) [] rfl (hC.n rfl) rfl rfl (hr2 σ) yk_X12_added lm_X12_291 rfl ⟨Nat.ble_eq.mpr (by omega), Nat.ble_eq.mpr (by omega)⟩ rfl dX12_not_45 (fun v3 σ4 => ?_)
    refine r_istore_n (lv' := [(1, .int v3), (0, .ref (wA w 0))]) hC dX12_not_48 rfl (by decide) rfl ?_
    refine r_aload_n hC dX12_not_49 rfl 1 rfl ?_
    refine r_bipush (v := 60) hC dX12_not_50 (by decide) ?_
    refine r_callVP hC (b := 0) (ci := 12) (st := []) [.int 60] rfl (hC.n rfl) rfl rfl (c_X12_isSign hC.w σ4 60) yk_X12_isSign lm_X12_264 rfl ⟨Nat.ble_eq.mpr (by omega), Nat.ble_eq.mpr (by omega)⟩ rfl dX12_not_52 (fun v5 => ?_)
    refine r_jn (T := fun (j6 : Option (Int32 × St)) => RF X w (Aw w (xs_ X).heap.size) 4 (QI X w) j6 69 [(0, .ref (wA w 0)), (1, .int v3)] [] σ4) ?_ (fun j6 hj6 => ?_)
    · refine r_aload_n hC dX12_not_69 rfl 0 rfl ?_
      refine r_getL hC clX12 0 21 rfl rfl (hC.n rfl) rfl lf_X12_201 dX12_not_70 ?_
      refine r_nmL (fun v7 => ?_)
      refine r_ldc2 (v := 60) hC lc_X12_294 dX12_not_73 ?_
      refine r_jn (T := fun (j9 : Int32 → Option (Int32 × St)) => ∀ (t8 : Int32), RF X w (Aw w (xs_ X).heap.size) 4 (QI X w) (j9 t8) 85 [(0, .ref (wA w 0)), (1, .int v3)] [.int t8] σ4) ?_ (fun j9 hj9 => ?_)
      · intro t8
        refine r_istore_n (lv' := [(2, .int t8), (0, .ref (wA w 0)), (1, .int v3)]) hC dX12_not_85 rfl (by decide) rfl ?_
        refine r_aload_n hC dX12_not_86 rfl 1 rfl ?_
        refine r_callVV hC (b := 0) (ci := 12) (st := []) [] rfl (hC.n rfl) rfl rfl (c_X12_next hC.w σ4) yk_X12_next lm_X12_230 rfl ⟨Nat.ble_eq.mpr (by omega), Nat.ble_eq.mpr (by omega)⟩ rfl dX12_not_87 (fun σ10 => ?_)
        refine r_aload_n hC dX12_not_90 rfl 1 rfl ?_
        refine r_callVI hC (b := 0) (ci := 12) (st := []) [] rfl (hC.n rfl) rfl rfl (hr2 σ10) yk_X12_added lm_X12_291 rfl ⟨Nat.ble_eq.mpr (by omega), Nat.ble_eq.mpr (by omega)⟩ rfl dX12_not_91 (fun v11 σ12 => ?_)
        refine r_istore_n (lv' := [(3, .int v11), (2, .int t8), (0, .ref (wA w 0)), (1, .int v3)]) hC dX12_not_94 rfl (by decide) rfl ?_
        refine r_iload_n hC dX12_not_95 rfl 1 rfl ?_
        refine r_if_eq hC 107 dX12_not_96 (by decide) (fun c13 => ?_) (fun c13 => ?_)
        · refine r_iload_n hC dX12_not_107 rfl 3 rfl ?_
          refine r_iload_n hC dX12_not_108 rfl 0 rfl ?_
          refine r_icmp_ne hC 116 dX12_not_109 (by decide) (fun c14 => ?_) (fun c14 => ?_)
          · refine r_iconst (v := 0) hC dX12_not_116 (by decide) ?_
            exact r_iret hC hret rfl dX12_not_117
          · refine r_iconst (v := 1) hC dX12_not_112 (by decide) ?_
            refine r_goto hC 117 dX12_not_113 (by decide) ?_
            exact r_iret hC hret rfl dX12_not_117
        · refine r_iload_n hC dX12_not_99 rfl 3 rfl ?_
          refine r_iload_n hC dX12_not_100 rfl 0 rfl ?_
          refine r_icmp_ge hC 116 dX12_not_101 (by decide) (fun c15 => ?_) (fun c15 => ?_)
          · refine r_iconst (v := 0) hC dX12_not_116 (by decide) ?_
            exact r_iret hC hret rfl dX12_not_117
          · refine r_goto hC 112 dX12_not_104 (by decide) ?_
            refine r_iconst (v := 1) hC dX12_not_112 (by decide) ?_
            refine r_goto hC 117 dX12_not_113 (by decide) ?_
            exact r_iret hC hret rfl dX12_not_117
      · refine r_lcmp_ne hC 84 dX12_not_76 dX12_not_77 (by decide) (fun c16 => ?_) (fun c16 => ?_)
        · refine r_iconst (v := 0) hC dX12_not_84 (by decide) ?_
          exact r_lv [0, 1] rfl (hj9 0)
        · refine r_iconst (v := 1) hC dX12_not_80 (by decide) ?_
          refine r_goto hC 85 dX12_not_81 (by decide) ?_
          exact r_lv [0, 1] rfl (hj9 1)
    · refine r_if_ne hC 69 dX12_not_55 (by decide) (fun c17 => ?_) (fun c17 => ?_)
      · exact r_lv [1, 0] rfl hj6
      · refine r_aload_n hC dX12_not_58 rfl 1 rfl ?_
        refine r_bipush (v := 61) hC dX12_not_59 (by decide) ?_
        refine r_callVP hC (b := 0) (ci := 12) (st := []) [.int 61] rfl (hC.n rfl) rfl rfl (c_X12_isSign hC.w σ4 61) yk_X12_isSign lm_X12_264 rfl ⟨Nat.ble_eq.mpr (by omega), Nat.ble_eq.mpr (by omega)⟩ rfl dX12_not_61 (fun v18 => ?_)
        refine r_if_ne hC 69 dX12_not_64 (by decide) (fun c19 => ?_) (fun c19 => ?_)
        · exact r_lv [1, 0] rfl hj6
        · refine r_iload_n hC dX12_not_67 rfl 0 rfl ?_
          exact r_iret hC hret rfl dX12_not_68
  · refine r_aload_n hC dX12_not_10 rfl 0 rfl ?_
    refine r_callVI hC (b := 0) (ci := 12) (st := []) [] rfl (hC.n rfl) rfl rfl (c_X12_opens hC.w σ) yk_X12_opens lm_X12_267 rfl ⟨Nat.ble_eq.mpr (by omega), Nat.ble_eq.mpr (by omega)⟩ rfl dX12_not_11 (fun v20 σ21 => ?_)
    refine r_if_ne hC 19 dX12_not_14 (by decide) (fun c22 => ?_) (fun c22 => ?_)
    · refine r_aload_n hC dX12_not_19 rfl 0 rfl ?_
      refine r_callVI hC (b := 0) (ci := 12) (st := []) [] rfl (hC.n rfl) rfl rfl (hr3 σ21) yk_X12_not lm_X12_288 rfl ⟨Nat.ble_eq.mpr (by omega), Nat.ble_eq.mpr (by omega)⟩ rfl dX12_not_20 (fun v23 σ24 => ?_)
      refine r_istore_n (lv' := [(1, .int v23), (0, .ref (wA w 0))]) hC dX12_not_23 rfl (by decide) rfl ?_
      refine r_aload_n hC dX12_not_24 rfl 1 rfl ?_
      refine r_dup hC dX12_not_25 rfl ?_
      refine r_getI hC clX12 0 23 rfl rfl (hC.n rfl) rfl lf_X12_224 dX12_not_26 ?_
      refine r_nmI (fun v25 => ?_)
      refine r_iconst (v := 1) hC dX12_not_29 (by decide) ?_
      refine r_isub hC dX12_not_30 ?_
      refine r_putI hC clX12 0 23 rfl rfl rfl (hC.n rfl) rfl rfl lf_X12_224 dX12_not_31 ?_
      refine r_nmS (fun σ26 => ?_)
      refine r_iload_n hC dX12_not_34 rfl 0 rfl ?_
      refine r_if_ne hC 42 dX12_not_35 (by decide) (fun c27 => ?_) (fun c27 => ?_)
      · refine r_iconst (v := 0) hC dX12_not_42 (by decide) ?_
        exact r_iret hC hret rfl dX12_not_43
      · refine r_iconst (v := 1) hC dX12_not_38 (by decide) ?_
        refine r_goto hC 43 dX12_not_39 (by decide) ?_
        exact r_iret hC hret rfl dX12_not_43
    · refine r_iconst (v := 0) hC dX12_not_17 (by decide) ?_
      exact r_iret hC hret rfl dX12_not_18
set_option maxHeartbeats 4000000 in
set_option maxRecDepth 100000 in
theorem w_X12_both_l5 {dd : Nat} {X : Mc} {w : Wd} (hC : Cok X w (Aw w (xs_ X).heap.size) yX12_both.cls cX12_both 3 (3 + (dd + 1)) (67 + 40 * (dd + 1)) shM rM 29) (hret : (xmeth X).sig.returnType = some .int) (rc : Nat → St → Option (Int32 × St)) (σ : St) (σ2 : St) (hr3 : ∀ (σ : St)  (res : (Int32 × St)), rc 3 σ  = some res → MtI X.2.1 yX12_not cX12_not 4 .int (3 + dd) (67 + 40 * dd) w [.ref (wA w 0)] σ res)    : ∀ (n : Nat) (x3 : Int32) (σ4 : St), RF X w (Aw w (xs_ X).heap.size) 3 (QI X w) (f_X12_both_l5 rc n x3 σ4) 5 [(0, .ref (wA w 0)), (1, .int x3)] [] σ4 := by
  intro n
  induction n with
  | zero => intro x3 σ4; rw [f_X12_both_l5]; exact r_none
  | succ n ih =>
    intro x3 σ4
    rw [f_X12_both_l5]
    refine r_aload_n hC dX12_both_5 rfl 0 rfl ?_
    refine r_ldc2 (v := 1111) hC lc_X12_296 dX12_both_6 ?_
    refine r_callVP hC (b := 0) (ci := 12) (st := []) [.long 1111] rfl (hC.n rfl) rfl rfl (c_X12_isWord hC.w σ4 1111) yk_X12_isWord lm_X12_235 rfl ⟨Nat.ble_eq.mpr (by omega), Nat.ble_eq.mpr (by omega)⟩ rfl dX12_both_9 (fun v5 => ?_)
    refine r_if_eq hC 41 dX12_both_12 (by decide) (fun c6 => ?_) (fun c6 => ?_)
    · refine r_iload_n hC dX12_both_41 rfl 1 rfl ?_
      exact r_iret hC hret rfl dX12_both_42
    · refine r_aload_n hC dX12_both_15 rfl 0 rfl ?_
      refine r_callVV hC (b := 0) (ci := 12) (st := []) [] rfl (hC.n rfl) rfl rfl (c_X12_next hC.w σ4) yk_X12_next lm_X12_230 rfl ⟨Nat.ble_eq.mpr (by omega), Nat.ble_eq.mpr (by omega)⟩ rfl dX12_both_16 (fun σ7 => ?_)
      refine r_aload_n hC dX12_both_19 rfl 0 rfl ?_
      refine r_callVI hC (b := 0) (ci := 12) (st := []) [] rfl (hC.n rfl) rfl rfl (hr3 σ7) yk_X12_not lm_X12_288 rfl ⟨Nat.ble_eq.mpr (by omega), Nat.ble_eq.mpr (by omega)⟩ rfl dX12_both_20 (fun v8 σ9 => ?_)
      refine r_istore_n (lv' := [(2, .int v8), (0, .ref (wA w 0)), (1, .int x3)]) hC dX12_both_23 rfl (by decide) rfl ?_
      refine r_iload_n hC dX12_both_24 rfl 2 rfl ?_
      refine r_jn (T := fun (j11 : Int32 → Option (Int32 × St)) => ∀ (t10 : Int32), RF X w (Aw w (xs_ X).heap.size) 3 (QI X w) (j11 t10) 37 [(0, .ref (wA w 0))] [.int t10] σ9) ?_ (fun j11 hj11 => ?_)
      · intro t10
        refine r_istore_n (lv' := [(1, .int t10), (0, .ref (wA w 0))]) hC dX12_both_37 rfl (by decide) rfl ?_
        refine r_goto hC 5 dX12_both_38 (by decide) ?_
        exact r_lv [1, 0] rfl (ih t10 σ9)
      · refine r_jn (T := fun (j12 : Option (Int32 × St)) => RF X w (Aw w (xs_ X).heap.size) 3 (QI X w) j12 36 [(0, .ref (wA w 0))] [] σ9) ?_ (fun j12 hj12 => ?_)
        · refine r_iconst (v := 0) hC dX12_both_36 (by decide) ?_
          exact r_lv [0] rfl (hj11 0)
        · refine r_if_eq hC 36 dX12_both_25 (by decide) (fun c13 => ?_) (fun c13 => ?_)
          · exact r_lv [1] rfl hj12
          · refine r_iload_n hC dX12_both_28 rfl 0 rfl ?_
            refine r_if_eq hC 36 dX12_both_29 (by decide) (fun c14 => ?_) (fun c14 => ?_)
            · exact r_lv [1] rfl hj12
            · refine r_iconst (v := 1) hC dX12_both_32 (by decide) ?_
              refine r_goto hC 37 dX12_both_33 (by decide) ?_
              exact r_lv [1] rfl (hj11 1)
set_option maxHeartbeats 4000000 in
set_option maxRecDepth 100000 in
theorem cb_X12_both {l : Launch} {w : Wd} (hW : HWd w shM rM 29) (dd : Nat) (rc : Nat → St → Option (Int32 × St)) (hr3 : ∀ (σ : St)  (res : (Int32 × St)), rc 3 σ  = some res → MtI l yX12_not cX12_not 4 .int (3 + dd) (67 + 40 * dd) w [.ref (wA w 0)] σ res) (σ : St)  : ∀ res, fb_X12_both rc σ = some res → MtI l yX12_both cX12_both 3 .int (3 + (dd + 1)) (67 + 40 * (dd + 1)) w [.ref (wA w 0)] σ res := by
  refine mt_I (by decide) rfl hW (fun X hl0 hC hret => ?_)
  subst hl0
  show RF X w (Aw w (xs_ X).heap.size) 3 (QI X w) (fb_X12_both rc σ) 0 [(0, .ref (wA w 0))] [] σ
  unfold fb_X12_both
  refine r_aload_n hC dX12_both_0 rfl 0 rfl ?_
  refine r_callVI hC (b := 0) (ci := 12) (st := []) [] rfl (hC.n rfl) rfl rfl (hr3 σ) yk_X12_not lm_X12_288 rfl ⟨Nat.ble_eq.mpr (by omega), Nat.ble_eq.mpr (by omega)⟩ rfl dX12_both_1 (fun v1 σ2 => ?_)
  refine r_istore_n (lv' := [(1, .int v1), (0, .ref (wA w 0))]) hC dX12_both_4 rfl (by decide) rfl ?_
  refine r_lv [1, 0] rfl ?_
  exact w_X12_both_l5 hC hret rc σ σ2 hr3 FU v1 σ2
set_option maxHeartbeats 4000000 in
set_option maxRecDepth 100000 in
theorem w_X12_either_l5 {dd : Nat} {X : Mc} {w : Wd} (hC : Cok X w (Aw w (xs_ X).heap.size) yX12_either.cls cX12_either 3 (3 + (dd + 1)) (67 + 40 * (dd + 1)) shM rM 29) (hret : (xmeth X).sig.returnType = some .int) (rc : Nat → St → Option (Int32 × St)) (σ : St) (σ2 : St) (hr4 : ∀ (σ : St)  (res : (Int32 × St)), rc 4 σ  = some res → MtI X.2.1 yX12_both cX12_both 3 .int (3 + dd) (67 + 40 * dd) w [.ref (wA w 0)] σ res)    : ∀ (n : Nat) (x3 : Int32) (σ4 : St), RF X w (Aw w (xs_ X).heap.size) 3 (QI X w) (f_X12_either_l5 rc n x3 σ4) 5 [(0, .ref (wA w 0)), (1, .int x3)] [] σ4 := by
  intro n
  induction n with
  | zero => intro x3 σ4; rw [f_X12_either_l5]; exact r_none
  | succ n ih =>
    intro x3 σ4
    rw [f_X12_either_l5]
    refine r_aload_n hC dX12_either_5 rfl 0 rfl ?_
    refine r_ldc2 (v := 423) hC lc_X12_301 dX12_either_6 ?_
    refine r_callVP hC (b := 0) (ci := 12) (st := []) [.long 423] rfl (hC.n rfl) rfl rfl (c_X12_isWord hC.w σ4 423) yk_X12_isWord lm_X12_235 rfl ⟨Nat.ble_eq.mpr (by omega), Nat.ble_eq.mpr (by omega)⟩ rfl dX12_either_9 (fun v5 => ?_)
    refine r_if_eq hC 41 dX12_either_12 (by decide) (fun c6 => ?_) (fun c6 => ?_)
    · refine r_iload_n hC dX12_either_41 rfl 1 rfl ?_
      exact r_iret hC hret rfl dX12_either_42
    · refine r_aload_n hC dX12_either_15 rfl 0 rfl ?_
      refine r_callVV hC (b := 0) (ci := 12) (st := []) [] rfl (hC.n rfl) rfl rfl (c_X12_next hC.w σ4) yk_X12_next lm_X12_230 rfl ⟨Nat.ble_eq.mpr (by omega), Nat.ble_eq.mpr (by omega)⟩ rfl dX12_either_16 (fun σ7 => ?_)
      refine r_aload_n hC dX12_either_19 rfl 0 rfl ?_
      refine r_callVI hC (b := 0) (ci := 12) (st := []) [] rfl (hC.n rfl) rfl rfl (hr4 σ7) yk_X12_both lm_X12_298 rfl ⟨Nat.ble_eq.mpr (by omega), Nat.ble_eq.mpr (by omega)⟩ rfl dX12_either_20 (fun v8 σ9 => ?_)
      refine r_istore_n (lv' := [(2, .int v8), (0, .ref (wA w 0)), (1, .int x3)]) hC dX12_either_23 rfl (by decide) rfl ?_
      refine r_iload_n hC dX12_either_24 rfl 2 rfl ?_
      refine r_jn (T := fun (j11 : Int32 → Option (Int32 × St)) => ∀ (t10 : Int32), RF X w (Aw w (xs_ X).heap.size) 3 (QI X w) (j11 t10) 37 [(0, .ref (wA w 0))] [.int t10] σ9) ?_ (fun j11 hj11 => ?_)
      · intro t10
        refine r_istore_n (lv' := [(1, .int t10), (0, .ref (wA w 0))]) hC dX12_either_37 rfl (by decide) rfl ?_
        refine r_goto hC 5 dX12_either_38 (by decide) ?_
        exact r_lv [1, 0] rfl (ih t10 σ9)
      · refine r_jn (T := fun (j12 : Option (Int32 × St)) => RF X w (Aw w (xs_ X).heap.size) 3 (QI X w) j12 32 [(0, .ref (wA w 0))] [] σ9) ?_ (fun j12 hj12 => ?_)
        · refine r_iconst (v := 1) hC dX12_either_32 (by decide) ?_
          refine r_goto hC 37 dX12_either_33 (by decide) ?_
          exact r_lv [0] rfl (hj11 1)
        · refine r_if_ne hC 32 dX12_either_25 (by decide) (fun c13 => ?_) (fun c13 => ?_)
          · exact r_lv [1] rfl hj12
          · refine r_iload_n hC dX12_either_28 rfl 0 rfl ?_
            refine r_if_eq hC 36 dX12_either_29 (by decide) (fun c14 => ?_) (fun c14 => ?_)
            · refine r_iconst (v := 0) hC dX12_either_36 (by decide) ?_
              exact r_lv [1] rfl (hj11 0)
            · exact r_lv [1] rfl hj12
set_option maxHeartbeats 4000000 in
set_option maxRecDepth 100000 in
theorem cb_X12_either {l : Launch} {w : Wd} (hW : HWd w shM rM 29) (dd : Nat) (rc : Nat → St → Option (Int32 × St)) (hr4 : ∀ (σ : St)  (res : (Int32 × St)), rc 4 σ  = some res → MtI l yX12_both cX12_both 3 .int (3 + dd) (67 + 40 * dd) w [.ref (wA w 0)] σ res) (σ : St)  : ∀ res, fb_X12_either rc σ = some res → MtI l yX12_either cX12_either 3 .int (3 + (dd + 1)) (67 + 40 * (dd + 1)) w [.ref (wA w 0)] σ res := by
  refine mt_I (by decide) rfl hW (fun X hl0 hC hret => ?_)
  subst hl0
  show RF X w (Aw w (xs_ X).heap.size) 3 (QI X w) (fb_X12_either rc σ) 0 [(0, .ref (wA w 0))] [] σ
  unfold fb_X12_either
  refine r_aload_n hC dX12_either_0 rfl 0 rfl ?_
  refine r_callVI hC (b := 0) (ci := 12) (st := []) [] rfl (hC.n rfl) rfl rfl (hr4 σ) yk_X12_both lm_X12_298 rfl ⟨Nat.ble_eq.mpr (by omega), Nat.ble_eq.mpr (by omega)⟩ rfl dX12_either_1 (fun v1 σ2 => ?_)
  refine r_istore_n (lv' := [(1, .int v1), (0, .ref (wA w 0))]) hC dX12_either_4 rfl (by decide) rfl ?_
  refine r_lv [1, 0] rfl ?_
  exact w_X12_either_l5 hC hret rc σ σ2 hr4 FU v1 σ2
set_option maxHeartbeats 4000000 in
theorem c_GM {l : Launch} {w : Wd} (hW : HWd w shM rM 29) : ∀ d : Nat, (∀ (σ : St)  (res : (Int32 × St)), f_GM d 0 σ  = some res → MtI l yX12_one cX12_one 2 .int (3 + d) (67 + 40 * d) w [.ref (wA w 0)] σ res) ∧ (∀ (σ : St)  (res : (Int32 × St)), f_GM d 1 σ  = some res → MtI l yX12_term cX12_term 2 .int (3 + d) (67 + 40 * d) w [.ref (wA w 0)] σ res) ∧ (∀ (σ : St)  (res : (Int32 × St)), f_GM d 2 σ  = some res → MtI l yX12_added cX12_added 4 .int (3 + d) (67 + 40 * d) w [.ref (wA w 0)] σ res) ∧ (∀ (σ : St)  (res : (Int32 × St)), f_GM d 3 σ  = some res → MtI l yX12_not cX12_not 4 .int (3 + d) (67 + 40 * d) w [.ref (wA w 0)] σ res) ∧ (∀ (σ : St)  (res : (Int32 × St)), f_GM d 4 σ  = some res → MtI l yX12_both cX12_both 3 .int (3 + d) (67 + 40 * d) w [.ref (wA w 0)] σ res) ∧ (∀ (σ : St)  (res : (Int32 × St)), f_GM d 5 σ  = some res → MtI l yX12_either cX12_either 3 .int (3 + d) (67 + 40 * d) w [.ref (wA w 0)] σ res) := by
  intro d
  induction d with
  | zero => exact ⟨fun σ res h => (by rw [f_GM] at h; cases h), fun σ res h => (by rw [f_GM] at h; cases h), fun σ res h => (by rw [f_GM] at h; cases h), fun σ res h => (by rw [f_GM] at h; cases h), fun σ res h => (by rw [f_GM] at h; cases h), fun σ res h => (by rw [f_GM] at h; cases h)⟩
  | succ d ih =>
    obtain ⟨i0, i1, i2, i3, i4, i5⟩ := ih
    exact ⟨fun σ res h => cb_X12_one hW d (f_GM d) i0 i5 σ res h, fun σ res h => cb_X12_term hW d (f_GM d) i0 σ res h, fun σ res h => cb_X12_added hW d (f_GM d) i1 σ res h, fun σ res h => cb_X12_not hW d (f_GM d) i2 i3 σ res h, fun σ res h => cb_X12_both hW d (f_GM d) i3 σ res h, fun σ res h => cb_X12_either hW d (f_GM d) i4 σ res h⟩
set_option maxHeartbeats 4000000 in
set_option maxRecDepth 100000 in
theorem c_X12_part {l : Launch} {w : Wd} (hW : HWd w shM rM 29) (σ : St) (a2 : Int64)  : ∀ res, f_X12_part σ a2 = some res → MtI l yX12_part cX12_part 4 .int 68 2649 w [.ref (wA w 0), .long a2] σ res := by
  refine mt_I (by decide) rfl hW (fun X hl0 hC hret => ?_)
  show RF X w (Aw w (xs_ X).heap.size) 4 (QI X w) (f_X12_part σ a2) 0 [(0, .ref (wA w 0)), (1, .long a2)] [] σ
  unfold f_X12_part
  refine r_aload_n hC dX12_part_0 rfl 0 rfl ?_
  refine r_lload_n hC dX12_part_1 rfl 1 rfl ?_
  refine r_callVP hC (b := 0) (ci := 12) (st := []) [.long a2] rfl (hC.n rfl) rfl rfl (c_X12_isWord hC.w σ a2) yk_X12_isWord lm_X12_235 rfl ⟨rfl, rfl⟩ rfl dX12_part_2 (fun v1 => ?_)
  refine r_jn (T := fun (j3 : St → Option (Int32 × St)) => ∀ (σ2 : St), RF X w (Aw w (xs_ X).heap.size) 4 (QI X w) (j3 σ2) 12 [(0, .ref (wA w 0))] [] σ2) ?_ (fun j3 hj3 => ?_)
  · intro σ2
    refine r_aload_n hC dX12_part_12 rfl 0 rfl ?_
    refine r_getZ hC clX12 0 24 rfl rfl (hC.n rfl) rfl lf_X12_217 dX12_part_13 ?_
    refine r_nmI (fun v4 => ?_)
    refine r_jn (T := fun (j6 : St → Option (Int32 × St)) => ∀ (σ5 : St), RF X w (Aw w (xs_ X).heap.size) 4 (QI X w) (j6 σ5) 23 [(0, .ref (wA w 0))] [] σ5) ?_ (fun j6 hj6 => ?_)
    · intro σ5
      refine r_aload_n hC dX12_part_23 rfl 0 rfl ?_
      refine r_getZ hC clX12 0 24 rfl rfl (hC.n rfl) rfl lf_X12_217 dX12_part_24 ?_
      refine r_nmI (fun v7 => ?_)
      refine r_jn (T := fun (j10 : Int32 → St → Option (Int32 × St)) => ∀ (t8 : Int32) (σ9 : St), RF X w (Aw w (xs_ X).heap.size) 4 (QI X w) (j10 t8 σ9) 38 [(0, .ref (wA w 0))] [.int t8] σ9) ?_ (fun j10 hj10 => ?_)
      · intro t8 σ9
        refine r_istore_n (lv' := [(3, .int t8), (0, .ref (wA w 0))]) hC dX12_part_38 rfl (by decide) rfl ?_
        refine r_aload_n hC dX12_part_39 rfl 1 rfl ?_
        refine r_bipush (v := 59) hC dX12_part_40 (by decide) ?_
        refine r_callVP hC (b := 0) (ci := 12) (st := []) [.int 59] rfl (hC.n rfl) rfl rfl (c_X12_isSign hC.w σ9 59) yk_X12_isSign lm_X12_264 rfl ⟨rfl, rfl⟩ rfl dX12_part_42 (fun v11 => ?_)
        refine r_jn (T := fun (j13 : St → Option (Int32 × St)) => ∀ (σ12 : St), RF X w (Aw w (xs_ X).heap.size) 4 (QI X w) (j13 σ12) 52 [(0, .ref (wA w 0)), (3, .int t8)] [] σ12) ?_ (fun j13 hj13 => ?_)
        · intro σ12
          refine r_aload_n hC dX12_part_52 rfl 0 rfl ?_
          refine r_getZ hC clX12 0 24 rfl rfl (hC.n rfl) rfl lf_X12_217 dX12_part_53 ?_
          refine r_nmI (fun v14 => ?_)
          refine r_if_ne hC 63 dX12_part_56 (by decide) (fun c15 => ?_) (fun c15 => ?_)
          · refine r_iload_n hC dX12_part_63 rfl 1 rfl ?_
            exact r_iret hC hret rfl dX12_part_64
          · refine r_aload_n hC dX12_part_59 rfl 0 rfl ?_
            refine r_callVV hC (b := 0) (ci := 12) (st := []) [] rfl (hC.n rfl) rfl rfl (c_X12_next hC.w σ12) yk_X12_next lm_X12_230 rfl ⟨rfl, rfl⟩ rfl dX12_part_60 (fun σ16 => ?_)
            refine r_iload_n hC dX12_part_63 rfl 1 rfl ?_
            exact r_iret hC hret rfl dX12_part_64
        · refine r_if_ne hC 52 dX12_part_45 (by decide) (fun c17 => ?_) (fun c17 => ?_)
          · exact r_lv [1, 0] rfl (hj13 σ9)
          · refine r_aload_n hC dX12_part_48 rfl 1 rfl ?_
            refine r_callVV hC (b := 0) (ci := 12) (st := []) [] rfl (hC.n rfl) rfl rfl (c_X12_fail hC.w σ9) yk_X12_fail lm_X12_227 rfl ⟨rfl, rfl⟩ rfl dX12_part_49 (fun σ18 => ?_)
            exact r_lv [1, 0] rfl (hj13 σ18)
      · refine r_if_eq hC 34 dX12_part_27 (by decide) (fun c19 => ?_) (fun c19 => ?_)
        · refine r_aload_n hC dX12_part_34 rfl 0 rfl ?_
          refine r_callVI hC (b := 0) (ci := 12) (st := []) [] rfl (hC.n rfl) rfl rfl ((c_GM hC.w 64).2.2.2.2.2 σ5) yk_X12_either lm_X12_275 rfl ⟨rfl, rfl⟩ rfl dX12_part_35 (fun v20 σ21 => ?_)
          exact r_lv [0] rfl (hj10 v20 σ21)
        · refine r_iconst (v := 0) hC dX12_part_30 (by decide) ?_
          refine r_goto hC 38 dX12_part_31 (by decide) ?_
          exact r_lv [0] rfl (hj10 0 σ5)
    · refine r_if_ne hC 23 dX12_part_16 (by decide) (fun c22 => ?_) (fun c22 => ?_)
      · exact r_lv [0] rfl (hj6 σ2)
      · refine r_aload_n hC dX12_part_19 rfl 0 rfl ?_
        refine r_callVV hC (b := 0) (ci := 12) (st := []) [] rfl (hC.n rfl) rfl rfl (c_X12_next hC.w σ2) yk_X12_next lm_X12_230 rfl ⟨rfl, rfl⟩ rfl dX12_part_20 (fun σ23 => ?_)
        exact r_lv [0] rfl (hj6 σ23)
  · refine r_if_ne hC 12 dX12_part_5 (by decide) (fun c24 => ?_) (fun c24 => ?_)
    · exact r_lv [0] rfl (hj3 σ)
    · refine r_aload_n hC dX12_part_8 rfl 0 rfl ?_
      refine r_callVV hC (b := 0) (ci := 12) (st := []) [] rfl (hC.n rfl) rfl rfl (c_X12_fail hC.w σ) yk_X12_fail lm_X12_227 rfl ⟨rfl, rfl⟩ rfl dX12_part_9 (fun σ25 => ?_)
      exact r_lv [0] rfl (hj3 σ25)
set_option maxHeartbeats 4000000 in
set_option maxRecDepth 100000 in
theorem c_X12_read {l : Launch} {w : Wd} (hW : HWd w shM rM 29) (σ : St) (a2 : Int32) (a3 : Int32) (a4 : Int32) (a5 : Int32) (a6 : Int32) (a7 : Int32)  : ∀ res, f_X12_read σ a2 a3 a4 a5 a6 a7 = some res → MtI l yX12_read cX12_read 9 .int 69 2672 w [.ref (wA w 0), .int a2, .int a3, .int a4, .int a5, .int a6, .int a7] σ res := by
  refine mt_I (by decide) rfl hW (fun X hl0 hC hret => ?_)
  show RF X w (Aw w (xs_ X).heap.size) 9 (QI X w) (f_X12_read σ a2 a3 a4 a5 a6 a7) 0 [(0, .ref (wA w 0)), (1, .int a2), (2, .int a3), (3, .int a4), (4, .int a5), (5, .int a6), (6, .int a7)] [] σ
  unfold f_X12_read
  refine r_aload_n hC dX12_read_0 rfl 0 rfl ?_
  refine r_iload_n hC dX12_read_1 rfl 2 rfl ?_
  refine r_iconst (v := (-1)) hC dX12_read_2 (by decide) ?_
  refine r_jn (T := fun (j2 : Int32 → Option (Int32 × St)) => ∀ (t1 : Int32), RF X w (Aw w (xs_ X).heap.size) 9 (QI X w) (j2 t1) 16 [(0, .ref (wA w 0)), (1, .int a2), (2, .int a3), (3, .int a4), (4, .int a5), (5, .int a6), (6, .int a7)] [.int t1, .ref (wA w 0)] σ) ?_ (fun j2 hj2 => ?_)
  · intro t1
    refine r_putI hC clX12 0 26 rfl rfl rfl (hC.n rfl) rfl rfl lf_X12_239 dX12_read_16 ?_
    refine r_nmS (fun σ3 => ?_)
    refine r_aload_n hC dX12_read_19 rfl 0 rfl ?_
    refine r_iload_n hC dX12_read_20 rfl 2 rfl ?_
    refine r_iconst (v := (-1)) hC dX12_read_21 (by decide) ?_
    refine r_jn (T := fun (j5 : Int32 → Option (Int32 × St)) => ∀ (t4 : Int32), RF X w (Aw w (xs_ X).heap.size) 9 (QI X w) (j5 t4) 35 [(0, .ref (wA w 0)), (1, .int a2), (3, .int a4), (4, .int a5), (5, .int a6), (6, .int a7)] [.int t4, .ref (wA w 0)] σ3) ?_ (fun j5 hj5 => ?_)
    · intro t4
      refine r_putI hC clX12 0 27 rfl rfl rfl (hC.n rfl) rfl rfl lf_X12_244 dX12_read_35 ?_
      refine r_nmS (fun σ6 => ?_)
      refine r_aload_n hC dX12_read_38 rfl 0 rfl ?_
      refine r_iload_n hC dX12_read_39 rfl 2 rfl ?_
      refine r_putI hC clX12 0 28 rfl rfl rfl (hC.n rfl) rfl rfl lf_X12_249 dX12_read_40 ?_
      refine r_nmS (fun σ7 => ?_)
      refine r_aload_n hC dX12_read_43 rfl 0 rfl ?_
      refine r_iload hC dX12_read_44 3 rfl ?_
      refine r_putI hC clX12 0 29 rfl rfl rfl (hC.n rfl) rfl rfl lf_X12_256 dX12_read_46 ?_
      refine r_nmS (fun σ8 => ?_)
      refine r_aload_n hC dX12_read_49 rfl 0 rfl ?_
      refine r_iload hC dX12_read_50 4 rfl ?_
      refine r_putI hC clX12 0 30 rfl rfl rfl (hC.n rfl) rfl rfl lf_X12_261 dX12_read_52 ?_
      refine r_nmS (fun σ9 => ?_)
      refine r_aload_n hC dX12_read_55 rfl 0 rfl ?_
      refine r_sipush (v := 160) hC dX12_read_56 (by decide) ?_
      refine r_iload_n hC dX12_read_59 rfl 1 rfl ?_
      refine r_imul hC dX12_read_60 ?_
      refine r_putI hC clX12 0 17 rfl rfl rfl (hC.n rfl) rfl rfl lf_X12_182 dX12_read_61 ?_
      refine r_nmS (fun σ10 => ?_)
      refine r_aload_n hC dX12_read_64 rfl 0 rfl ?_
      refine r_aload_n hC dX12_read_65 rfl 0 rfl ?_
      refine r_getR hC clX12 0 2 2 rfl rfl rfl (hC.n rfl) rfl lf_X12_17 dX12_read_66 ?_
      refine r_iload_n hC dX12_read_69 rfl 1 rfl ?_
      refine r_gd (fun g11 => ?_)
      refine r_iald hC 2 6 rfl rfl g11 dX12_read_70 ?_
      refine r_nmI (fun v12 => ?_)
      refine r_putI hC clX12 0 18 rfl rfl rfl (hC.n rfl) rfl rfl lf_X12_179 dX12_read_71 ?_
      refine r_nmS (fun σ13 => ?_)
      refine r_aload_n hC dX12_read_74 rfl 0 rfl ?_
      refine r_iconst (v := 0) hC dX12_read_75 (by decide) ?_
      refine r_putI hC clX12 0 22 rfl rfl rfl (hC.n rfl) rfl rfl lf_X12_185 dX12_read_76 ?_
      refine r_nmS (fun σ14 => ?_)
      refine r_aload_n hC dX12_read_79 rfl 0 rfl ?_
      refine r_iconst (v := 0) hC dX12_read_80 (by decide) ?_
      refine r_putI hC clX12 0 23 rfl rfl rfl (hC.n rfl) rfl rfl lf_X12_224 dX12_read_81 ?_
      refine r_nmS (fun σ15 => ?_)
      refine r_aload_n hC dX12_read_84 rfl 0 rfl ?_
      refine r_iconst (v := 0) hC dX12_read_85 (by decide) ?_
      refine r_putZ hC clX12 0 24 (Or.inl rfl) rfl rfl rfl (hC.n rfl) rfl rfl lf_X12_217 dX12_read_86 ?_
      refine r_nmS (fun σ16 => ?_)
      refine r_aload_n hC dX12_read_89 rfl 0 rfl ?_
      refine r_callVV hC (b := 0) (ci := 12) (st := []) [] rfl (hC.n rfl) rfl rfl (c_X12_next hC.w σ16) yk_X12_next lm_X12_230 rfl ⟨rfl, rfl⟩ rfl dX12_read_90 (fun σ17 => ?_)
      refine r_aload_n hC dX12_read_93 rfl 0 rfl ?_
      refine r_ldc2 (v := 144941) hC lc_X12_303 dX12_read_94 ?_
      refine r_callVI hC (b := 0) (ci := 12) (st := []) [.long 144941] rfl (hC.n rfl) rfl rfl (c_X12_part hC.w σ17 144941) yk_X12_part lm_X12_305 rfl ⟨rfl, rfl⟩ rfl dX12_read_97 (fun v18 σ19 => ?_)
      refine r_istore (lv' := [(7, .int v18), (0, .ref (wA w 0)), (1, .int a2), (3, .int a4), (4, .int a5), (5, .int a6), (6, .int a7)]) hC dX12_read_100 (by decide) rfl ?_
      refine r_aload_n hC dX12_read_102 rfl 1 rfl ?_
      refine r_getZ hC clX12 0 24 rfl rfl (hC.n rfl) rfl lf_X12_217 dX12_read_103 ?_
      refine r_nmI (fun v20 => ?_)
      refine r_jn (T := fun (j23 : Int32 → St → Option (Int32 × St)) => ∀ (t21 : Int32) (σ22 : St), RF X w (Aw w (xs_ X).heap.size) 9 (QI X w) (j23 t21 σ22) 120 [(0, .ref (wA w 0)), (6, .int a7), (7, .int v18)] [.int t21] σ22) ?_ (fun j23 hj23 => ?_)
      · intro t21 σ22
        refine r_istore (lv' := [(8, .int t21), (0, .ref (wA w 0)), (6, .int a7), (7, .int v18)]) hC dX12_read_120 (by decide) rfl ?_
        refine r_aload_n hC dX12_read_122 rfl 1 rfl ?_
        refine r_getZ hC clX12 0 24 rfl rfl (hC.n rfl) rfl lf_X12_217 dX12_read_123 ?_
        refine r_nmI (fun v24 => ?_)
        refine r_jn (T := fun (j26 : St → Option (Int32 × St)) => ∀ (σ25 : St), RF X w (Aw w (xs_ X).heap.size) 9 (QI X w) (j26 σ25) 140 [(6, .int a7), (7, .int v18), (8, .int t21)] [] σ25) ?_ (fun j26 hj26 => ?_)
        · intro σ25
          refine r_iload hC dX12_read_140 0 rfl ?_
          refine r_if_ne hC 150 dX12_read_142 (by decide) (fun c27 => ?_) (fun c27 => ?_)
          · refine r_iload hC dX12_read_150 2 rfl ?_
            exact r_iret hC hret rfl dX12_read_152
          · refine r_iload hC dX12_read_145 1 rfl ?_
            refine r_goto hC 152 dX12_read_147 (by decide) ?_
            exact r_iret hC hret rfl dX12_read_152
        · refine r_if_ne hC 140 dX12_read_126 (by decide) (fun c28 => ?_) (fun c28 => ?_)
          · exact r_lv [2, 3, 0] rfl (hj26 σ22)
          · refine r_aload_n hC dX12_read_129 rfl 1 rfl ?_
            refine r_getI hC clX12 0 19 rfl rfl (hC.n rfl) rfl lf_X12_194 dX12_read_130 ?_
            refine r_nmI (fun v29 => ?_)
            refine r_if_eq hC 140 dX12_read_133 (by decide) (fun c30 => ?_) (fun c30 => ?_)
            · exact r_lv [2, 3, 0] rfl (hj26 σ22)
            · refine r_aload_n hC dX12_read_136 rfl 1 rfl ?_
              refine r_callVV hC (b := 0) (ci := 12) (st := []) [] rfl (hC.n rfl) rfl rfl (c_X12_fail hC.w σ22) yk_X12_fail lm_X12_227 rfl ⟨rfl, rfl⟩ rfl dX12_read_137 (fun σ31 => ?_)
              exact r_lv [2, 3, 0] rfl (hj26 σ31)
      · refine r_if_eq hC 113 dX12_read_106 (by decide) (fun c32 => ?_) (fun c32 => ?_)
        · refine r_aload_n hC dX12_read_113 rfl 1 rfl ?_
          refine r_ldc2 (v := 91888) hC lc_X12_309 dX12_read_114 ?_
          refine r_callVI hC (b := 0) (ci := 12) (st := []) [.long 91888] rfl (hC.n rfl) rfl rfl (c_X12_part hC.w σ19 91888) yk_X12_part lm_X12_305 rfl ⟨rfl, rfl⟩ rfl dX12_read_117 (fun v33 σ34 => ?_)
          exact r_lv [1, 6, 0] rfl (hj23 v33 σ34)
        · refine r_iconst (v := 0) hC dX12_read_109 (by decide) ?_
          refine r_goto hC 120 dX12_read_110 (by decide) ?_
          exact r_lv [1, 6, 0] rfl (hj23 0 σ19)
    · refine r_icmp_ne hC 29 dX12_read_22 (by decide) (fun c35 => ?_) (fun c35 => ?_)
      · refine r_aload_n hC dX12_read_29 rfl 0 rfl ?_
        refine r_getR hC clX12 0 34 13 rfl rfl rfl (hC.n rfl) rfl lf_X12_50 dX12_read_30 ?_
        refine r_iload_n hC dX12_read_33 rfl 2 rfl ?_
        refine r_gd (fun g36 => ?_)
        refine r_iald hC 13 16 rfl rfl g36 dX12_read_34 ?_
        refine r_nmI (fun v37 => ?_)
        exact r_lv [0, 1, 3, 4, 5, 6] rfl (hj5 v37)
      · refine r_iconst (v := 0) hC dX12_read_25 (by decide) ?_
        refine r_goto hC 35 dX12_read_26 (by decide) ?_
        exact r_lv [0, 1, 3, 4, 5, 6] rfl (hj5 0)
  · refine r_icmp_ne hC 10 dX12_read_3 (by decide) (fun c38 => ?_) (fun c38 => ?_)
    · refine r_aload_n hC dX12_read_10 rfl 0 rfl ?_
      refine r_getR hC clX12 0 8 5 rfl rfl rfl (hC.n rfl) rfl lf_X12_26 dX12_read_11 ?_
      refine r_iload_n hC dX12_read_14 rfl 2 rfl ?_
      refine r_gd (fun g39 => ?_)
      refine r_iald hC 5 16 rfl rfl g39 dX12_read_15 ?_
      refine r_nmI (fun v40 => ?_)
      exact r_lv [0, 1, 2, 3, 4, 5, 6] rfl (hj2 v40)
    · refine r_iconst (v := 0) hC dX12_read_6 (by decide) ?_
      refine r_goto hC 16 dX12_read_7 (by decide) ?_
      exact r_lv [0, 1, 2, 3, 4, 5, 6] rfl (hj2 0)
set_option maxHeartbeats 4000000 in
set_option maxRecDepth 100000 in
theorem w_X12_text_l14 {X : Mc} {w : Wd} (hC : Cok X w (Aw w (xs_ X).heap.size) yX12_text.cls cX12_text 2 70 2700 shM rM 29) (hret : (xmeth X).sig.returnType = some .int) (σ : St)   (K6 : St → Option (Int32 × St)) (hK6 : ∀ (σ5 : St), RF X w (Aw w (xs_ X).heap.size) 2 (QI X w) (K6 σ5) 49 [(0, .ref (wA w 0))] [] σ5) : ∀ (n : Nat) (x3 : Int32) (σ4 : St), RF X w (Aw w (xs_ X).heap.size) 2 (QI X w) (f_X12_text_l14 K6 n x3 σ4) 14 [(0, .ref (wA w 0)), (1, .int x3)] [] σ4 := by
  intro n
  induction n with
  | zero => intro x3 σ4; rw [f_X12_text_l14]; exact r_none
  | succ n ih =>
    intro x3 σ4
    rw [f_X12_text_l14]
    refine r_iload_n hC dX12_text_14 rfl 1 rfl ?_
    refine r_aload_n hC dX12_text_15 rfl 0 rfl ?_
    refine r_getI hC clX12 0 6 rfl rfl (hC.n rfl) rfl lf_X12_176 dX12_text_16 ?_
    refine r_nmI (fun v7 => ?_)
    refine r_icmp_ge hC 49 dX12_text_19 (by decide) (fun c8 => ?_) (fun c8 => ?_)
    · exact r_lv [0] rfl (hK6 σ4)
    · refine r_aload_n hC dX12_text_22 rfl 0 rfl ?_
      refine r_getR hC clX12 0 1 1 rfl rfl rfl (hC.n rfl) rfl lf_X12_13 dX12_text_23 ?_
      refine r_sipush (v := 160) hC dX12_text_26 (by decide) ?_
      refine r_aload_n hC dX12_text_29 rfl 0 rfl ?_
      refine r_getI hC clX12 0 3 rfl rfl (hC.n rfl) rfl lf_X12_114 dX12_text_30 ?_
      refine r_nmI (fun v9 => ?_)
      refine r_imul hC dX12_text_33 ?_
      refine r_iload_n hC dX12_text_34 rfl 1 rfl ?_
      refine r_iadd hC dX12_text_35 ?_
      refine r_aload_n hC dX12_text_36 rfl 0 rfl ?_
      refine r_getR hC clX12 0 5 3 rfl rfl rfl (hC.n rfl) rfl lf_X12_20 dX12_text_37 ?_
      refine r_iload_n hC dX12_text_40 rfl 1 rfl ?_
      refine r_gd (fun g10 => ?_)
      refine r_iald hC 3 160 rfl rfl g10 dX12_text_41 ?_
      refine r_nmI (fun v11 => ?_)
      refine r_gd (fun g12 => ?_)
      refine r_iast hC 1 960 rfl rfl g12 dX12_text_42 ?_
      refine r_nmS (fun σ13 => ?_)
      refine r_iinc (v := x3 + 1) (lv' := [(1, .int (x3 + 1)), (0, .ref (wA w 0))]) hC dX12_text_43 1 rfl rfl (by decide) rfl ?_
      refine r_goto hC 14 dX12_text_46 (by decide) ?_
      exact r_lv [1, 0] rfl (ih (x3 + 1) σ13)
set_option maxHeartbeats 4000000 in
set_option maxRecDepth 100000 in
theorem c_X12_text {l : Launch} {w : Wd} (hW : HWd w shM rM 29) (σ : St)   : ∀ res, f_X12_text σ = some res → MtI l yX12_text cX12_text 2 .int 70 2700 w [.ref (wA w 0)] σ res := by
  refine mt_I (by decide) rfl hW (fun X hl0 hC hret => ?_)
  show RF X w (Aw w (xs_ X).heap.size) 2 (QI X w) (f_X12_text σ) 0 [(0, .ref (wA w 0))] [] σ
  unfold f_X12_text
  refine r_aload_n hC dX12_text_0 rfl 0 rfl ?_
  refine r_getI hC clX12 0 3 rfl rfl (hC.n rfl) rfl lf_X12_114 dX12_text_1 ?_
  refine r_nmI (fun v1 => ?_)
  refine r_bipush (v := 6) hC dX12_text_4 (by decide) ?_
  refine r_icmp_ne hC 12 dX12_text_6 (by decide) (fun c2 => ?_) (fun c2 => ?_)
  · refine r_iconst (v := 0) hC dX12_text_12 (by decide) ?_
    refine r_istore_n (lv' := [(1, .int 0), (0, .ref (wA w 0))]) hC dX12_text_13 rfl (by decide) rfl ?_
    refine r_lv [1, 0] rfl ?_
    refine w_X12_text_l14 hC hret σ _ ?_ FU 0 σ
    · intro σ5
      refine r_aload_n hC dX12_text_49 rfl 0 rfl ?_
      refine r_getR hC clX12 0 2 2 rfl rfl rfl (hC.n rfl) rfl lf_X12_17 dX12_text_50 ?_
      refine r_aload_n hC dX12_text_53 rfl 0 rfl ?_
      refine r_getI hC clX12 0 3 rfl rfl (hC.n rfl) rfl lf_X12_114 dX12_text_54 ?_
      refine r_nmI (fun v14 => ?_)
      refine r_aload_n hC dX12_text_57 rfl 0 rfl ?_
      refine r_getI hC clX12 0 6 rfl rfl (hC.n rfl) rfl lf_X12_176 dX12_text_58 ?_
      refine r_nmI (fun v15 => ?_)
      refine r_gd (fun g16 => ?_)
      refine r_iast hC 2 6 rfl rfl g16 dX12_text_61 ?_
      refine r_nmS (fun σ17 => ?_)
      refine r_aload_n hC dX12_text_62 rfl 0 rfl ?_
      refine r_iconst (v := 0) hC dX12_text_63 (by decide) ?_
      refine r_putI hC clX12 0 6 rfl rfl rfl (hC.n rfl) rfl rfl lf_X12_176 dX12_text_64 ?_
      refine r_nmS (fun σ18 => ?_)
      refine r_aload_n hC dX12_text_67 rfl 0 rfl ?_
      refine r_aload_n hC dX12_text_68 rfl 0 rfl ?_
      refine r_getI hC clX12 0 3 rfl rfl (hC.n rfl) rfl lf_X12_114 dX12_text_69 ?_
      refine r_nmI (fun v19 => ?_)
      refine r_iconst (v := (-1)) hC dX12_text_72 (by decide) ?_
      refine r_iconst (v := 0) hC dX12_text_73 (by decide) ?_
      refine r_iconst (v := 0) hC dX12_text_74 (by decide) ?_
      refine r_iconst (v := 0) hC dX12_text_75 (by decide) ?_
      refine r_iconst (v := 0) hC dX12_text_76 (by decide) ?_
      refine r_callVI hC (b := 0) (ci := 12) (st := []) [.int v19, .int (-1), .int 0, .int 0, .int 0, .int 0] rfl (hC.n rfl) rfl rfl (c_X12_read hC.w σ18 v19 (-1) 0 0 0 0) yk_X12_read lm_X12_311 rfl ⟨rfl, rfl⟩ rfl dX12_text_77 (fun v20 σ21 => ?_)
      refine r_istore_n (lv' := [(1, .int v20), (0, .ref (wA w 0))]) hC dX12_text_80 rfl (by decide) rfl ?_
      refine r_aload_n hC dX12_text_81 rfl 1 rfl ?_
      refine r_getZ hC clX12 0 24 rfl rfl (hC.n rfl) rfl lf_X12_217 dX12_text_82 ?_
      refine r_nmI (fun v22 => ?_)
      refine r_if_eq hC 96 dX12_text_85 (by decide) (fun c23 => ?_) (fun c23 => ?_)
      · refine r_aload_n hC dX12_text_96 rfl 1 rfl ?_
        refine r_dup hC dX12_text_97 rfl ?_
        refine r_getI hC clX12 0 3 rfl rfl (hC.n rfl) rfl lf_X12_114 dX12_text_98 ?_
        refine r_nmI (fun v24 => ?_)
        refine r_iconst (v := 1) hC dX12_text_101 (by decide) ?_
        refine r_iadd hC dX12_text_102 ?_
        refine r_putI hC clX12 0 3 rfl rfl rfl (hC.n rfl) rfl rfl lf_X12_114 dX12_text_103 ?_
        refine r_nmS (fun σ25 => ?_)
        refine r_aload_n hC dX12_text_106 rfl 1 rfl ?_
        refine r_getI hC clX12 0 3 rfl rfl (hC.n rfl) rfl lf_X12_114 dX12_text_107 ?_
        refine r_nmI (fun v26 => ?_)
        refine r_iconst (v := 1) hC dX12_text_110 (by decide) ?_
        refine r_isub hC dX12_text_111 ?_
        exact r_iret hC hret rfl dX12_text_112
      · refine r_bipush (v := (-100)) hC dX12_text_88 (by decide) ?_
        refine r_aload_n hC dX12_text_90 rfl 1 rfl ?_
        refine r_getI hC clX12 0 25 rfl rfl (hC.n rfl) rfl lf_X12_221 dX12_text_91 ?_
        refine r_nmI (fun v27 => ?_)
        refine r_isub hC dX12_text_94 ?_
        exact r_iret hC hret rfl dX12_text_95
  · refine r_bipush (v := (-4)) hC dX12_text_9 (by decide) ?_
    exact r_iret hC hret rfl dX12_text_11
set_option maxHeartbeats 4000000 in
set_option maxRecDepth 100000 in
theorem c_X12_force {l : Launch} {w : Wd} (hW : HWd w shM rM 29) (σ : St) (a2 : Int32)  : ∀ res, f_X12_force σ a2 = some res → MtI l yX12_force cX12_force 3 .int 1 25 w [.ref (wA w 0), .int a2] σ res := by
  refine mt_I (by decide) rfl hW (fun X hl0 hC hret => ?_)
  show RF X w (Aw w (xs_ X).heap.size) 3 (QI X w) (f_X12_force σ a2) 0 [(0, .ref (wA w 0)), (1, .int a2)] [] σ
  unfold f_X12_force
  refine r_iload_n hC dX12_force_0 rfl 1 rfl ?_
  refine r_i2l hC dX12_force_1 ?_
  refine r_lconst (v := 0) hC dX12_force_2 (by decide) ?_
  refine r_aload_n hC dX12_force_3 rfl 0 rfl ?_
  refine r_getI hC clX12 0 3 rfl rfl (hC.n rfl) rfl lf_X12_114 dX12_force_4 ?_
  refine r_nmI (fun v1 => ?_)
  refine r_iconst (v := 1) hC dX12_force_7 (by decide) ?_
  refine r_isub hC dX12_force_8 ?_
  refine r_i2l hC dX12_force_9 ?_
  refine r_callSP hC (st := []) [.long (Int32.toInt64 a2), .long 0, .long (Int32.toInt64 (v1 - 1))] (c_X12_in hC.w σ (Int32.toInt64 a2) 0 (Int32.toInt64 (v1 - 1))) yk_X12_in lm_X12_125 rfl ⟨rfl, rfl⟩ rfl dX12_force_10 (fun v2 => ?_)
  refine r_if_ne hC 19 dX12_force_13 (by decide) (fun c3 => ?_) (fun c3 => ?_)
  · refine r_aload_n hC dX12_force_19 rfl 0 rfl ?_
    refine r_getI hC clX12 0 4 rfl rfl (hC.n rfl) rfl lf_X12_315 dX12_force_20 ?_
    refine r_nmI (fun v4 => ?_)
    refine r_istore_n (lv' := [(2, .int v4), (0, .ref (wA w 0)), (1, .int a2)]) hC dX12_force_23 rfl (by decide) rfl ?_
    refine r_aload_n hC dX12_force_24 rfl 1 rfl ?_
    refine r_iload_n hC dX12_force_25 rfl 2 rfl ?_
    refine r_putI hC clX12 0 4 rfl rfl rfl (hC.n rfl) rfl rfl lf_X12_315 dX12_force_26 ?_
    refine r_nmS (fun σ5 => ?_)
    refine r_iload_n hC dX12_force_29 rfl 0 rfl ?_
    exact r_iret hC hret rfl dX12_force_30
  · refine r_bipush (v := (-2)) hC dX12_force_16 (by decide) ?_
    exact r_iret hC hret rfl dX12_force_18
set_option maxHeartbeats 4000000 in
set_option maxRecDepth 100000 in
theorem c_X12_kindOf {l : Launch} {w : Wd} (hW : HWd w shM rM 29) (σ : St) (a1 : Int32)  : ∀ res, f_X12_kindOf a1 = some res → MtI l yX12_kindOf cX12_kindOf 1 .int 0 0 w [.int a1] σ (res, σ) := by
  refine mt_P (by decide) rfl hW (fun X hl0 hC hret => ?_)
  show RF X w (Aw w (xs_ X).heap.size) 1 (fun r => QI X w (r, σ)) (f_X12_kindOf a1) 0 [(0, .int a1)] [] σ
  unfold f_X12_kindOf
  refine r_iload_n hC dX12_kindOf_0 rfl 0 rfl ?_
  refine r_bipush (v := 114) hC dX12_kindOf_1 (by decide) ?_
  refine r_icmp_ne hC 10 dX12_kindOf_3 (by decide) (fun c1 => ?_) (fun c1 => ?_)
  · refine r_iload_n hC dX12_kindOf_10 rfl 0 rfl ?_
    refine r_bipush (v := 115) hC dX12_kindOf_11 (by decide) ?_
    refine r_icmp_ne hC 20 dX12_kindOf_13 (by decide) (fun c2 => ?_) (fun c2 => ?_)
    · refine r_iload_n hC dX12_kindOf_20 rfl 0 rfl ?_
      refine r_bipush (v := 120) hC dX12_kindOf_21 (by decide) ?_
      refine r_icmp_ne hC 30 dX12_kindOf_23 (by decide) (fun c3 => ?_) (fun c3 => ?_)
      · refine r_iload_n hC dX12_kindOf_30 rfl 0 rfl ?_
        refine r_bipush (v := 108) hC dX12_kindOf_31 (by decide) ?_
        refine r_icmp_ne hC 40 dX12_kindOf_33 (by decide) (fun c4 => ?_) (fun c4 => ?_)
        · refine r_iload_n hC dX12_kindOf_40 rfl 0 rfl ?_
          refine r_bipush (v := 119) hC dX12_kindOf_41 (by decide) ?_
          refine r_icmp_ne hC 50 dX12_kindOf_43 (by decide) (fun c5 => ?_) (fun c5 => ?_)
          · refine r_iload_n hC dX12_kindOf_50 rfl 0 rfl ?_
            refine r_bipush (v := 101) hC dX12_kindOf_51 (by decide) ?_
            refine r_icmp_ne hC 60 dX12_kindOf_53 (by decide) (fun c6 => ?_) (fun c6 => ?_)
            · refine r_iconst (v := (-1)) hC dX12_kindOf_60 (by decide) ?_
              exact r_iretP hC hret rfl dX12_kindOf_61
            · refine r_iconst (v := 5) hC dX12_kindOf_56 (by decide) ?_
              refine r_goto hC 61 dX12_kindOf_57 (by decide) ?_
              exact r_iretP hC hret rfl dX12_kindOf_61
          · refine r_iconst (v := 4) hC dX12_kindOf_46 (by decide) ?_
            refine r_goto hC 61 dX12_kindOf_47 (by decide) ?_
            exact r_iretP hC hret rfl dX12_kindOf_61
        · refine r_iconst (v := 3) hC dX12_kindOf_36 (by decide) ?_
          refine r_goto hC 61 dX12_kindOf_37 (by decide) ?_
          exact r_iretP hC hret rfl dX12_kindOf_61
      · refine r_iconst (v := 2) hC dX12_kindOf_26 (by decide) ?_
        refine r_goto hC 61 dX12_kindOf_27 (by decide) ?_
        exact r_iretP hC hret rfl dX12_kindOf_61
    · refine r_iconst (v := 1) hC dX12_kindOf_16 (by decide) ?_
      refine r_goto hC 61 dX12_kindOf_17 (by decide) ?_
      exact r_iretP hC hret rfl dX12_kindOf_61
  · refine r_iconst (v := 0) hC dX12_kindOf_6 (by decide) ?_
    refine r_goto hC 61 dX12_kindOf_7 (by decide) ?_
    exact r_iretP hC hret rfl dX12_kindOf_61
set_option maxHeartbeats 4000000 in
set_option maxRecDepth 100000 in
theorem c_X12_byteHere {l : Launch} {w : Wd} (hW : HWd w shM rM 29) (σ : St) (a2 : Int32)  : ∀ res, f_X12_byteHere σ a2 = some res → MtI l yX12_byteHere cX12_byteHere 2 .int 0 0 w [.ref (wA w 0), .int a2] σ (res, σ) := by
  refine mt_P (by decide) rfl hW (fun X hl0 hC hret => ?_)
  show RF X w (Aw w (xs_ X).heap.size) 2 (fun r => QI X w (r, σ)) (f_X12_byteHere σ a2) 0 [(0, .ref (wA w 0)), (1, .int a2)] [] σ
  unfold f_X12_byteHere
  refine r_iload_n hC dX12_byteHere_0 rfl 1 rfl ?_
  refine r_aload_n hC dX12_byteHere_1 rfl 0 rfl ?_
  refine r_getI hC clX12 0 6 rfl rfl (hC.n rfl) rfl lf_X12_176 dX12_byteHere_2 ?_
  refine r_nmI (fun v1 => ?_)
  refine r_icmp_ge hC 17 dX12_byteHere_5 (by decide) (fun c2 => ?_) (fun c2 => ?_)
  · refine r_iconst (v := (-1)) hC dX12_byteHere_17 (by decide) ?_
    exact r_iretP hC hret rfl dX12_byteHere_18
  · refine r_aload_n hC dX12_byteHere_8 rfl 0 rfl ?_
    refine r_getR hC clX12 0 5 3 rfl rfl rfl (hC.n rfl) rfl lf_X12_20 dX12_byteHere_9 ?_
    refine r_iload_n hC dX12_byteHere_12 rfl 1 rfl ?_
    refine r_gd (fun g3 => ?_)
    refine r_iald hC 3 160 rfl rfl g3 dX12_byteHere_13 ?_
    refine r_nmI (fun v4 => ?_)
    refine r_goto hC 18 dX12_byteHere_14 (by decide) ?_
    exact r_iretP hC hret rfl dX12_byteHere_18
set_option maxHeartbeats 4000000 in
set_option maxRecDepth 100000 in
theorem c_X12_isDigit {l : Launch} {w : Wd} (hW : HWd w shM rM 29) (σ : St) (a1 : Int32)  : ∀ res, f_X12_isDigit a1 = some res → MtI l yX12_isDigit cX12_isDigit 1 .boolean 0 0 w [.int a1] σ (res, σ) := by
  refine mt_P (by decide) rfl hW (fun X hl0 hC hret => ?_)
  show RF X w (Aw w (xs_ X).heap.size) 1 (fun r => QI X w (r, σ)) (f_X12_isDigit a1) 0 [(0, .int a1)] [] σ
  unfold f_X12_isDigit
  refine r_iload_n hC dX12_isDigit_0 rfl 0 rfl ?_
  refine r_bipush (v := 48) hC dX12_isDigit_1 (by decide) ?_
  refine r_icmp_lt hC 16 dX12_isDigit_3 (by decide) (fun c1 => ?_) (fun c1 => ?_)
  · refine r_iconst (v := 0) hC dX12_isDigit_16 (by decide) ?_
    exact r_iretP hC hret rfl dX12_isDigit_17
  · refine r_iload_n hC dX12_isDigit_6 rfl 0 rfl ?_
    refine r_bipush (v := 57) hC dX12_isDigit_7 (by decide) ?_
    refine r_icmp_gt hC 16 dX12_isDigit_9 (by decide) (fun c2 => ?_) (fun c2 => ?_)
    · refine r_iconst (v := 0) hC dX12_isDigit_16 (by decide) ?_
      exact r_iretP hC hret rfl dX12_isDigit_17
    · refine r_iconst (v := 1) hC dX12_isDigit_12 (by decide) ?_
      refine r_goto hC 17 dX12_isDigit_13 (by decide) ?_
      exact r_iretP hC hret rfl dX12_isDigit_17
set_option maxHeartbeats 4000000 in
set_option maxRecDepth 100000 in
theorem w_X12_plan_l183 {X : Mc} {w : Wd} (hC : Cok X w (Aw w (xs_ X).heap.size) yX12_plan.cls cX12_plan 9 1 21 shM rM 29) (hret : (xmeth X).sig.returnType = some .int) (x8 : Int32) (v19 : Int32) (x27 : Int32) (x7 : Int32) (x9 : Int32) (σ10 : St) (x26 : Int32)   (K39 : St → Option (Int32 × St)) (hK39 : ∀ (σ38 : St), RF X w (Aw w (xs_ X).heap.size) 9 (QI X w) (K39 σ38) 216 [(0, .ref (wA w 0)), (1, .int x26), (2, .int x7), (3, .int x8), (4, .int x9), (7, .int x27)] [] σ38) : ∀ (n : Nat) (x36 : Int32) (σ37 : St), RF X w (Aw w (xs_ X).heap.size) 9 (QI X w) (f_X12_plan_l183 x8 v19 x27 K39 n x36 σ37) 183 [(0, .ref (wA w 0)), (1, .int x26), (2, .int x7), (3, .int x8), (4, .int x9), (5, .int v19), (7, .int x27), (8, .int x36)] [] σ37 := by
  intro n
  induction n with
  | zero => intro x36 σ37; rw [f_X12_plan_l183]; exact r_none
  | succ n ih =>
    intro x36 σ37
    rw [f_X12_plan_l183]
    refine r_iload hC dX12_plan_183 7 rfl ?_
    refine r_iload hC dX12_plan_185 6 rfl ?_
    refine r_icmp_ge hC 216 dX12_plan_187 (by decide) (fun c40 => ?_) (fun c40 => ?_)
    · exact r_lv [0, 1, 2, 3, 4, 6] rfl (hK39 σ37)
    · refine r_aload_n hC dX12_plan_190 rfl 0 rfl ?_
      refine r_getR hC clX12 0 32 12 rfl rfl rfl (hC.n rfl) rfl lf_X12_47 dX12_plan_191 ?_
      refine r_sipush (v := 200) hC dX12_plan_194 (by decide) ?_
      refine r_aload_n hC dX12_plan_197 rfl 0 rfl ?_
      refine r_getI hC clX12 0 33 rfl rfl (hC.n rfl) rfl lf_X12_318 dX12_plan_198 ?_
      refine r_nmI (fun v41 => ?_)
      refine r_imul hC dX12_plan_201 ?_
      refine r_iload_n hC dX12_plan_202 rfl 3 rfl ?_
      refine r_iadd hC dX12_plan_203 ?_
      refine r_iload hC dX12_plan_204 7 rfl ?_
      refine r_iadd hC dX12_plan_206 ?_
      refine r_iload hC dX12_plan_207 5 rfl ?_
      refine r_gd (fun g42 => ?_)
      refine r_iast hC 12 1600 rfl rfl g42 dX12_plan_209 ?_
      refine r_nmS (fun σ43 => ?_)
      refine r_iinc (v := x36 + 1) (lv' := [(8, .int (x36 + 1)), (0, .ref (wA w 0)), (1, .int x26), (2, .int x7), (3, .int x8), (4, .int x9), (5, .int v19), (7, .int x27)]) hC dX12_plan_210 7 rfl rfl (by decide) rfl ?_
      refine r_goto hC 183 dX12_plan_213 (by decide) ?_
      exact r_lv [1, 2, 3, 4, 5, 6, 7, 0] rfl (ih (x36 + 1) σ43)
set_option maxHeartbeats 4000000 in
set_option maxRecDepth 100000 in
theorem w_X12_plan_l32 {X : Mc} {w : Wd} (hC : Cok X w (Aw w (xs_ X).heap.size) yX12_plan.cls cX12_plan 9 1 21 shM rM 29) (hret : (xmeth X).sig.returnType = some .int) (σ : St)   (K14 : Int32 → Int32 → St → Option (Int32 × St)) (hK14 : ∀ (x11 : Int32) (x12 : Int32) (σ13 : St), RF X w (Aw w (xs_ X).heap.size) 9 (QI X w) (K14 x11 x12 σ13) 227 [(0, .ref (wA w 0)), (3, .int x11), (4, .int x12)] [] σ13) : ∀ (n : Nat) (x6 : Int32) (x7 : Int32) (x8 : Int32) (x9 : Int32) (σ10 : St), RF X w (Aw w (xs_ X).heap.size) 9 (QI X w) (f_X12_plan_l32 K14 n x6 x7 x8 x9 σ10) 32 [(0, .ref (wA w 0)), (1, .int x6), (2, .int x7), (3, .int x8), (4, .int x9)] [] σ10 := by
  intro n
  induction n with
  | zero => intro x6 x7 x8 x9 σ10; rw [f_X12_plan_l32]; exact r_none
  | succ n ih =>
    intro x6 x7 x8 x9 σ10
    rw [f_X12_plan_l32]
    refine r_iload hC dX12_plan_32 4 rfl ?_
    refine r_iconst (v := (-1)) hC dX12_plan_34 (by decide) ?_
    refine r_icmp_ne hC 227 dX12_plan_35 (by decide) (fun c15 => ?_) (fun c15 => ?_)
    · exact r_lv [0, 3, 4] rfl (hK14 x8 x9 σ10)
    · refine r_iload_n hC dX12_plan_38 rfl 1 rfl ?_
      refine r_aload_n hC dX12_plan_39 rfl 0 rfl ?_
      refine r_getI hC clX12 0 6 rfl rfl (hC.n rfl) rfl lf_X12_176 dX12_plan_40 ?_
      refine r_nmI (fun v16 => ?_)
      refine r_icmp_ge hC 227 dX12_plan_43 (by decide) (fun c17 => ?_) (fun c17 => ?_)
      · exact r_lv [0, 3, 4] rfl (hK14 x8 x9 σ10)
      · refine r_aload_n hC dX12_plan_46 rfl 0 rfl ?_
        refine r_iload_n hC dX12_plan_47 rfl 1 rfl ?_
        refine r_callVP hC (b := 0) (ci := 12) (st := []) [.int x6] rfl (hC.n rfl) rfl rfl (c_X12_byteHere hC.w σ10 x6) yk_X12_byteHere lm_X12_321 rfl ⟨rfl, rfl⟩ rfl dX12_plan_48 (fun v18 => ?_)
        refine r_callSP hC (st := []) [.int v18] (c_X12_kindOf hC.w σ10 v18) yk_X12_kindOf lm_X12_324 rfl ⟨rfl, rfl⟩ rfl dX12_plan_51 (fun v19 => ?_)
        refine r_istore (lv' := [(5, .int v19), (0, .ref (wA w 0)), (1, .int x6), (2, .int x7), (3, .int x8), (4, .int x9)]) hC dX12_plan_54 (by decide) rfl ?_
        refine r_iload hC dX12_plan_56 0 rfl ?_
        refine r_iconst (v := (-1)) hC dX12_plan_58 (by decide) ?_
        refine r_jn (T := fun (j20 : Option (Int32 × St)) => RF X w (Aw w (xs_ X).heap.size) 9 (QI X w) j20 68 [(0, .ref (wA w 0)), (1, .int x6), (2, .int x7), (3, .int x8)] [] σ10) ?_ (fun j20 hj20 => ?_)
        · refine r_iload_n hC dX12_plan_68 rfl 1 rfl ?_
          refine r_istore (lv' := [(4, .int x6), (0, .ref (wA w 0)), (1, .int x6), (2, .int x7), (3, .int x8)]) hC dX12_plan_69 (by decide) rfl ?_
          refine r_goto hC 32 dX12_plan_71 (by decide) ?_
          exact r_lv [1, 2, 3, 4, 0] rfl (ih x6 x7 x8 x6 σ10)
        · refine r_icmp_eq hC 68 dX12_plan_59 (by decide) (fun c21 => ?_) (fun c21 => ?_)
          · exact r_lv [1, 2, 3, 4] rfl hj20
          · refine r_iload_n hC dX12_plan_62 rfl 3 rfl ?_
            refine r_bipush (v := 12) hC dX12_plan_63 (by decide) ?_
            refine r_icmp_ne hC 74 dX12_plan_65 (by decide) (fun c22 => ?_) (fun c22 => ?_)
            · refine r_iinc (v := x6 + 1) (lv' := [(1, .int (x6 + 1)), (5, .int v19), (0, .ref (wA w 0)), (2, .int x7), (3, .int x8), (4, .int x9)]) hC dX12_plan_74 2 rfl rfl (by decide) rfl ?_
              refine r_iload_n hC dX12_plan_77 rfl 0 rfl ?_
              refine r_nmI (fun v23 => ?_)
              refine r_istore (lv' := [(6, .int v23), (1, .int (x6 + 1)), (5, .int v19), (0, .ref (wA w 0)), (2, .int x7), (3, .int x8), (4, .int x9)]) hC dX12_plan_78 (by decide) rfl ?_
              refine r_iconst (v := 0) hC dX12_plan_80 (by decide) ?_
              refine r_istore (lv' := [(7, .int 0), (6, .int v23), (1, .int (x6 + 1)), (5, .int v19), (0, .ref (wA w 0)), (2, .int x7), (3, .int x8), (4, .int x9)]) hC dX12_plan_81 (by decide) rfl ?_
              refine r_aload_n hC dX12_plan_83 rfl 4 rfl ?_
              refine r_iload_n hC dX12_plan_84 rfl 2 rfl ?_
              refine r_callVP hC (b := 0) (ci := 12) (st := []) [.int (x6 + 1)] rfl (hC.n rfl) rfl rfl (c_X12_byteHere hC.w σ10 (x6 + 1)) yk_X12_byteHere lm_X12_321 rfl ⟨rfl, rfl⟩ rfl dX12_plan_85 (fun v24 => ?_)
              refine r_callSP hC (st := []) [.int v24] (c_X12_isDigit hC.w σ10 v24) yk_X12_isDigit lm_X12_327 rfl ⟨rfl, rfl⟩ rfl dX12_plan_88 (fun v25 => ?_)
              refine r_jn (T := fun (j28 : Int32 → Int32 → Option (Int32 × St)) => ∀ (x26 : Int32) (x27 : Int32), RF X w (Aw w (xs_ X).heap.size) 9 (QI X w) (j28 x26 x27) 152 [(0, .ref (wA w 0)), (1, .int x26), (2, .int x7), (3, .int x8), (4, .int x9), (5, .int v19), (6, .int v23), (7, .int x27)] [] σ10) ?_ (fun j28 hj28 => ?_)
              · intro x26 x27
                refine r_iload hC dX12_plan_152 7 rfl ?_
                refine r_jn (T := fun (j33 : Int32 → Int32 → Int32 → St → Option (Int32 × St)) => ∀ (x29 : Int32) (x30 : Int32) (x31 : Int32) (σ32 : St), RF X w (Aw w (xs_ X).heap.size) 9 (QI X w) (j33 x29 x30 x31 σ32) 224 [(0, .ref (wA w 0)), (1, .int x26), (2, .int x29), (3, .int x30), (4, .int x31)] [] σ32) ?_ (fun j33 hj33 => ?_)
                · intro x29 x30 x31 σ32
                  refine r_goto hC 32 dX12_plan_224 (by decide) ?_
                  exact r_lv [0, 1, 2, 3, 4] rfl (ih x26 x29 x30 x31 σ32)
                · refine r_if_ne hC 163 dX12_plan_154 (by decide) (fun c34 => ?_) (fun c34 => ?_)
                  · refine r_iload_n hC dX12_plan_163 rfl 3 rfl ?_
                    refine r_iload hC dX12_plan_164 7 rfl ?_
                    refine r_iadd hC dX12_plan_166 ?_
                    refine r_sipush (v := 200) hC dX12_plan_167 (by decide) ?_
                    refine r_icmp_le hC 180 dX12_plan_170 (by decide) (fun c35 => ?_) (fun c35 => ?_)
                    · refine r_iconst (v := 0) hC dX12_plan_180 (by decide) ?_
                      refine r_istore (lv' := [(8, .int 0), (0, .ref (wA w 0)), (1, .int x26), (2, .int x7), (3, .int x8), (4, .int x9), (5, .int v19), (6, .int v23), (7, .int x27)]) hC dX12_plan_181 (by decide) rfl ?_
                      refine r_lv [1, 2, 3, 4, 5, 6, 8, 0] rfl ?_
                      refine w_X12_plan_l183 hC hret x8 v19 x27 x7 x9 σ10 x26 _ ?_ FU 0 σ10
                      · intro σ38
                        refine r_iload_n hC dX12_plan_216 rfl 3 rfl ?_
                        refine r_iload hC dX12_plan_217 5 rfl ?_
                        refine r_iadd hC dX12_plan_219 ?_
                        refine r_nmI (fun v44 => ?_)
                        refine r_istore_n (lv' := [(3, .int v44), (0, .ref (wA w 0)), (1, .int x26), (2, .int x7), (4, .int x9), (7, .int x27)]) hC dX12_plan_220 rfl (by decide) rfl ?_
                        refine r_iinc (v := x7 + 1) (lv' := [(2, .int (x7 + 1)), (3, .int v44), (0, .ref (wA w 0)), (1, .int x26), (4, .int x9), (7, .int x27)]) hC dX12_plan_221 3 rfl rfl (by decide) rfl ?_
                        exact r_lv [2, 3, 0, 1, 4] rfl (hj33 (x7 + 1) v44 x9 σ38)
                    · refine r_iload hC dX12_plan_173 6 rfl ?_
                      refine r_istore (lv' := [(4, .int v23), (0, .ref (wA w 0)), (1, .int x26), (2, .int x7), (3, .int x8), (5, .int v19), (6, .int v23), (7, .int x27)]) hC dX12_plan_175 (by decide) rfl ?_
                      refine r_goto hC 224 dX12_plan_177 (by decide) ?_
                      exact r_lv [1, 2, 3, 4, 0] rfl (hj33 x7 x8 v23 σ10)
                  · refine r_iload_n hC dX12_plan_157 rfl 1 rfl ?_
                    refine r_istore (lv' := [(4, .int x26), (0, .ref (wA w 0)), (1, .int x26), (2, .int x7), (3, .int x8), (5, .int v19), (6, .int v23), (7, .int x27)]) hC dX12_plan_158 (by decide) rfl ?_
                    refine r_goto hC 224 dX12_plan_160 (by decide) ?_
                    exact r_lv [1, 2, 3, 4, 0] rfl (hj33 x7 x8 x26 σ10)
              · refine r_if_eq hC 152 dX12_plan_91 (by decide) (fun c45 => ?_) (fun c45 => ?_)
                · exact r_lv [4, 2, 5, 6, 7, 3, 1, 0] rfl (hj28 (x6 + 1) 0)
                · refine r_aload_n hC dX12_plan_94 rfl 4 rfl ?_
                  refine r_iload_n hC dX12_plan_95 rfl 2 rfl ?_
                  refine r_callVP hC (b := 0) (ci := 12) (st := []) [.int (x6 + 1)] rfl (hC.n rfl) rfl rfl (c_X12_byteHere hC.w σ10 (x6 + 1)) yk_X12_byteHere lm_X12_321 rfl ⟨rfl, rfl⟩ rfl dX12_plan_96 (fun v46 => ?_)
                  refine r_bipush (v := 48) hC dX12_plan_99 (by decide) ?_
                  refine r_isub hC dX12_plan_101 ?_
                  refine r_nmI (fun v47 => ?_)
                  refine r_istore (lv' := [(7, .int v47), (6, .int v23), (1, .int (x6 + 1)), (5, .int v19), (0, .ref (wA w 0)), (2, .int x7), (3, .int x8), (4, .int x9)]) hC dX12_plan_102 (by decide) rfl ?_
                  refine r_iinc (v := (x6 + 1) + 1) (lv' := [(1, .int ((x6 + 1) + 1)), (7, .int v47), (6, .int v23), (5, .int v19), (0, .ref (wA w 0)), (2, .int x7), (3, .int x8), (4, .int x9)]) hC dX12_plan_104 2 rfl rfl (by decide) rfl ?_
                  refine r_aload_n hC dX12_plan_107 rfl 4 rfl ?_
                  refine r_iload_n hC dX12_plan_108 rfl 0 rfl ?_
                  refine r_callVP hC (b := 0) (ci := 12) (st := []) [.int ((x6 + 1) + 1)] rfl (hC.n rfl) rfl rfl (c_X12_byteHere hC.w σ10 ((x6 + 1) + 1)) yk_X12_byteHere lm_X12_321 rfl ⟨rfl, rfl⟩ rfl dX12_plan_109 (fun v48 => ?_)
                  refine r_callSP hC (st := []) [.int v48] (c_X12_isDigit hC.w σ10 v48) yk_X12_isDigit lm_X12_327 rfl ⟨rfl, rfl⟩ rfl dX12_plan_112 (fun v49 => ?_)
                  refine r_if_eq hC 152 dX12_plan_115 (by decide) (fun c50 => ?_) (fun c50 => ?_)
                  · exact r_lv [4, 0, 5, 6, 7, 3, 2, 1] rfl (hj28 ((x6 + 1) + 1) v47)
                  · refine r_iload hC dX12_plan_118 1 rfl ?_
                    refine r_jn (T := fun (j51 : Option (Int32 × St)) => RF X w (Aw w (xs_ X).heap.size) 9 (QI X w) j51 133 [(0, .ref (wA w 0)), (1, .int ((x6 + 1) + 1)), (2, .int x7), (3, .int x8), (4, .int x9), (5, .int v19), (6, .int v23), (7, .int v47)] [] σ10) ?_ (fun j51 hj51 => ?_)
                    · refine r_bipush (v := 10) hC dX12_plan_133 (by decide) ?_
                      refine r_iload hC dX12_plan_135 7 rfl ?_
                      refine r_imul hC dX12_plan_137 ?_
                      refine r_aload_n hC dX12_plan_138 rfl 0 rfl ?_
                      refine r_iload_n hC dX12_plan_139 rfl 1 rfl ?_
                      refine r_callVP hC (b := 0) (ci := 12) (st := [.int (10 * v47)]) [.int ((x6 + 1) + 1)] rfl (hC.n rfl) rfl rfl (c_X12_byteHere hC.w σ10 ((x6 + 1) + 1)) yk_X12_byteHere lm_X12_321 rfl ⟨rfl, rfl⟩ rfl dX12_plan_140 (fun v52 => ?_)
                      refine r_iadd hC dX12_plan_143 ?_
                      refine r_bipush (v := 48) hC dX12_plan_144 (by decide) ?_
                      refine r_isub hC dX12_plan_146 ?_
                      refine r_nmI (fun v53 => ?_)
                      refine r_istore (lv' := [(7, .int v53), (0, .ref (wA w 0)), (1, .int ((x6 + 1) + 1)), (2, .int x7), (3, .int x8), (4, .int x9), (5, .int v19), (6, .int v23)]) hC dX12_plan_147 (by decide) rfl ?_
                      refine r_iinc (v := ((x6 + 1) + 1) + 1) (lv' := [(1, .int (((x6 + 1) + 1) + 1)), (7, .int v53), (0, .ref (wA w 0)), (2, .int x7), (3, .int x8), (4, .int x9), (5, .int v19), (6, .int v23)]) hC dX12_plan_149 2 rfl rfl (by decide) rfl ?_
                      exact r_lv [2, 0, 3, 4, 5, 6, 7, 1] rfl (hj28 (((x6 + 1) + 1) + 1) v53)
                    · refine r_if_gt hC 133 dX12_plan_120 (by decide) (fun c54 => ?_) (fun c54 => ?_)
                      · exact r_lv [4, 0, 5, 6, 7, 3, 2, 1] rfl hj51
                      · refine r_aload_n hC dX12_plan_123 rfl 4 rfl ?_
                        refine r_iload_n hC dX12_plan_124 rfl 0 rfl ?_
                        refine r_callVP hC (b := 0) (ci := 12) (st := []) [.int ((x6 + 1) + 1)] rfl (hC.n rfl) rfl rfl (c_X12_byteHere hC.w σ10 ((x6 + 1) + 1)) yk_X12_byteHere lm_X12_321 rfl ⟨rfl, rfl⟩ rfl dX12_plan_125 (fun v55 => ?_)
                        refine r_bipush (v := 48) hC dX12_plan_128 (by decide) ?_
                        refine r_icmp_le hC 152 dX12_plan_130 (by decide) (fun c56 => ?_) (fun c56 => ?_)
                        · exact r_lv [4, 0, 5, 6, 7, 3, 2, 1] rfl (hj28 ((x6 + 1) + 1) v47)
                        · exact r_lv [4, 0, 5, 6, 7, 3, 2, 1] rfl hj51
            · exact r_lv [1, 2, 3, 4] rfl hj20
set_option maxHeartbeats 4000000 in
set_option maxRecDepth 100000 in
theorem c_X12_plan {l : Launch} {w : Wd} (hW : HWd w shM rM 29) (σ : St)   : ∀ res, f_X12_plan σ = some res → MtI l yX12_plan cX12_plan 9 .int 1 21 w [.ref (wA w 0)] σ res := by
  refine mt_I (by decide) rfl hW (fun X hl0 hC hret => ?_)
  show RF X w (Aw w (xs_ X).heap.size) 9 (QI X w) (f_X12_plan σ) 0 [(0, .ref (wA w 0))] [] σ
  unfold f_X12_plan
  refine r_aload_n hC dX12_plan_0 rfl 0 rfl ?_
  refine r_getI hC clX12 0 33 rfl rfl (hC.n rfl) rfl lf_X12_318 dX12_plan_1 ?_
  refine r_nmI (fun v1 => ?_)
  refine r_bipush (v := 8) hC dX12_plan_4 (by decide) ?_
  refine r_icmp_ne hC 12 dX12_plan_6 (by decide) (fun c2 => ?_) (fun c2 => ?_)
  · refine r_iconst (v := 0) hC dX12_plan_12 (by decide) ?_
    refine r_istore_n (lv' := [(1, .int 0), (0, .ref (wA w 0))]) hC dX12_plan_13 rfl (by decide) rfl ?_
    refine r_iconst (v := 0) hC dX12_plan_14 (by decide) ?_
    refine r_istore_n (lv' := [(2, .int 0), (1, .int 0), (0, .ref (wA w 0))]) hC dX12_plan_15 rfl (by decide) rfl ?_
    refine r_iconst (v := 0) hC dX12_plan_16 (by decide) ?_
    refine r_istore_n (lv' := [(3, .int 0), (2, .int 0), (1, .int 0), (0, .ref (wA w 0))]) hC dX12_plan_17 rfl (by decide) rfl ?_
    refine r_aload_n hC dX12_plan_18 rfl 3 rfl ?_
    refine r_getI hC clX12 0 6 rfl rfl (hC.n rfl) rfl lf_X12_176 dX12_plan_19 ?_
    refine r_nmI (fun v3 => ?_)
    refine r_jn (T := fun (j5 : Int32 → Option (Int32 × St)) => ∀ (t4 : Int32), RF X w (Aw w (xs_ X).heap.size) 9 (QI X w) (j5 t4) 30 [(0, .ref (wA w 0)), (1, .int 0), (2, .int 0), (3, .int 0)] [.int t4] σ) ?_ (fun j5 hj5 => ?_)
    · intro t4
      refine r_istore (lv' := [(4, .int t4), (0, .ref (wA w 0)), (1, .int 0), (2, .int 0), (3, .int 0)]) hC dX12_plan_30 (by decide) rfl ?_
      refine r_lv [1, 2, 3, 4, 0] rfl ?_
      refine w_X12_plan_l32 hC hret σ _ ?_ FU 0 0 0 t4 σ
      · intro x11 x12 σ13
        refine r_aload_n hC dX12_plan_227 rfl 0 rfl ?_
        refine r_iconst (v := 0) hC dX12_plan_228 (by decide) ?_
        refine r_putI hC clX12 0 6 rfl rfl rfl (hC.n rfl) rfl rfl lf_X12_176 dX12_plan_229 ?_
        refine r_nmS (fun σ57 => ?_)
        refine r_iload hC dX12_plan_232 2 rfl ?_
        refine r_iconst (v := (-1)) hC dX12_plan_234 (by decide) ?_
        refine r_icmp_eq hC 244 dX12_plan_235 (by decide) (fun c58 => ?_) (fun c58 => ?_)
        · refine r_aload_n hC dX12_plan_244 rfl 0 rfl ?_
          refine r_getR hC clX12 0 31 11 rfl rfl rfl (hC.n rfl) rfl lf_X12_44 dX12_plan_245 ?_
          refine r_aload_n hC dX12_plan_248 rfl 0 rfl ?_
          refine r_getI hC clX12 0 33 rfl rfl (hC.n rfl) rfl lf_X12_318 dX12_plan_249 ?_
          refine r_nmI (fun v59 => ?_)
          refine r_iload_n hC dX12_plan_252 rfl 1 rfl ?_
          refine r_gd (fun g60 => ?_)
          refine r_iast hC 11 8 rfl rfl g60 dX12_plan_253 ?_
          refine r_nmS (fun σ61 => ?_)
          refine r_aload_n hC dX12_plan_254 rfl 0 rfl ?_
          refine r_dup hC dX12_plan_255 rfl ?_
          refine r_getI hC clX12 0 33 rfl rfl (hC.n rfl) rfl lf_X12_318 dX12_plan_256 ?_
          refine r_nmI (fun v62 => ?_)
          refine r_iconst (v := 1) hC dX12_plan_259 (by decide) ?_
          refine r_iadd hC dX12_plan_260 ?_
          refine r_putI hC clX12 0 33 rfl rfl rfl (hC.n rfl) rfl rfl lf_X12_318 dX12_plan_261 ?_
          refine r_nmS (fun σ63 => ?_)
          refine r_aload_n hC dX12_plan_264 rfl 0 rfl ?_
          refine r_getI hC clX12 0 33 rfl rfl (hC.n rfl) rfl lf_X12_318 dX12_plan_265 ?_
          refine r_nmI (fun v64 => ?_)
          refine r_iconst (v := 1) hC dX12_plan_268 (by decide) ?_
          refine r_isub hC dX12_plan_269 ?_
          exact r_iret hC hret rfl dX12_plan_270
        · refine r_bipush (v := (-100)) hC dX12_plan_238 (by decide) ?_
          refine r_iload hC dX12_plan_240 2 rfl ?_
          refine r_isub hC dX12_plan_242 ?_
          exact r_iret hC hret rfl dX12_plan_243
    · refine r_if_ne hC 29 dX12_plan_22 (by decide) (fun c65 => ?_) (fun c65 => ?_)
      · refine r_iconst (v := (-1)) hC dX12_plan_29 (by decide) ?_
        exact r_lv [3, 2, 1, 0] rfl (hj5 (-1))
      · refine r_iconst (v := 0) hC dX12_plan_25 (by decide) ?_
        refine r_goto hC 30 dX12_plan_26 (by decide) ?_
        exact r_lv [3, 2, 1, 0] rfl (hj5 0)
  · refine r_bipush (v := (-4)) hC dX12_plan_9 (by decide) ?_
    exact r_iret hC hret rfl dX12_plan_11
set_option maxHeartbeats 4000000 in
set_option maxRecDepth 100000 in
theorem c_X12_isPlan {l : Launch} {w : Wd} (hW : HWd w shM rM 29) (σ : St) (a2 : Int32)  : ∀ res, f_X12_isPlan σ a2 = some res → MtI l yX12_isPlan cX12_isPlan 2 .boolean 1 25 w [.ref (wA w 0), .int a2] σ (res, σ) := by
  refine mt_P (by decide) rfl hW (fun X hl0 hC hret => ?_)
  show RF X w (Aw w (xs_ X).heap.size) 2 (fun r => QI X w (r, σ)) (f_X12_isPlan σ a2) 0 [(0, .ref (wA w 0)), (1, .int a2)] [] σ
  unfold f_X12_isPlan
  refine r_iload_n hC dX12_isPlan_0 rfl 1 rfl ?_
  refine r_i2l hC dX12_isPlan_1 ?_
  refine r_lconst (v := 0) hC dX12_isPlan_2 (by decide) ?_
  refine r_aload_n hC dX12_isPlan_3 rfl 0 rfl ?_
  refine r_getI hC clX12 0 33 rfl rfl (hC.n rfl) rfl lf_X12_318 dX12_isPlan_4 ?_
  refine r_nmI (fun v1 => ?_)
  refine r_iconst (v := 1) hC dX12_isPlan_7 (by decide) ?_
  refine r_isub hC dX12_isPlan_8 ?_
  refine r_i2l hC dX12_isPlan_9 ?_
  refine r_callSP hC (st := []) [.long (Int32.toInt64 a2), .long 0, .long (Int32.toInt64 (v1 - 1))] (c_X12_in hC.w σ (Int32.toInt64 a2) 0 (Int32.toInt64 (v1 - 1))) yk_X12_in lm_X12_125 rfl ⟨rfl, rfl⟩ rfl dX12_isPlan_10 (fun v2 => ?_)
  refine r_gd (fun g3 => ?_)
  exact r_iretP hC hret (by rcases g3 with h9 | h9 <;> rw [h9] <;> rfl) dX12_isPlan_13
set_option maxHeartbeats 4000000 in
set_option maxRecDepth 100000 in
theorem c_X12_planned {l : Launch} {w : Wd} (hW : HWd w shM rM 29) (σ : St) (a2 : Int32) (a3 : Int32)  : ∀ res, f_X12_planned σ a2 a3 = some res → MtI l yX12_planned cX12_planned 3 .int 2 46 w [.ref (wA w 0), .int a2, .int a3] σ (res, σ) := by
  refine mt_P (by decide) rfl hW (fun X hl0 hC hret => ?_)
  show RF X w (Aw w (xs_ X).heap.size) 3 (fun r => QI X w (r, σ)) (f_X12_planned σ a2 a3) 0 [(0, .ref (wA w 0)), (1, .int a2), (2, .int a3)] [] σ
  unfold f_X12_planned
  refine r_aload_n hC dX12_planned_0 rfl 0 rfl ?_
  refine r_iload_n hC dX12_planned_1 rfl 1 rfl ?_
  refine r_callVP hC (b := 0) (ci := 12) (st := []) [.int a2] rfl (hC.n rfl) rfl rfl (c_X12_isPlan hC.w σ a2) yk_X12_isPlan lm_X12_330 rfl ⟨rfl, rfl⟩ rfl dX12_planned_2 (fun v1 => ?_)
  refine r_if_eq hC 28 dX12_planned_5 (by decide) (fun c2 => ?_) (fun c2 => ?_)
  · refine r_iconst (v := (-1)) hC dX12_planned_28 (by decide) ?_
    exact r_iretP hC hret rfl dX12_planned_29
  · refine r_iload_n hC dX12_planned_8 rfl 2 rfl ?_
    refine r_i2l hC dX12_planned_9 ?_
    refine r_ldc2 (v := (-1)) hC lc_X12_209 dX12_planned_10 ?_
    refine r_aload_n hC dX12_planned_13 rfl 0 rfl ?_
    refine r_getR hC clX12 0 31 11 rfl rfl rfl (hC.n rfl) rfl lf_X12_44 dX12_planned_14 ?_
    refine r_iload_n hC dX12_planned_17 rfl 1 rfl ?_
    refine r_gd (fun g3 => ?_)
    refine r_iald hC 11 8 rfl rfl g3 dX12_planned_18 ?_
    refine r_nmI (fun v4 => ?_)
    refine r_iconst (v := 1) hC dX12_planned_19 (by decide) ?_
    refine r_isub hC dX12_planned_20 ?_
    refine r_i2l hC dX12_planned_21 ?_
    refine r_callSP hC (st := []) [.long (Int32.toInt64 a3), .long (-1), .long (Int32.toInt64 (v4 - 1))] (c_X12_in hC.w σ (Int32.toInt64 a3) (-1) (Int32.toInt64 (v4 - 1))) yk_X12_in lm_X12_125 rfl ⟨rfl, rfl⟩ rfl dX12_planned_22 (fun v5 => ?_)
    refine r_if_ne hC 30 dX12_planned_25 (by decide) (fun c6 => ?_) (fun c6 => ?_)
    · refine r_iload_n hC dX12_planned_30 rfl 2 rfl ?_
      refine r_iconst (v := (-1)) hC dX12_planned_31 (by decide) ?_
      refine r_icmp_ne hC 44 dX12_planned_32 (by decide) (fun c7 => ?_) (fun c7 => ?_)
      · refine r_aload_n hC dX12_planned_44 rfl 0 rfl ?_
        refine r_getR hC clX12 0 32 12 rfl rfl rfl (hC.n rfl) rfl lf_X12_47 dX12_planned_45 ?_
        refine r_sipush (v := 200) hC dX12_planned_48 (by decide) ?_
        refine r_iload_n hC dX12_planned_51 rfl 1 rfl ?_
        refine r_imul hC dX12_planned_52 ?_
        refine r_iload_n hC dX12_planned_53 rfl 2 rfl ?_
        refine r_iadd hC dX12_planned_54 ?_
        refine r_nmI (fun v8 => ?_)
        refine r_gd (fun g9 => ?_)
        refine r_iald hC 12 1600 rfl rfl g9 dX12_planned_55 ?_
        refine r_nmI (fun v10 => ?_)
        exact r_iretP hC hret rfl dX12_planned_56
      · refine r_aload_n hC dX12_planned_35 rfl 0 rfl ?_
        refine r_getR hC clX12 0 31 11 rfl rfl rfl (hC.n rfl) rfl lf_X12_44 dX12_planned_36 ?_
        refine r_iload_n hC dX12_planned_39 rfl 1 rfl ?_
        refine r_gd (fun g11 => ?_)
        refine r_iald hC 11 8 rfl rfl g11 dX12_planned_40 ?_
        refine r_nmI (fun v12 => ?_)
        refine r_goto hC 56 dX12_planned_41 (by decide) ?_
        exact r_iretP hC hret rfl dX12_planned_56
    · refine r_iconst (v := (-1)) hC dX12_planned_28 (by decide) ?_
      exact r_iretP hC hret rfl dX12_planned_29
set_option maxHeartbeats 4000000 in
set_option maxRecDepth 100000 in
theorem w_X12_allWeights_l4 {X : Mc} {w : Wd} (hC : Cok X w (Aw w (xs_ X).heap.size) yX12_allWeights.cls cX12_allWeights 3 0 0 shM rM 29) (hret : (xmeth X).sig.returnType = some .int) (σ : St)     : ∀ (n : Nat) (x1 : Int32) (x2 : Int32), RF X w (Aw w (xs_ X).heap.size) 3 (fun r => QI X w (r, σ)) (f_X12_allWeights_l4 σ n x1 x2) 4 [(0, .ref (wA w 0)), (1, .int x1), (2, .int x2)] [] σ := by
  intro n
  induction n with
  | zero => intro x1 x2; rw [f_X12_allWeights_l4]; exact r_none
  | succ n ih =>
    intro x1 x2
    rw [f_X12_allWeights_l4]
    refine r_iload_n hC dX12_allWeights_4 rfl 2 rfl ?_
    refine r_bipush (v := 8) hC dX12_allWeights_5 (by decide) ?_
    refine r_icmp_ge hC 44 dX12_allWeights_7 (by decide) (fun c3 => ?_) (fun c3 => ?_)
    · refine r_iload_n hC dX12_allWeights_44 rfl 1 rfl ?_
      exact r_iretP hC hret rfl dX12_allWeights_45
    · refine r_iload_n hC dX12_allWeights_10 rfl 1 rfl ?_
      refine r_aload_n hC dX12_allWeights_11 rfl 0 rfl ?_
      refine r_getR hC clX12 0 12 8 rfl rfl rfl (hC.n rfl) rfl lf_X12_35 dX12_allWeights_12 ?_
      refine r_iload_n hC dX12_allWeights_15 rfl 2 rfl ?_
      refine r_gd (fun g4 => ?_)
      refine r_iald hC 8 8 rfl rfl g4 dX12_allWeights_16 ?_
      refine r_nmI (fun v5 => ?_)
      refine r_iconst (v := (-1)) hC dX12_allWeights_17 (by decide) ?_
      refine r_jn (T := fun (j7 : Int32 → Option Int32) => ∀ (t6 : Int32), RF X w (Aw w (xs_ X).heap.size) 3 (fun r => QI X w (r, σ)) (j7 t6) 36 [(0, .ref (wA w 0)), (2, .int x2)] [.int t6, .int x1] σ) ?_ (fun j7 hj7 => ?_)
      · intro t6
        refine r_iadd hC dX12_allWeights_36 ?_
        refine r_nmI (fun v8 => ?_)
        refine r_istore_n (lv' := [(1, .int v8), (0, .ref (wA w 0)), (2, .int x2)]) hC dX12_allWeights_37 rfl (by decide) rfl ?_
        refine r_iinc (v := x2 + 1) (lv' := [(2, .int (x2 + 1)), (1, .int v8), (0, .ref (wA w 0))]) hC dX12_allWeights_38 2 rfl rfl (by decide) rfl ?_
        refine r_goto hC 4 dX12_allWeights_41 (by decide) ?_
        exact r_lv [2, 1, 0] rfl (ih v8 (x2 + 1))
      · refine r_icmp_ne hC 25 dX12_allWeights_18 (by decide) (fun c9 => ?_) (fun c9 => ?_)
        · refine r_aload_n hC dX12_allWeights_25 rfl 0 rfl ?_
          refine r_getR hC clX12 0 7 4 rfl rfl rfl (hC.n rfl) rfl lf_X12_23 dX12_allWeights_26 ?_
          refine r_aload_n hC dX12_allWeights_29 rfl 0 rfl ?_
          refine r_getR hC clX12 0 12 8 rfl rfl rfl (hC.n rfl) rfl lf_X12_35 dX12_allWeights_30 ?_
          refine r_iload_n hC dX12_allWeights_33 rfl 2 rfl ?_
          refine r_gd (fun g10 => ?_)
          refine r_iald hC 8 8 rfl rfl g10 dX12_allWeights_34 ?_
          refine r_nmI (fun v11 => ?_)
          refine r_gd (fun g12 => ?_)
          refine r_iald hC 4 16 rfl rfl g12 dX12_allWeights_35 ?_
          refine r_nmI (fun v13 => ?_)
          exact r_lv [0, 2] rfl (hj7 v13)
        · refine r_iconst (v := 0) hC dX12_allWeights_21 (by decide) ?_
          refine r_goto hC 36 dX12_allWeights_22 (by decide) ?_
          exact r_lv [0, 2] rfl (hj7 0)
set_option maxHeartbeats 4000000 in
set_option maxRecDepth 100000 in
theorem c_X12_allWeights {l : Launch} {w : Wd} (hW : HWd w shM rM 29) (σ : St)   : ∀ res, f_X12_allWeights σ = some res → MtI l yX12_allWeights cX12_allWeights 3 .int 0 0 w [.ref (wA w 0)] σ (res, σ) := by
  refine mt_P (by decide) rfl hW (fun X hl0 hC hret => ?_)
  show RF X w (Aw w (xs_ X).heap.size) 3 (fun r => QI X w (r, σ)) (f_X12_allWeights σ) 0 [(0, .ref (wA w 0))] [] σ
  unfold f_X12_allWeights
  refine r_iconst (v := 0) hC dX12_allWeights_0 (by decide) ?_
  refine r_istore_n (lv' := [(1, .int 0), (0, .ref (wA w 0))]) hC dX12_allWeights_1 rfl (by decide) rfl ?_
  refine r_iconst (v := 0) hC dX12_allWeights_2 (by decide) ?_
  refine r_istore_n (lv' := [(2, .int 0), (1, .int 0), (0, .ref (wA w 0))]) hC dX12_allWeights_3 rfl (by decide) rfl ?_
  refine r_lv [2, 1, 0] rfl ?_
  exact w_X12_allWeights_l4 hC hret σ FU 0 0
set_option maxHeartbeats 4000000 in
set_option maxRecDepth 100000 in
theorem w_X12_begins_l2 {X : Mc} {w : Wd} (hC : Cok X w (Aw w (xs_ X).heap.size) yX12_begins.cls cX12_begins 2 0 0 shM rM 29) (hret : (xmeth X).sig.returnType = none) (σ : St)   (K4 : St → Option St) (hK4 : ∀ (σ3 : St), RF X w (Aw w (xs_ X).heap.size) 2 (QV X w) (K4 σ3) 28 [(0, .ref (wA w 0))] [] σ3) : ∀ (n : Nat) (x1 : Int32) (σ2 : St), RF X w (Aw w (xs_ X).heap.size) 2 (QV X w) (f_X12_begins_l2 K4 n x1 σ2) 2 [(0, .ref (wA w 0)), (1, .int x1)] [] σ2 := by
  intro n
  induction n with
  | zero => intro x1 σ2; rw [f_X12_begins_l2]; exact r_none
  | succ n ih =>
    intro x1 σ2
    rw [f_X12_begins_l2]
    refine r_iload_n hC dX12_begins_2 rfl 1 rfl ?_
    refine r_aload_n hC dX12_begins_3 rfl 0 rfl ?_
    refine r_getI hC clX12 0 11 rfl rfl (hC.n rfl) rfl lf_X12_122 dX12_begins_4 ?_
    refine r_nmI (fun v5 => ?_)
    refine r_icmp_ge hC 28 dX12_begins_7 (by decide) (fun c6 => ?_) (fun c6 => ?_)
    · exact r_lv [0] rfl (hK4 σ2)
    · refine r_aload_n hC dX12_begins_10 rfl 0 rfl ?_
      refine r_getR hC clX12 0 34 13 rfl rfl rfl (hC.n rfl) rfl lf_X12_50 dX12_begins_11 ?_
      refine r_iload_n hC dX12_begins_14 rfl 1 rfl ?_
      refine r_aload_n hC dX12_begins_15 rfl 0 rfl ?_
      refine r_getR hC clX12 0 9 6 rfl rfl rfl (hC.n rfl) rfl lf_X12_29 dX12_begins_16 ?_
      refine r_iload_n hC dX12_begins_19 rfl 1 rfl ?_
      refine r_gd (fun g7 => ?_)
      refine r_iald hC 6 16 rfl rfl g7 dX12_begins_20 ?_
      refine r_nmI (fun v8 => ?_)
      refine r_gd (fun g9 => ?_)
      refine r_iast hC 13 16 rfl rfl g9 dX12_begins_21 ?_
      refine r_nmS (fun σ10 => ?_)
      refine r_iinc (v := x1 + 1) (lv' := [(1, .int (x1 + 1)), (0, .ref (wA w 0))]) hC dX12_begins_22 1 rfl rfl (by decide) rfl ?_
      refine r_goto hC 2 dX12_begins_25 (by decide) ?_
      exact r_lv [1, 0] rfl (ih (x1 + 1) σ10)
set_option maxHeartbeats 4000000 in
set_option maxRecDepth 100000 in
theorem c_X12_begins {l : Launch} {w : Wd} (hW : HWd w shM rM 29) (σ : St)   : ∀ res, f_X12_begins σ = some res → MtV l yX12_begins cX12_begins 2 0 0 w [.ref (wA w 0)] σ res := by
  refine mt_V (by decide) rfl hW (fun X hl0 hC hret => ?_)
  show RF X w (Aw w (xs_ X).heap.size) 2 (QV X w) (f_X12_begins σ) 0 [(0, .ref (wA w 0))] [] σ
  unfold f_X12_begins
  refine r_iconst (v := 0) hC dX12_begins_0 (by decide) ?_
  refine r_istore_n (lv' := [(1, .int 0), (0, .ref (wA w 0))]) hC dX12_begins_1 rfl (by decide) rfl ?_
  refine r_lv [1, 0] rfl ?_
  refine w_X12_begins_l2 hC hret σ _ ?_ FU 0 σ
  · intro σ3
    refine r_aload_n hC dX12_begins_28 rfl 0 rfl ?_
    refine r_iconst (v := 0) hC dX12_begins_29 (by decide) ?_
    refine r_putI hC clX12 0 36 rfl rfl rfl (hC.n rfl) rfl rfl lf_X12_333 dX12_begins_30 ?_
    refine r_nmS (fun σ11 => ?_)
    refine r_aload_n hC dX12_begins_33 rfl 0 rfl ?_
    refine r_lconst (v := 0) hC dX12_begins_34 (by decide) ?_
    refine r_putL hC clX12 0 37 rfl rfl rfl (hC.n rfl) rfl rfl lf_X12_336 dX12_begins_35 ?_
    refine r_nmS (fun σ12 => ?_)
    refine r_aload_n hC dX12_begins_38 rfl 0 rfl ?_
    refine r_lconst (v := 0) hC dX12_begins_39 (by decide) ?_
    refine r_putL hC clX12 0 38 rfl rfl rfl (hC.n rfl) rfl rfl lf_X12_339 dX12_begins_40 ?_
    refine r_nmS (fun σ13 => ?_)
    refine r_aload_n hC dX12_begins_43 rfl 0 rfl ?_
    refine r_lconst (v := 0) hC dX12_begins_44 (by decide) ?_
    refine r_putL hC clX12 0 39 rfl rfl rfl (hC.n rfl) rfl rfl lf_X12_342 dX12_begins_45 ?_
    refine r_nmS (fun σ14 => ?_)
    refine r_aload_n hC dX12_begins_48 rfl 0 rfl ?_
    refine r_lconst (v := 0) hC dX12_begins_49 (by decide) ?_
    refine r_putL hC clX12 0 40 rfl rfl rfl (hC.n rfl) rfl rfl lf_X12_345 dX12_begins_50 ?_
    refine r_nmS (fun σ15 => ?_)
    refine r_aload_n hC dX12_begins_53 rfl 0 rfl ?_
    refine r_iconst (v := 0) hC dX12_begins_54 (by decide) ?_
    refine r_putI hC clX12 0 41 rfl rfl rfl (hC.n rfl) rfl rfl lf_X12_348 dX12_begins_55 ?_
    refine r_nmS (fun σ16 => ?_)
    exact r_vret hC hret dX12_begins_58
set_option maxHeartbeats 4000000 in
set_option maxRecDepth 100000 in
theorem c_X12_within {l : Launch} {w : Wd} (hW : HWd w shM rM 29) (σ : St) (a1 : Int32) (a2 : Int32) (a3 : Int32)  : ∀ res, f_X12_within a1 a2 a3 = some res → MtI l yX12_within cX12_within 3 .int 0 0 w [.int a1, .int a2, .int a3] σ (res, σ) := by
  refine mt_P (by decide) rfl hW (fun X hl0 hC hret => ?_)
  show RF X w (Aw w (xs_ X).heap.size) 3 (fun r => QI X w (r, σ)) (f_X12_within a1 a2 a3) 0 [(0, .int a1), (1, .int a2), (2, .int a3)] [] σ
  unfold f_X12_within
  refine r_iload_n hC dX12_within_0 rfl 0 rfl ?_
  refine r_iload_n hC dX12_within_1 rfl 1 rfl ?_
  refine r_icmp_ge hC 9 dX12_within_2 (by decide) (fun c1 => ?_) (fun c1 => ?_)
  · refine r_iload_n hC dX12_within_9 rfl 0 rfl ?_
    refine r_iload_n hC dX12_within_10 rfl 2 rfl ?_
    refine r_icmp_le hC 18 dX12_within_11 (by decide) (fun c2 => ?_) (fun c2 => ?_)
    · refine r_iload_n hC dX12_within_18 rfl 0 rfl ?_
      exact r_iretP hC hret rfl dX12_within_19
    · refine r_iload_n hC dX12_within_14 rfl 2 rfl ?_
      refine r_goto hC 19 dX12_within_15 (by decide) ?_
      exact r_iretP hC hret rfl dX12_within_19
  · refine r_iload_n hC dX12_within_5 rfl 1 rfl ?_
    refine r_goto hC 19 dX12_within_6 (by decide) ?_
    exact r_iretP hC hret rfl dX12_within_19
set_option maxHeartbeats 4000000 in
set_option maxRecDepth 100000 in
theorem c_X12_givesOf {l : Launch} {w : Wd} (hW : HWd w shM rM 29) (σ : St) (a2 : Int32)  : ∀ res, f_X12_givesOf σ a2 = some res → MtI l yX12_givesOf cX12_givesOf 4 .int 70 2700 w [.ref (wA w 0), .int a2] σ res := by
  refine mt_I (by decide) rfl hW (fun X hl0 hC hret => ?_)
  show RF X w (Aw w (xs_ X).heap.size) 4 (QI X w) (f_X12_givesOf σ a2) 0 [(0, .ref (wA w 0)), (1, .int a2)] [] σ
  unfold f_X12_givesOf
  refine r_aload_n hC dX12_givesOf_0 rfl 0 rfl ?_
  refine r_getR hC clX12 0 12 8 rfl rfl rfl (hC.n rfl) rfl lf_X12_35 dX12_givesOf_1 ?_
  refine r_iload_n hC dX12_givesOf_4 rfl 1 rfl ?_
  refine r_gd (fun g1 => ?_)
  refine r_iald hC 8 8 rfl rfl g1 dX12_givesOf_5 ?_
  refine r_nmI (fun v2 => ?_)
  refine r_istore_n (lv' := [(2, .int v2), (0, .ref (wA w 0)), (1, .int a2)]) hC dX12_givesOf_6 rfl (by decide) rfl ?_
  refine r_aload_n hC dX12_givesOf_7 rfl 1 rfl ?_
  refine r_aload_n hC dX12_givesOf_8 rfl 1 rfl ?_
  refine r_getI hC clX12 0 4 rfl rfl (hC.n rfl) rfl lf_X12_315 dX12_givesOf_9 ?_
  refine r_nmI (fun v3 => ?_)
  refine r_iload_n hC dX12_givesOf_12 rfl 0 rfl ?_
  refine r_iload_n hC dX12_givesOf_13 rfl 2 rfl ?_
  refine r_aload_n hC dX12_givesOf_14 rfl 1 rfl ?_
  refine r_getI hC clX12 0 36 rfl rfl (hC.n rfl) rfl lf_X12_333 dX12_givesOf_15 ?_
  refine r_nmI (fun v4 => ?_)
  refine r_aload_n hC dX12_givesOf_18 rfl 1 rfl ?_
  refine r_getI hC clX12 0 41 rfl rfl (hC.n rfl) rfl lf_X12_348 dX12_givesOf_19 ?_
  refine r_nmI (fun v5 => ?_)
  refine r_iconst (v := 0) hC dX12_givesOf_22 (by decide) ?_
  refine r_callVI hC (b := 0) (ci := 12) (st := []) [.int v3, .int v2, .int a2, .int v4, .int v5, .int 0] rfl (hC.n rfl) rfl rfl (c_X12_read hC.w σ v3 v2 a2 v4 v5 0) yk_X12_read lm_X12_311 rfl ⟨rfl, rfl⟩ rfl dX12_givesOf_23 (fun v6 σ7 => ?_)
  refine r_iconst (v := 0) hC dX12_givesOf_26 (by decide) ?_
  refine r_sipush (v := 999) hC dX12_givesOf_27 (by decide) ?_
  refine r_callSP hC (st := []) [.int v6, .int 0, .int 999] (c_X12_within hC.w σ7 v6 0 999) yk_X12_within lm_X12_351 rfl ⟨rfl, rfl⟩ rfl dX12_givesOf_30 (fun v8 => ?_)
  refine r_istore_n (lv' := [(3, .int v8), (2, .int v2), (0, .ref (wA w 0)), (1, .int a2)]) hC dX12_givesOf_33 rfl (by decide) rfl ?_
  refine r_aload_n hC dX12_givesOf_34 rfl 2 rfl ?_
  refine r_getR hC clX12 0 34 13 rfl rfl rfl (hC.n rfl) rfl lf_X12_50 dX12_givesOf_35 ?_
  refine r_iload_n hC dX12_givesOf_38 rfl 1 rfl ?_
  refine r_gd (fun g9 => ?_)
  refine r_iald hC 13 16 rfl rfl g9 dX12_givesOf_39 ?_
  refine r_nmI (fun v10 => ?_)
  refine r_if_ne hC 49 dX12_givesOf_40 (by decide) (fun c11 => ?_) (fun c11 => ?_)
  · refine r_iload_n hC dX12_givesOf_49 rfl 0 rfl ?_
    exact r_iret hC hret rfl dX12_givesOf_50
  · refine r_iload_n hC dX12_givesOf_43 rfl 0 rfl ?_
    refine r_iconst (v := 2) hC dX12_givesOf_44 (by decide) ?_
    refine r_idiv hC dX12_givesOf_45 (by decide) ?_
    refine r_goto hC 50 dX12_givesOf_46 (by decide) ?_
    exact r_iret hC hret rfl dX12_givesOf_50
set_option maxHeartbeats 4000000 in
set_option maxRecDepth 100000 in
theorem w_X12_strokes_l67 {X : Mc} {w : Wd} (hC : Cok X w (Aw w (xs_ X).heap.size) yX12_strokes.cls cX12_strokes 12 71 2723 shM rM 29) (hret : (xmeth X).sig.returnType = none) (a2 : Int32) (σ7 : St) (t12 : Int64)   (K19 : Int64 → St → Option St) (hK19 : ∀ (x17 : Int64) (σ18 : St), RF X w (Aw w (xs_ X).heap.size) 12 (QV X w) (K19 x17 σ18) 238 [(0, .ref (wA w 0)), (1, .int a2), (2, .long t12), (4, .long x17)] [] σ18) : ∀ (n : Nat) (x14 : Int64) (x15 : Int32) (σ16 : St), RF X w (Aw w (xs_ X).heap.size) 12 (QV X w) (f_X12_strokes_l67 a2 K19 n x14 x15 σ16) 67 [(0, .ref (wA w 0)), (1, .int a2), (2, .long t12), (4, .long x14), (6, .int x15)] [] σ16 := by
  intro n
  induction n with
  | zero => intro x14 x15 σ16; rw [f_X12_strokes_l67]; exact r_none
  | succ n ih =>
    intro x14 x15 σ16
    rw [f_X12_strokes_l67]
    refine r_iload hC dX12_strokes_67 4 rfl ?_
    refine r_bipush (v := 8) hC dX12_strokes_69 (by decide) ?_
    refine r_icmp_ge hC 238 dX12_strokes_71 (by decide) (fun c20 => ?_) (fun c20 => ?_)
    · exact r_lv [0, 1, 2, 3] rfl (hK19 x14 σ16)
    · refine r_aload_n hC dX12_strokes_74 rfl 0 rfl ?_
      refine r_getR hC clX12 0 35 14 rfl rfl rfl (hC.n rfl) rfl lf_X12_53 dX12_strokes_75 ?_
      refine r_iload hC dX12_strokes_78 4 rfl ?_
      refine r_lconst (v := 0) hC dX12_strokes_80 (by decide) ?_
      refine r_gd (fun g21 => ?_)
      refine r_last hC 14 8 rfl rfl g21 dX12_strokes_81 ?_
      refine r_nmS (fun σ22 => ?_)
      refine r_aload_n hC dX12_strokes_82 rfl 0 rfl ?_
      refine r_getR hC clX12 0 12 8 rfl rfl rfl (hC.n rfl) rfl lf_X12_35 dX12_strokes_83 ?_
      refine r_iload hC dX12_strokes_86 4 rfl ?_
      refine r_gd (fun g23 => ?_)
      refine r_iald hC 8 8 rfl rfl g23 dX12_strokes_88 ?_
      refine r_nmI (fun v24 => ?_)
      refine r_istore (lv' := [(7, .int v24), (0, .ref (wA w 0)), (1, .int a2), (2, .long t12), (4, .long x14), (6, .int x15)]) hC dX12_strokes_89 (by decide) rfl ?_
      refine r_iload hC dX12_strokes_91 0 rfl ?_
      refine r_iconst (v := (-1)) hC dX12_strokes_93 (by decide) ?_
      refine r_jn (T := fun (j27 : Int64 → St → Option St) => ∀ (x25 : Int64) (σ26 : St), RF X w (Aw w (xs_ X).heap.size) 12 (QV X w) (j27 x25 σ26) 232 [(0, .ref (wA w 0)), (1, .int a2), (2, .long t12), (4, .long x25), (6, .int x15)] [] σ26) ?_ (fun j27 hj27 => ?_)
      · intro x25 σ26
        refine r_iinc (v := x15 + 1) (lv' := [(6, .int (x15 + 1)), (0, .ref (wA w 0)), (1, .int a2), (2, .long t12), (4, .long x25)]) hC dX12_strokes_232 4 rfl rfl (by decide) rfl ?_
        refine r_goto hC 67 dX12_strokes_235 (by decide) ?_
        exact r_lv [1, 2, 3, 4, 0] rfl (ih x25 (x15 + 1) σ26)
      · refine r_icmp_ne hC 100 dX12_strokes_94 (by decide) (fun c28 => ?_) (fun c28 => ?_)
        · refine r_aload_n hC dX12_strokes_100 rfl 1 rfl ?_
          refine r_iload hC dX12_strokes_101 5 rfl ?_
          refine r_callVI hC (b := 0) (ci := 12) (st := []) [.int x15] rfl (hC.n rfl) rfl rfl (c_X12_givesOf hC.w σ22 x15) yk_X12_givesOf lm_X12_357 rfl ⟨rfl, rfl⟩ rfl dX12_strokes_103 (fun v29 σ30 => ?_)
          refine r_istore (lv' := [(8, .int v29), (7, .int v24), (0, .ref (wA w 0)), (1, .int a2), (2, .long t12), (4, .long x14), (6, .int x15)]) hC dX12_strokes_106 (by decide) rfl ?_
          refine r_aload_n hC dX12_strokes_108 rfl 2 rfl ?_
          refine r_getR hC clX12 0 35 14 rfl rfl rfl (hC.n rfl) rfl lf_X12_53 dX12_strokes_109 ?_
          refine r_iload hC dX12_strokes_112 6 rfl ?_
          refine r_iload_n hC dX12_strokes_114 rfl 3 rfl ?_
          refine r_iload hC dX12_strokes_115 0 rfl ?_
          refine r_iload hC dX12_strokes_117 6 rfl ?_
          refine r_callSP hC (st := [.int x15, .ref (wA w 14)]) [.int a2, .int v29, .int x15] (c_X12_pullOf hC.w σ30 a2 v29 x15) yk_X12_pullOf lm_X12_163 rfl ⟨rfl, rfl⟩ rfl dX12_strokes_119 (fun v31 => ?_)
          refine r_i2l hC dX12_strokes_122 ?_
          refine r_aload_n hC dX12_strokes_123 rfl 2 rfl ?_
          refine r_getR hC clX12 0 14 10 rfl rfl rfl (hC.n rfl) rfl lf_X12_41 dX12_strokes_124 ?_
          refine r_iload hC dX12_strokes_127 6 rfl ?_
          refine r_gd (fun g32 => ?_)
          refine r_iald hC 10 8 rfl rfl g32 dX12_strokes_129 ?_
          refine r_nmI (fun v33 => ?_)
          refine r_i2l hC dX12_strokes_130 ?_
          refine r_lmul hC dX12_strokes_131 ?_
          refine r_ldc2 (v := 4) hC lc_X12_360 dX12_strokes_132 ?_
          refine r_ldiv hC dX12_strokes_135 (by decide) ?_
          refine r_gd (fun g34 => ?_)
          refine r_last hC 14 8 rfl rfl g34 dX12_strokes_136 ?_
          refine r_nmS (fun σ35 => ?_)
          refine r_aload_n hC dX12_strokes_137 rfl 2 rfl ?_
          refine r_getR hC clX12 0 34 13 rfl rfl rfl (hC.n rfl) rfl lf_X12_50 dX12_strokes_138 ?_
          refine r_iload hC dX12_strokes_141 1 rfl ?_
          refine r_aload_n hC dX12_strokes_143 rfl 2 rfl ?_
          refine r_getR hC clX12 0 34 13 rfl rfl rfl (hC.n rfl) rfl lf_X12_50 dX12_strokes_144 ?_
          refine r_iload hC dX12_strokes_147 1 rfl ?_
          refine r_gd (fun g36 => ?_)
          refine r_iald hC 13 16 rfl rfl g36 dX12_strokes_149 ?_
          refine r_nmI (fun v37 => ?_)
          refine r_iload_n hC dX12_strokes_150 rfl 3 rfl ?_
          refine r_iload hC dX12_strokes_151 0 rfl ?_
          refine r_callSP hC (st := [.int v37, .int v24, .ref (wA w 13)]) [.int a2, .int v29] (c_X12_costOf hC.w σ35 a2 v29) yk_X12_costOf lm_X12_167 rfl ⟨rfl, rfl⟩ rfl dX12_strokes_153 (fun v38 => ?_)
          refine r_isub hC dX12_strokes_156 ?_
          refine r_iconst (v := 0) hC dX12_strokes_157 (by decide) ?_
          refine r_sipush (v := 9999) hC dX12_strokes_158 (by decide) ?_
          refine r_callSP hC (st := [.int v24, .ref (wA w 13)]) [.int (v37 - v38), .int 0, .int 9999] (c_X12_within hC.w σ35 (v37 - v38) 0 9999) yk_X12_within lm_X12_351 rfl ⟨rfl, rfl⟩ rfl dX12_strokes_161 (fun v39 => ?_)
          refine r_aload_n hC dX12_strokes_164 rfl 2 rfl ?_
          refine r_getR hC clX12 0 10 7 rfl rfl rfl (hC.n rfl) rfl lf_X12_32 dX12_strokes_165 ?_
          refine r_iload hC dX12_strokes_168 1 rfl ?_
          refine r_gd (fun g40 => ?_)
          refine r_iald hC 7 16 rfl rfl g40 dX12_strokes_170 ?_
          refine r_nmI (fun v41 => ?_)
          refine r_iadd hC dX12_strokes_171 ?_
          refine r_iconst (v := 0) hC dX12_strokes_172 (by decide) ?_
          refine r_sipush (v := 9999) hC dX12_strokes_173 (by decide) ?_
          refine r_callSP hC (st := [.int v24, .ref (wA w 13)]) [.int (v39 + v41), .int 0, .int 9999] (c_X12_within hC.w σ35 (v39 + v41) 0 9999) yk_X12_within lm_X12_351 rfl ⟨rfl, rfl⟩ rfl dX12_strokes_176 (fun v42 => ?_)
          refine r_gd (fun g43 => ?_)
          refine r_iast hC 13 16 rfl rfl g43 dX12_strokes_179 ?_
          refine r_nmS (fun σ44 => ?_)
          refine r_lload hC dX12_strokes_180 5 rfl ?_
          refine r_aload_n hC dX12_strokes_182 rfl 2 rfl ?_
          refine r_getR hC clX12 0 35 14 rfl rfl rfl (hC.n rfl) rfl lf_X12_53 dX12_strokes_183 ?_
          refine r_iload hC dX12_strokes_186 6 rfl ?_
          refine r_gd (fun g45 => ?_)
          refine r_lald hC 14 8 rfl rfl g45 dX12_strokes_188 ?_
          refine r_nmL (fun v46 => ?_)
          refine r_ladd hC dX12_strokes_189 ?_
          refine r_nmL (fun v47 => ?_)
          refine r_lstore (lv' := [(4, .long v47), (8, .int v29), (7, .int v24), (0, .ref (wA w 0)), (1, .int a2), (2, .long t12), (6, .int x15)]) hC dX12_strokes_190 (by decide) rfl ?_
          refine r_aload_n hC dX12_strokes_192 rfl 3 rfl ?_
          refine r_dup hC dX12_strokes_193 rfl ?_
          refine r_getL hC clX12 0 38 rfl rfl (hC.n rfl) rfl lf_X12_339 dX12_strokes_194 ?_
          refine r_nmL (fun v48 => ?_)
          refine r_aload_n hC dX12_strokes_197 rfl 3 rfl ?_
          refine r_getR hC clX12 0 13 9 rfl rfl rfl (hC.n rfl) rfl lf_X12_38 dX12_strokes_198 ?_
          refine r_iload hC dX12_strokes_201 6 rfl ?_
          refine r_gd (fun g49 => ?_)
          refine r_iald hC 9 8 rfl rfl g49 dX12_strokes_203 ?_
          refine r_nmI (fun v50 => ?_)
          refine r_jn (T := fun (j52 : Int64 → Option St) => ∀ (t51 : Int64), RF X w (Aw w (xs_ X).heap.size) 12 (QV X w) (j52 t51) 214 [(0, .ref (wA w 0)), (1, .int a2), (2, .long t12), (4, .long v47), (6, .int x15)] [.long t51, .long v48, .ref (wA w 0)] σ44) ?_ (fun j52 hj52 => ?_)
          · intro t51
            refine r_aload_n hC dX12_strokes_214 rfl 0 rfl ?_
            refine r_getR hC clX12 0 35 14 rfl rfl rfl (hC.n rfl) rfl lf_X12_53 dX12_strokes_215 ?_
            refine r_iload hC dX12_strokes_218 4 rfl ?_
            refine r_gd (fun g53 => ?_)
            refine r_lald hC 14 8 rfl rfl g53 dX12_strokes_220 ?_
            refine r_nmL (fun v54 => ?_)
            refine r_lmul hC dX12_strokes_221 ?_
            refine r_iload hC dX12_strokes_222 4 rfl ?_
            refine r_iconst (v := 1) hC dX12_strokes_224 (by decide) ?_
            refine r_iadd hC dX12_strokes_225 ?_
            refine r_i2l hC dX12_strokes_226 ?_
            refine r_lmul hC dX12_strokes_227 ?_
            refine r_ladd hC dX12_strokes_228 ?_
            refine r_putL hC clX12 0 38 rfl rfl rfl (hC.n rfl) rfl rfl lf_X12_339 dX12_strokes_229 ?_
            refine r_nmS (fun σ55 => ?_)
            exact r_lv [0, 1, 2, 3, 4] rfl (hj27 v47 σ55)
          · refine r_if_ne hC 211 dX12_strokes_204 (by decide) (fun c56 => ?_) (fun c56 => ?_)
            · refine r_ldc2 (v := (-1)) hC lc_X12_209 dX12_strokes_211 ?_
              exact r_lv [3, 4, 5, 0, 6] rfl (hj52 (-1))
            · refine r_lconst (v := 1) hC dX12_strokes_207 (by decide) ?_
              refine r_goto hC 214 dX12_strokes_208 (by decide) ?_
              exact r_lv [3, 4, 5, 0, 6] rfl (hj52 1)
        · refine r_goto hC 232 dX12_strokes_97 (by decide) ?_
          exact r_lv [1, 2, 3, 4, 5] rfl (hj27 x14 σ22)
set_option maxHeartbeats 4000000 in
set_option maxRecDepth 100000 in
theorem c_X12_strokes {l : Launch} {w : Wd} (hW : HWd w shM rM 29) (σ : St) (a2 : Int32)  : ∀ res, f_X12_strokes σ a2 = some res → MtV l yX12_strokes cX12_strokes 12 71 2723 w [.ref (wA w 0), .int a2] σ res := by
  refine mt_V (by decide) rfl hW (fun X hl0 hC hret => ?_)
  show RF X w (Aw w (xs_ X).heap.size) 12 (QV X w) (f_X12_strokes σ a2) 0 [(0, .ref (wA w 0)), (1, .int a2)] [] σ
  unfold f_X12_strokes
  refine r_aload_n hC dX12_strokes_0 rfl 0 rfl ?_
  refine r_aload_n hC dX12_strokes_1 rfl 0 rfl ?_
  refine r_getI hC clX12 0 4 rfl rfl (hC.n rfl) rfl lf_X12_315 dX12_strokes_2 ?_
  refine r_nmI (fun v1 => ?_)
  refine r_aload_n hC dX12_strokes_5 rfl 0 rfl ?_
  refine r_getR hC clX12 0 12 8 rfl rfl rfl (hC.n rfl) rfl lf_X12_35 dX12_strokes_6 ?_
  refine r_iconst (v := 0) hC dX12_strokes_9 (by decide) ?_
  refine r_gd (fun g2 => ?_)
  refine r_iald hC 8 8 rfl rfl g2 dX12_strokes_10 ?_
  refine r_nmI (fun v3 => ?_)
  refine r_iconst (v := 0) hC dX12_strokes_11 (by decide) ?_
  refine r_aload_n hC dX12_strokes_12 rfl 0 rfl ?_
  refine r_getI hC clX12 0 36 rfl rfl (hC.n rfl) rfl lf_X12_333 dX12_strokes_13 ?_
  refine r_nmI (fun v4 => ?_)
  refine r_aload_n hC dX12_strokes_16 rfl 0 rfl ?_
  refine r_getI hC clX12 0 41 rfl rfl (hC.n rfl) rfl lf_X12_348 dX12_strokes_17 ?_
  refine r_nmI (fun v5 => ?_)
  refine r_iconst (v := 1) hC dX12_strokes_20 (by decide) ?_
  refine r_callVI hC (b := 0) (ci := 12) (st := []) [.int v1, .int v3, .int 0, .int v4, .int v5, .int 1] rfl (hC.n rfl) rfl rfl (c_X12_read hC.w σ v1 v3 0 v4 v5 1) yk_X12_read lm_X12_311 rfl ⟨rfl, rfl⟩ rfl dX12_strokes_21 (fun v6 σ7 => ?_)
  refine r_iconst (v := 0) hC dX12_strokes_24 (by decide) ?_
  refine r_ldcw (v := 99999) hC lc_X12_354 dX12_strokes_25 ?_
  refine r_callSP hC (st := []) [.int v6, .int 0, .int 99999] (c_X12_within hC.w σ7 v6 0 99999) yk_X12_within lm_X12_351 rfl ⟨rfl, rfl⟩ rfl dX12_strokes_28 (fun v8 => ?_)
  refine r_i2l hC dX12_strokes_31 ?_
  refine r_aload_n hC dX12_strokes_32 rfl 0 rfl ?_
  refine r_getI hC clX12 0 15 rfl rfl (hC.n rfl) rfl lf_X12_117 dX12_strokes_33 ?_
  refine r_nmI (fun v9 => ?_)
  refine r_i2l hC dX12_strokes_36 ?_
  refine r_lmul hC dX12_strokes_37 ?_
  refine r_ldc2 (v := 100) hC lc_X12_355 dX12_strokes_38 ?_
  refine r_ldiv hC dX12_strokes_41 (by decide) ?_
  refine r_aload_n hC dX12_strokes_42 rfl 0 rfl ?_
  refine r_getI hC clX12 0 16 rfl rfl (hC.n rfl) rfl lf_X12_156 dX12_strokes_43 ?_
  refine r_nmI (fun v10 => ?_)
  refine r_i2l hC dX12_strokes_46 ?_
  refine r_ladd hC dX12_strokes_47 ?_
  refine r_nmL (fun v11 => ?_)
  refine r_lstore_n (lv' := [(2, .long v11), (0, .ref (wA w 0)), (1, .int a2)]) hC dX12_strokes_48 rfl (by decide) rfl ?_
  refine r_lload_n hC dX12_strokes_49 rfl 0 rfl ?_
  refine r_lconst (v := 0) hC dX12_strokes_50 (by decide) ?_
  refine r_jn (T := fun (j13 : Int64 → Option St) => ∀ (t12 : Int64), RF X w (Aw w (xs_ X).heap.size) 12 (QV X w) (j13 t12) 60 [(0, .ref (wA w 0)), (1, .int a2)] [.long t12] σ7) ?_ (fun j13 hj13 => ?_)
  · intro t12
    refine r_lstore_n (lv' := [(2, .long t12), (0, .ref (wA w 0)), (1, .int a2)]) hC dX12_strokes_60 rfl (by decide) rfl ?_
    refine r_lconst (v := 0) hC dX12_strokes_61 (by decide) ?_
    refine r_lstore (lv' := [(4, .long 0), (2, .long t12), (0, .ref (wA w 0)), (1, .int a2)]) hC dX12_strokes_62 (by decide) rfl ?_
    refine r_iconst (v := 0) hC dX12_strokes_64 (by decide) ?_
    refine r_istore (lv' := [(6, .int 0), (4, .long 0), (2, .long t12), (0, .ref (wA w 0)), (1, .int a2)]) hC dX12_strokes_65 (by decide) rfl ?_
    refine r_lv [3, 4, 2, 1, 0] rfl ?_
    refine w_X12_strokes_l67 hC hret a2 σ7 t12 _ ?_ FU 0 0 σ7
    · intro x17 σ18
      refine r_aload_n hC dX12_strokes_238 rfl 0 rfl ?_
      refine r_getI hC clX12 0 36 rfl rfl (hC.n rfl) rfl lf_X12_333 dX12_strokes_239 ?_
      refine r_nmI (fun v57 => ?_)
      refine r_i2l hC dX12_strokes_242 ?_
      refine r_lload hC dX12_strokes_243 3 rfl ?_
      refine r_ldc2 (v := 100) hC lc_X12_355 dX12_strokes_245 ?_
      refine r_lmul hC dX12_strokes_248 ?_
      refine r_aload_n hC dX12_strokes_249 rfl 0 rfl ?_
      refine r_callVP hC (b := 0) (ci := 12) (st := [.long (x17 * 100), .long (Int32.toInt64 v57)]) [] rfl (hC.n rfl) rfl rfl (c_X12_allWeights hC.w σ18) yk_X12_allWeights lm_X12_362 rfl ⟨rfl, rfl⟩ rfl dX12_strokes_250 (fun v58 => ?_)
      refine r_sipush (v := 200) hC dX12_strokes_253 (by decide) ?_
      refine r_iadd hC dX12_strokes_256 ?_
      refine r_i2l hC dX12_strokes_257 ?_
      refine r_nmL (fun v59 => ?_)
      refine r_gd (fun g60 => ?_)
      refine r_ldiv hC dX12_strokes_258 g60 ?_
      refine r_ladd hC dX12_strokes_259 ?_
      refine r_nmL (fun v61 => ?_)
      refine r_lstore (lv' := [(6, .long v61), (0, .ref (wA w 0)), (1, .int a2), (2, .long t12), (4, .long x17)]) hC dX12_strokes_260 (by decide) rfl ?_
      refine r_lload_n hC dX12_strokes_262 rfl 3 rfl ?_
      refine r_lload hC dX12_strokes_263 0 rfl ?_
      refine r_jn (T := fun (j63 : Int64 → Option St) => ∀ (t62 : Int64), RF X w (Aw w (xs_ X).heap.size) 12 (QV X w) (j63 t62) 275 [(0, .ref (wA w 0)), (1, .int a2), (6, .long v61)] [.long t62] σ18) ?_ (fun j63 hj63 => ?_)
      · intro t62
        refine r_lstore (lv' := [(8, .long t62), (0, .ref (wA w 0)), (1, .int a2), (6, .long v61)]) hC dX12_strokes_275 (by decide) rfl ?_
        refine r_lload hC dX12_strokes_277 3 rfl ?_
        refine r_lload hC dX12_strokes_279 0 rfl ?_
        refine r_lsub hC dX12_strokes_281 ?_
        refine r_nmL (fun v64 => ?_)
        refine r_lstore (lv' := [(6, .long v64), (8, .long t62), (0, .ref (wA w 0)), (1, .int a2)]) hC dX12_strokes_282 (by decide) rfl ?_
        refine r_aload_n hC dX12_strokes_284 rfl 2 rfl ?_
        refine r_dup hC dX12_strokes_285 rfl ?_
        refine r_getL hC clX12 0 39 rfl rfl (hC.n rfl) rfl lf_X12_342 dX12_strokes_286 ?_
        refine r_nmL (fun v65 => ?_)
        refine r_lload hC dX12_strokes_289 1 rfl ?_
        refine r_ladd hC dX12_strokes_291 ?_
        refine r_putL hC clX12 0 39 rfl rfl rfl (hC.n rfl) rfl rfl lf_X12_342 dX12_strokes_292 ?_
        refine r_nmS (fun σ66 => ?_)
        refine r_iload_n hC dX12_strokes_295 rfl 3 rfl ?_
        refine r_callSP hC (st := []) [.int a2] (c_X12_slipsOf hC.w σ66 a2) yk_X12_slipsOf lm_X12_171 rfl ⟨rfl, rfl⟩ rfl dX12_strokes_296 (fun v67 => ?_)
        refine r_i2l hC dX12_strokes_299 ?_
        refine r_aload_n hC dX12_strokes_300 rfl 2 rfl ?_
        refine r_getI hC clX12 0 36 rfl rfl (hC.n rfl) rfl lf_X12_333 dX12_strokes_301 ?_
        refine r_nmI (fun v68 => ?_)
        refine r_i2l hC dX12_strokes_304 ?_
        refine r_lmul hC dX12_strokes_305 ?_
        refine r_ldc2 (v := 100) hC lc_X12_355 dX12_strokes_306 ?_
        refine r_ldiv hC dX12_strokes_309 (by decide) ?_
        refine r_nmL (fun v69 => ?_)
        refine r_lstore (lv' := [(10, .long v69), (6, .long v64), (8, .long t62), (0, .ref (wA w 0)), (1, .int a2)]) hC dX12_strokes_310 (by decide) rfl ?_
        refine r_lload hC dX12_strokes_312 0 rfl ?_
        refine r_lload hC dX12_strokes_314 1 rfl ?_
        refine r_jn (T := fun (j71 : Int64 → Option St) => ∀ (t70 : Int64), RF X w (Aw w (xs_ X).heap.size) 12 (QV X w) (j71 t70) 327 [(0, .ref (wA w 0)), (6, .long v64)] [.long t70] σ66) ?_ (fun j71 hj71 => ?_)
        · intro t70
          refine r_lstore (lv' := [(10, .long t70), (0, .ref (wA w 0)), (6, .long v64)]) hC dX12_strokes_327 (by decide) rfl ?_
          refine r_lload hC dX12_strokes_329 2 rfl ?_
          refine r_lload hC dX12_strokes_331 0 rfl ?_
          refine r_lsub hC dX12_strokes_333 ?_
          refine r_nmL (fun v72 => ?_)
          refine r_lstore (lv' := [(6, .long v72), (10, .long t70), (0, .ref (wA w 0))]) hC dX12_strokes_334 (by decide) rfl ?_
          refine r_aload_n hC dX12_strokes_336 rfl 2 rfl ?_
          refine r_dup hC dX12_strokes_337 rfl ?_
          refine r_getL hC clX12 0 40 rfl rfl (hC.n rfl) rfl lf_X12_345 dX12_strokes_338 ?_
          refine r_nmL (fun v73 => ?_)
          refine r_lload hC dX12_strokes_341 1 rfl ?_
          refine r_ladd hC dX12_strokes_343 ?_
          refine r_putL hC clX12 0 40 rfl rfl rfl (hC.n rfl) rfl rfl lf_X12_345 dX12_strokes_344 ?_
          refine r_nmS (fun σ74 => ?_)
          refine r_aload_n hC dX12_strokes_347 rfl 2 rfl ?_
          refine r_lload hC dX12_strokes_348 0 rfl ?_
          refine r_ldc2 (v := 99999) hC lc_X12_365 dX12_strokes_350 ?_
          refine r_jn (T := fun (j76 : Int64 → Option St) => ∀ (t75 : Int64), RF X w (Aw w (xs_ X).heap.size) 12 (QV X w) (j76 t75) 365 [(0, .ref (wA w 0))] [.long t75, .ref (wA w 0)] σ74) ?_ (fun j76 hj76 => ?_)
          · intro t75
            refine r_l2i hC dX12_strokes_365 ?_
            refine r_putI hC clX12 0 36 rfl rfl rfl (hC.n rfl) rfl rfl lf_X12_333 dX12_strokes_366 ?_
            refine r_nmS (fun σ77 => ?_)
            refine r_aload_n hC dX12_strokes_369 rfl 0 rfl ?_
            refine r_dup hC dX12_strokes_370 rfl ?_
            refine r_getL hC clX12 0 37 rfl rfl (hC.n rfl) rfl lf_X12_336 dX12_strokes_371 ?_
            refine r_nmL (fun v78 => ?_)
            refine r_aload_n hC dX12_strokes_374 rfl 0 rfl ?_
            refine r_getI hC clX12 0 36 rfl rfl (hC.n rfl) rfl lf_X12_333 dX12_strokes_375 ?_
            refine r_nmI (fun v79 => ?_)
            refine r_i2l hC dX12_strokes_378 ?_
            refine r_ladd hC dX12_strokes_379 ?_
            refine r_putL hC clX12 0 37 rfl rfl rfl (hC.n rfl) rfl rfl lf_X12_336 dX12_strokes_380 ?_
            refine r_nmS (fun σ80 => ?_)
            refine r_aload_n hC dX12_strokes_383 rfl 0 rfl ?_
            refine r_dup hC dX12_strokes_384 rfl ?_
            refine r_getI hC clX12 0 41 rfl rfl (hC.n rfl) rfl lf_X12_348 dX12_strokes_385 ?_
            refine r_nmI (fun v81 => ?_)
            refine r_iconst (v := 1) hC dX12_strokes_388 (by decide) ?_
            refine r_iadd hC dX12_strokes_389 ?_
            refine r_putI hC clX12 0 41 rfl rfl rfl (hC.n rfl) rfl rfl lf_X12_348 dX12_strokes_390 ?_
            refine r_nmS (fun σ82 => ?_)
            exact r_vret hC hret dX12_strokes_393
          · refine r_lcmp_le hC 363 dX12_strokes_353 dX12_strokes_354 (by decide) (fun c83 => ?_) (fun c83 => ?_)
            · refine r_lload hC dX12_strokes_363 0 rfl ?_
              exact r_lv [2] rfl (hj76 v72)
            · refine r_ldc2 (v := 99999) hC lc_X12_365 dX12_strokes_357 ?_
              refine r_goto hC 365 dX12_strokes_360 (by decide) ?_
              exact r_lv [2] rfl (hj76 99999)
        · refine r_lcmp_ge hC 325 dX12_strokes_316 dX12_strokes_317 (by decide) (fun c84 => ?_) (fun c84 => ?_)
          · refine r_lload hC dX12_strokes_325 1 rfl ?_
            exact r_lv [3, 1] rfl (hj71 v64)
          · refine r_lload hC dX12_strokes_320 0 rfl ?_
            refine r_goto hC 327 dX12_strokes_322 (by decide) ?_
            exact r_lv [3, 1] rfl (hj71 v69)
      · refine r_lcmp_ge hC 273 dX12_strokes_265 dX12_strokes_266 (by decide) (fun c85 => ?_) (fun c85 => ?_)
        · refine r_lload hC dX12_strokes_273 0 rfl ?_
          exact r_lv [1, 2, 0] rfl (hj63 v61)
        · refine r_lload_n hC dX12_strokes_269 rfl 3 rfl ?_
          refine r_goto hC 275 dX12_strokes_270 (by decide) ?_
          exact r_lv [1, 2, 0] rfl (hj63 t12)
  · refine r_lcmp_ge hC 59 dX12_strokes_51 dX12_strokes_52 (by decide) (fun c86 => ?_) (fun c86 => ?_)
    · refine r_lload_n hC dX12_strokes_59 rfl 0 rfl ?_
      exact r_lv [1, 2] rfl (hj13 v11)
    · refine r_lconst (v := 0) hC dX12_strokes_55 (by decide) ?_
      refine r_goto hC 60 dX12_strokes_56 (by decide) ?_
      exact r_lv [1, 2] rfl (hj13 0)
set_option maxHeartbeats 4000000 in
set_option maxRecDepth 100000 in
theorem w_X12_goes_l6 {X : Mc} {w : Wd} (hC : Cok X w (Aw w (xs_ X).heap.size) yX12_goes.cls cX12_goes 3 72 2754 shM rM 29) (hret : (xmeth X).sig.returnType = none) (a2 : Int32) (σ1 : St)     : ∀ (n : Nat) (x2 : Int32) (σ3 : St), RF X w (Aw w (xs_ X).heap.size) 3 (QV X w) (f_X12_goes_l6 a2 n x2 σ3) 6 [(0, .ref (wA w 0)), (1, .int a2), (2, .int x2)] [] σ3 := by
  intro n
  induction n with
  | zero => intro x2 σ3; rw [f_X12_goes_l6]; exact r_none
  | succ n ih =>
    intro x2 σ3
    rw [f_X12_goes_l6]
    refine r_iload_n hC dX12_goes_6 rfl 2 rfl ?_
    refine r_aload_n hC dX12_goes_7 rfl 0 rfl ?_
    refine r_getR hC clX12 0 31 11 rfl rfl rfl (hC.n rfl) rfl lf_X12_44 dX12_goes_8 ?_
    refine r_iload_n hC dX12_goes_11 rfl 1 rfl ?_
    refine r_gd (fun g4 => ?_)
    refine r_iald hC 11 8 rfl rfl g4 dX12_goes_12 ?_
    refine r_nmI (fun v5 => ?_)
    refine r_icmp_ge hC 38 dX12_goes_13 (by decide) (fun c6 => ?_) (fun c6 => ?_)
    · exact r_vret hC hret dX12_goes_38
    · refine r_aload_n hC dX12_goes_16 rfl 0 rfl ?_
      refine r_aload_n hC dX12_goes_17 rfl 0 rfl ?_
      refine r_getR hC clX12 0 32 12 rfl rfl rfl (hC.n rfl) rfl lf_X12_47 dX12_goes_18 ?_
      refine r_sipush (v := 200) hC dX12_goes_21 (by decide) ?_
      refine r_iload_n hC dX12_goes_24 rfl 1 rfl ?_
      refine r_imul hC dX12_goes_25 ?_
      refine r_iload_n hC dX12_goes_26 rfl 2 rfl ?_
      refine r_iadd hC dX12_goes_27 ?_
      refine r_nmI (fun v7 => ?_)
      refine r_gd (fun g8 => ?_)
      refine r_iald hC 12 1600 rfl rfl g8 dX12_goes_28 ?_
      refine r_nmI (fun v9 => ?_)
      refine r_callVV hC (b := 0) (ci := 12) (st := []) [.int v9] rfl (hC.n rfl) rfl rfl (c_X12_strokes hC.w σ3 v9) yk_X12_strokes lm_X12_370 rfl ⟨rfl, rfl⟩ rfl dX12_goes_29 (fun σ10 => ?_)
      refine r_iinc (v := x2 + 1) (lv' := [(2, .int (x2 + 1)), (0, .ref (wA w 0)), (1, .int a2)]) hC dX12_goes_32 2 rfl rfl (by decide) rfl ?_
      refine r_goto hC 6 dX12_goes_35 (by decide) ?_
      exact r_lv [1, 2, 0] rfl (ih (x2 + 1) σ10)
set_option maxHeartbeats 4000000 in
set_option maxRecDepth 100000 in
theorem c_X12_goes {l : Launch} {w : Wd} (hW : HWd w shM rM 29) (σ : St) (a2 : Int32)  : ∀ res, f_X12_goes σ a2 = some res → MtV l yX12_goes cX12_goes 3 72 2754 w [.ref (wA w 0), .int a2] σ res := by
  refine mt_V (by decide) rfl hW (fun X hl0 hC hret => ?_)
  show RF X w (Aw w (xs_ X).heap.size) 3 (QV X w) (f_X12_goes σ a2) 0 [(0, .ref (wA w 0)), (1, .int a2)] [] σ
  unfold f_X12_goes
  refine r_aload_n hC dX12_goes_0 rfl 0 rfl ?_
  refine r_callVV hC (b := 0) (ci := 12) (st := []) [] rfl (hC.n rfl) rfl rfl (c_X12_begins hC.w σ) yk_X12_begins lm_X12_367 rfl ⟨rfl, rfl⟩ rfl dX12_goes_1 (fun σ1 => ?_)
  refine r_iconst (v := 0) hC dX12_goes_4 (by decide) ?_
  refine r_istore_n (lv' := [(2, .int 0), (0, .ref (wA w 0)), (1, .int a2)]) hC dX12_goes_5 rfl (by decide) rfl ?_
  refine r_lv [1, 2, 0] rfl ?_
  exact w_X12_goes_l6 hC hret a2 σ1 FU 0 σ1
set_option maxHeartbeats 4000000 in
set_option maxRecDepth 100000 in
theorem c_X12_row {l : Launch} {w : Wd} (hW : HWd w shM rM 29) (σ : St) (a2 : Int32) (a3 : Int32)  : ∀ res, f_X12_row σ a2 a3 = some res → MtL l yX12_row cX12_row 3 .long 73 2776 w [.ref (wA w 0), .int a2, .int a3] σ res := by
  refine mt_L (by decide) rfl hW (fun X hl0 hC hret => ?_)
  show RF X w (Aw w (xs_ X).heap.size) 3 (QL X w) (f_X12_row σ a2 a3) 0 [(0, .ref (wA w 0)), (1, .int a2), (2, .int a3)] [] σ
  unfold f_X12_row
  refine r_aload_n hC dX12_row_0 rfl 0 rfl ?_
  refine r_iload_n hC dX12_row_1 rfl 1 rfl ?_
  refine r_callVP hC (b := 0) (ci := 12) (st := []) [.int a2] rfl (hC.n rfl) rfl rfl (c_X12_isPlan hC.w σ a2) yk_X12_isPlan lm_X12_330 rfl ⟨rfl, rfl⟩ rfl dX12_row_2 (fun v1 => ?_)
  refine r_if_eq hC 20 dX12_row_5 (by decide) (fun c2 => ?_) (fun c2 => ?_)
  · refine r_ldc2 (v := (-4611686018427387904)) hC lc_X12_374 dX12_row_20 ?_
    exact r_lret hC hret dX12_row_23
  · refine r_iload_n hC dX12_row_8 rfl 2 rfl ?_
    refine r_i2l hC dX12_row_9 ?_
    refine r_lconst (v := 0) hC dX12_row_10 (by decide) ?_
    refine r_ldc2 (v := 4) hC lc_X12_360 dX12_row_11 ?_
    refine r_callSP hC (st := []) [.long (Int32.toInt64 a3), .long 0, .long 4] (c_X12_in hC.w σ (Int32.toInt64 a3) 0 4) yk_X12_in lm_X12_125 rfl ⟨rfl, rfl⟩ rfl dX12_row_14 (fun v3 => ?_)
    refine r_if_ne hC 24 dX12_row_17 (by decide) (fun c4 => ?_) (fun c4 => ?_)
    · refine r_aload_n hC dX12_row_24 rfl 0 rfl ?_
      refine r_iload_n hC dX12_row_25 rfl 1 rfl ?_
      refine r_callVV hC (b := 0) (ci := 12) (st := []) [.int a2] rfl (hC.n rfl) rfl rfl (c_X12_goes hC.w σ a2) yk_X12_goes lm_X12_376 rfl ⟨rfl, rfl⟩ rfl dX12_row_26 (fun σ5 => ?_)
      refine r_iload_n hC dX12_row_29 rfl 2 rfl ?_
      refine r_tab1 (off := 30) hC 60 0 dX12_row_30 (by decide) (by decide) (by decide) (by decide) ?_ (fun c7 => ?_)
      · refine r_aload_n hC dX12_row_60 rfl 0 rfl ?_
        refine r_getL hC clX12 0 37 rfl rfl (hC.n rfl) rfl lf_X12_336 dX12_row_61 ?_
        refine r_nmL (fun v6 => ?_)
        exact r_lret hC hret dX12_row_64
      · refine r_tab1 (off := 35) hC 65 1 dX12_row_30 (by decide) (by decide) (by decide) (by decide) ?_ (fun c9 => ?_)
        · refine r_aload_n hC dX12_row_65 rfl 0 rfl ?_
          refine r_getI hC clX12 0 36 rfl rfl (hC.n rfl) rfl lf_X12_333 dX12_row_66 ?_
          refine r_nmI (fun v8 => ?_)
          refine r_i2l hC dX12_row_69 ?_
          exact r_lret hC hret dX12_row_70
        · refine r_tab1 (off := 41) hC 71 2 dX12_row_30 (by decide) (by decide) (by decide) (by decide) ?_ (fun c11 => ?_)
          · refine r_aload_n hC dX12_row_71 rfl 0 rfl ?_
            refine r_getL hC clX12 0 38 rfl rfl (hC.n rfl) rfl lf_X12_339 dX12_row_72 ?_
            refine r_nmL (fun v10 => ?_)
            exact r_lret hC hret dX12_row_75
          · refine r_tab1 (off := 46) hC 76 3 dX12_row_30 (by decide) (by decide) (by decide) (by decide) ?_ (fun c13 => ?_)
            · refine r_aload_n hC dX12_row_76 rfl 0 rfl ?_
              refine r_getL hC clX12 0 39 rfl rfl (hC.n rfl) rfl lf_X12_342 dX12_row_77 ?_
              refine r_nmL (fun v12 => ?_)
              exact r_lret hC hret dX12_row_80
            · refine r_tabD hC 81 dX12_row_30 (by have e0 := ne_toInt (a := 0) (by decide) c7; have e1 := ne_toInt (a := 1) (by decide) c9; have e2 := ne_toInt (a := 2) (by decide) c11; have e3 := ne_toInt (a := 3) (by decide) c13; omega) (by decide) ?_
              refine r_aload_n hC dX12_row_81 rfl 0 rfl ?_
              refine r_getL hC clX12 0 40 rfl rfl (hC.n rfl) rfl lf_X12_345 dX12_row_82 ?_
              refine r_nmL (fun v14 => ?_)
              exact r_lret hC hret dX12_row_85
    · refine r_ldc2 (v := (-4611686018427387904)) hC lc_X12_374 dX12_row_20 ?_
      exact r_lret hC hret dX12_row_23
set_option maxHeartbeats 4000000 in
set_option maxRecDepth 100000 in
theorem c_X12_left {l : Launch} {w : Wd} (hW : HWd w shM rM 29) (σ : St) (a2 : Int32) (a3 : Int32)  : ∀ res, f_X12_left σ a2 a3 = some res → MtI l yX12_left cX12_left 3 .int 73 2776 w [.ref (wA w 0), .int a2, .int a3] σ res := by
  refine mt_I (by decide) rfl hW (fun X hl0 hC hret => ?_)
  show RF X w (Aw w (xs_ X).heap.size) 3 (QI X w) (f_X12_left σ a2 a3) 0 [(0, .ref (wA w 0)), (1, .int a2), (2, .int a3)] [] σ
  unfold f_X12_left
  refine r_aload_n hC dX12_left_0 rfl 0 rfl ?_
  refine r_iload_n hC dX12_left_1 rfl 1 rfl ?_
  refine r_callVP hC (b := 0) (ci := 12) (st := []) [.int a2] rfl (hC.n rfl) rfl rfl (c_X12_isPlan hC.w σ a2) yk_X12_isPlan lm_X12_330 rfl ⟨rfl, rfl⟩ rfl dX12_left_2 (fun v1 => ?_)
  refine r_if_eq hC 16 dX12_left_5 (by decide) (fun c2 => ?_) (fun c2 => ?_)
  · refine r_bipush (v := (-5)) hC dX12_left_16 (by decide) ?_
    exact r_iret hC hret rfl dX12_left_18
  · refine r_aload_n hC dX12_left_8 rfl 0 rfl ?_
    refine r_iload_n hC dX12_left_9 rfl 2 rfl ?_
    refine r_callVP hC (b := 0) (ci := 12) (st := []) [.int a3] rfl (hC.n rfl) rfl rfl (c_X12_isRower hC.w σ a3) yk_X12_isRower lm_X12_139 rfl ⟨rfl, rfl⟩ rfl dX12_left_10 (fun v3 => ?_)
    refine r_if_ne hC 19 dX12_left_13 (by decide) (fun c4 => ?_) (fun c4 => ?_)
    · refine r_aload_n hC dX12_left_19 rfl 0 rfl ?_
      refine r_iload_n hC dX12_left_20 rfl 1 rfl ?_
      refine r_callVV hC (b := 0) (ci := 12) (st := []) [.int a2] rfl (hC.n rfl) rfl rfl (c_X12_goes hC.w σ a2) yk_X12_goes lm_X12_376 rfl ⟨rfl, rfl⟩ rfl dX12_left_21 (fun σ5 => ?_)
      refine r_aload_n hC dX12_left_24 rfl 0 rfl ?_
      refine r_getR hC clX12 0 34 13 rfl rfl rfl (hC.n rfl) rfl lf_X12_50 dX12_left_25 ?_
      refine r_iload_n hC dX12_left_28 rfl 2 rfl ?_
      refine r_gd (fun g6 => ?_)
      refine r_iald hC 13 16 rfl rfl g6 dX12_left_29 ?_
      refine r_nmI (fun v7 => ?_)
      exact r_iret hC hret rfl dX12_left_30
    · refine r_bipush (v := (-5)) hC dX12_left_16 (by decide) ?_
      exact r_iret hC hret rfl dX12_left_18
set_option maxHeartbeats 4000000 in
set_option maxRecDepth 100000 in
theorem w_X12_rown_l19 {X : Mc} {w : Wd} (hC : Cok X w (Aw w (xs_ X).heap.size) yX12_rown.cls cX12_rown 3 73 2776 shM rM 29) (hret : (xmeth X).sig.returnType = some .long) (σ3 : St)   (K7 : St → Option (Int64 × St)) (hK7 : ∀ (σ6 : St), RF X w (Aw w (xs_ X).heap.size) 3 (QL X w) (K7 σ6) 45 [(0, .ref (wA w 0))] [] σ6) : ∀ (n : Nat) (x4 : Int32) (σ5 : St), RF X w (Aw w (xs_ X).heap.size) 3 (QL X w) (f_X12_rown_l19 K7 n x4 σ5) 19 [(0, .ref (wA w 0)), (2, .int x4)] [] σ5 := by
  intro n
  induction n with
  | zero => intro x4 σ5; rw [f_X12_rown_l19]; exact r_none
  | succ n ih =>
    intro x4 σ5
    rw [f_X12_rown_l19]
    refine r_iload_n hC dX12_rown_19 rfl 1 rfl ?_
    refine r_aload_n hC dX12_rown_20 rfl 0 rfl ?_
    refine r_getI hC clX12 0 11 rfl rfl (hC.n rfl) rfl lf_X12_122 dX12_rown_21 ?_
    refine r_nmI (fun v8 => ?_)
    refine r_icmp_ge hC 45 dX12_rown_24 (by decide) (fun c9 => ?_) (fun c9 => ?_)
    · exact r_lv [0] rfl (hK7 σ5)
    · refine r_aload_n hC dX12_rown_27 rfl 0 rfl ?_
      refine r_getR hC clX12 0 9 6 rfl rfl rfl (hC.n rfl) rfl lf_X12_29 dX12_rown_28 ?_
      refine r_iload_n hC dX12_rown_31 rfl 1 rfl ?_
      refine r_aload_n hC dX12_rown_32 rfl 0 rfl ?_
      refine r_getR hC clX12 0 34 13 rfl rfl rfl (hC.n rfl) rfl lf_X12_50 dX12_rown_33 ?_
      refine r_iload_n hC dX12_rown_36 rfl 1 rfl ?_
      refine r_gd (fun g10 => ?_)
      refine r_iald hC 13 16 rfl rfl g10 dX12_rown_37 ?_
      refine r_nmI (fun v11 => ?_)
      refine r_gd (fun g12 => ?_)
      refine r_iast hC 6 16 rfl rfl g12 dX12_rown_38 ?_
      refine r_nmS (fun σ13 => ?_)
      refine r_iinc (v := x4 + 1) (lv' := [(2, .int (x4 + 1)), (0, .ref (wA w 0))]) hC dX12_rown_39 1 rfl rfl (by decide) rfl ?_
      refine r_goto hC 19 dX12_rown_42 (by decide) ?_
      exact r_lv [1, 0] rfl (ih (x4 + 1) σ13)
set_option maxHeartbeats 4000000 in
set_option maxRecDepth 100000 in
theorem c_X12_rown {l : Launch} {w : Wd} (hW : HWd w shM rM 29) (σ : St) (a2 : Int32)  : ∀ res, f_X12_rown σ a2 = some res → MtL l yX12_rown cX12_rown 3 .long 73 2776 w [.ref (wA w 0), .int a2] σ res := by
  refine mt_L (by decide) rfl hW (fun X hl0 hC hret => ?_)
  show RF X w (Aw w (xs_ X).heap.size) 3 (QL X w) (f_X12_rown σ a2) 0 [(0, .ref (wA w 0)), (1, .int a2)] [] σ
  unfold f_X12_rown
  refine r_aload_n hC dX12_rown_0 rfl 0 rfl ?_
  refine r_iload_n hC dX12_rown_1 rfl 1 rfl ?_
  refine r_callVP hC (b := 0) (ci := 12) (st := []) [.int a2] rfl (hC.n rfl) rfl rfl (c_X12_isPlan hC.w σ a2) yk_X12_isPlan lm_X12_330 rfl ⟨rfl, rfl⟩ rfl dX12_rown_2 (fun v1 => ?_)
  refine r_if_ne hC 12 dX12_rown_5 (by decide) (fun c2 => ?_) (fun c2 => ?_)
  · refine r_aload_n hC dX12_rown_12 rfl 0 rfl ?_
    refine r_iload_n hC dX12_rown_13 rfl 1 rfl ?_
    refine r_callVV hC (b := 0) (ci := 12) (st := []) [.int a2] rfl (hC.n rfl) rfl rfl (c_X12_goes hC.w σ a2) yk_X12_goes lm_X12_376 rfl ⟨rfl, rfl⟩ rfl dX12_rown_14 (fun σ3 => ?_)
    refine r_iconst (v := 0) hC dX12_rown_17 (by decide) ?_
    refine r_istore_n (lv' := [(2, .int 0), (0, .ref (wA w 0)), (1, .int a2)]) hC dX12_rown_18 rfl (by decide) rfl ?_
    refine r_lv [1, 0] rfl ?_
    refine w_X12_rown_l19 hC hret σ3 _ ?_ FU 0 σ3
    · intro σ6
      refine r_aload_n hC dX12_rown_45 rfl 0 rfl ?_
      refine r_getL hC clX12 0 37 rfl rfl (hC.n rfl) rfl lf_X12_336 dX12_rown_46 ?_
      refine r_nmL (fun v14 => ?_)
      exact r_lret hC hret dX12_rown_49
  · refine r_ldc2 (v := (-4611686018427387904)) hC lc_X12_374 dX12_rown_8 ?_
    exact r_lret hC hret dX12_rown_11
set_option maxHeartbeats 4000000 in
set_option maxRecDepth 100000 in
theorem c_X12_changes {l : Launch} {w : Wd} (hW : HWd w shM rM 29) (σ : St) (a2 : Int32) (a3 : Int32)  : ∀ res, f_X12_changes σ a2 a3 = some res → MtV l yX12_changes cX12_changes 4 0 0 w [.ref (wA w 0), .int a2, .int a3] σ res := by
  refine mt_V (by decide) rfl hW (fun X hl0 hC hret => ?_)
  show RF X w (Aw w (xs_ X).heap.size) 4 (QV X w) (f_X12_changes σ a2 a3) 0 [(0, .ref (wA w 0)), (1, .int a2), (2, .int a3)] [] σ
  unfold f_X12_changes
  refine r_aload_n hC dX12_changes_0 rfl 0 rfl ?_
  refine r_getR hC clX12 0 12 8 rfl rfl rfl (hC.n rfl) rfl lf_X12_35 dX12_changes_1 ?_
  refine r_iload_n hC dX12_changes_4 rfl 1 rfl ?_
  refine r_gd (fun g1 => ?_)
  refine r_iald hC 8 8 rfl rfl g1 dX12_changes_5 ?_
  refine r_nmI (fun v2 => ?_)
  refine r_istore_n (lv' := [(3, .int v2), (0, .ref (wA w 0)), (1, .int a2), (2, .int a3)]) hC dX12_changes_6 rfl (by decide) rfl ?_
  refine r_aload_n hC dX12_changes_7 rfl 1 rfl ?_
  refine r_getR hC clX12 0 12 8 rfl rfl rfl (hC.n rfl) rfl lf_X12_35 dX12_changes_8 ?_
  refine r_iload_n hC dX12_changes_11 rfl 2 rfl ?_
  refine r_aload_n hC dX12_changes_12 rfl 1 rfl ?_
  refine r_getR hC clX12 0 12 8 rfl rfl rfl (hC.n rfl) rfl lf_X12_35 dX12_changes_13 ?_
  refine r_iload_n hC dX12_changes_16 rfl 3 rfl ?_
  refine r_gd (fun g3 => ?_)
  refine r_iald hC 8 8 rfl rfl g3 dX12_changes_17 ?_
  refine r_nmI (fun v4 => ?_)
  refine r_gd (fun g5 => ?_)
  refine r_iast hC 8 8 rfl rfl g5 dX12_changes_18 ?_
  refine r_nmS (fun σ6 => ?_)
  refine r_aload_n hC dX12_changes_19 rfl 1 rfl ?_
  refine r_getR hC clX12 0 12 8 rfl rfl rfl (hC.n rfl) rfl lf_X12_35 dX12_changes_20 ?_
  refine r_iload_n hC dX12_changes_23 rfl 3 rfl ?_
  refine r_iload_n hC dX12_changes_24 rfl 0 rfl ?_
  refine r_gd (fun g7 => ?_)
  refine r_iast hC 8 8 rfl rfl g7 dX12_changes_25 ?_
  refine r_nmS (fun σ8 => ?_)
  exact r_vret hC hret dX12_changes_26
set_option maxHeartbeats 4000000 in
set_option maxRecDepth 100000 in
theorem c_X12_moreOf {l : Launch} {w : Wd} (hW : HWd w shM rM 29) (σ : St) (a2 : Int32) (a3 : Int32) (a4 : Int32) (a5 : Int64)  : ∀ res, f_X12_moreOf σ a2 a3 a4 a5 = some res → MtL l yX12_moreOf cX12_moreOf 6 .long 73 2776 w [.ref (wA w 0), .int a2, .int a3, .int a4, .long a5] σ res := by
  refine mt_L (by decide) rfl hW (fun X hl0 hC hret => ?_)
  show RF X w (Aw w (xs_ X).heap.size) 6 (QL X w) (f_X12_moreOf σ a2 a3 a4 a5) 0 [(0, .ref (wA w 0)), (1, .int a2), (2, .int a3), (3, .int a4), (4, .long a5)] [] σ
  unfold f_X12_moreOf
  refine r_aload_n hC dX12_moreOf_0 rfl 0 rfl ?_
  refine r_iload_n hC dX12_moreOf_1 rfl 2 rfl ?_
  refine r_iload_n hC dX12_moreOf_2 rfl 3 rfl ?_
  refine r_callVV hC (b := 0) (ci := 12) (st := []) [.int a3, .int a4] rfl (hC.n rfl) rfl rfl (c_X12_changes hC.w σ a3 a4) yk_X12_changes lm_X12_379 rfl ⟨rfl, rfl⟩ rfl dX12_moreOf_3 (fun σ1 => ?_)
  refine r_aload_n hC dX12_moreOf_6 rfl 0 rfl ?_
  refine r_iload_n hC dX12_moreOf_7 rfl 1 rfl ?_
  refine r_callVV hC (b := 0) (ci := 12) (st := []) [.int a2] rfl (hC.n rfl) rfl rfl (c_X12_goes hC.w σ1 a2) yk_X12_goes lm_X12_376 rfl ⟨rfl, rfl⟩ rfl dX12_moreOf_8 (fun σ2 => ?_)
  refine r_aload_n hC dX12_moreOf_11 rfl 0 rfl ?_
  refine r_iload_n hC dX12_moreOf_12 rfl 2 rfl ?_
  refine r_iload_n hC dX12_moreOf_13 rfl 3 rfl ?_
  refine r_callVV hC (b := 0) (ci := 12) (st := []) [.int a3, .int a4] rfl (hC.n rfl) rfl rfl (c_X12_changes hC.w σ2 a3 a4) yk_X12_changes lm_X12_379 rfl ⟨rfl, rfl⟩ rfl dX12_moreOf_14 (fun σ3 => ?_)
  refine r_aload_n hC dX12_moreOf_17 rfl 0 rfl ?_
  refine r_getL hC clX12 0 37 rfl rfl (hC.n rfl) rfl lf_X12_336 dX12_moreOf_18 ?_
  refine r_nmL (fun v4 => ?_)
  refine r_lload hC dX12_moreOf_21 4 rfl ?_
  refine r_lsub hC dX12_moreOf_23 ?_
  exact r_lret hC hret dX12_moreOf_24
set_option maxHeartbeats 4000000 in
set_option maxRecDepth 100000 in
theorem c_X12_more {l : Launch} {w : Wd} (hW : HWd w shM rM 29) (σ : St) (a2 : Int32) (a3 : Int32)  : ∀ res, f_X12_more σ a2 a3 = some res → MtL l yX12_more cX12_more 3 .long 74 2801 w [.ref (wA w 0), .int a2, .int a3] σ res := by
  refine mt_L (by decide) rfl hW (fun X hl0 hC hret => ?_)
  show RF X w (Aw w (xs_ X).heap.size) 3 (QL X w) (f_X12_more σ a2 a3) 0 [(0, .ref (wA w 0)), (1, .int a2), (2, .int a3)] [] σ
  unfold f_X12_more
  refine r_aload_n hC dX12_more_0 rfl 0 rfl ?_
  refine r_iload_n hC dX12_more_1 rfl 1 rfl ?_
  refine r_callVP hC (b := 0) (ci := 12) (st := []) [.int a2] rfl (hC.n rfl) rfl rfl (c_X12_isPlan hC.w σ a2) yk_X12_isPlan lm_X12_330 rfl ⟨rfl, rfl⟩ rfl dX12_more_2 (fun v1 => ?_)
  refine r_if_eq hC 43 dX12_more_5 (by decide) (fun c2 => ?_) (fun c2 => ?_)
  · refine r_ldc2 (v := (-4611686018427387904)) hC lc_X12_374 dX12_more_43 ?_
    exact r_lret hC hret dX12_more_46
  · refine r_iload_n hC dX12_more_8 rfl 2 rfl ?_
    refine r_if_lt hC 43 dX12_more_9 (by decide) (fun c3 => ?_) (fun c3 => ?_)
    · refine r_ldc2 (v := (-4611686018427387904)) hC lc_X12_374 dX12_more_43 ?_
      exact r_lret hC hret dX12_more_46
    · refine r_iload_n hC dX12_more_12 rfl 2 rfl ?_
      refine r_bipush (v := 10) hC dX12_more_13 (by decide) ?_
      refine r_idiv hC dX12_more_15 (by decide) ?_
      refine r_callSP hC (st := []) [.int (a3 / 10)] (c_X12_isSeat hC.w σ (a3 / 10)) yk_X12_isSeat lm_X12_147 rfl ⟨rfl, rfl⟩ rfl dX12_more_16 (fun v4 => ?_)
      refine r_if_eq hC 43 dX12_more_19 (by decide) (fun c5 => ?_) (fun c5 => ?_)
      · refine r_ldc2 (v := (-4611686018427387904)) hC lc_X12_374 dX12_more_43 ?_
        exact r_lret hC hret dX12_more_46
      · refine r_iload_n hC dX12_more_22 rfl 2 rfl ?_
        refine r_bipush (v := 10) hC dX12_more_23 (by decide) ?_
        refine r_irem hC dX12_more_25 (by decide) ?_
        refine r_callSP hC (st := []) [.int (a3 - a3 / 10 * 10)] (c_X12_isSeat hC.w σ (a3 - a3 / 10 * 10)) yk_X12_isSeat lm_X12_147 rfl ⟨rfl, rfl⟩ rfl dX12_more_26 (fun v6 => ?_)
        refine r_if_eq hC 43 dX12_more_29 (by decide) (fun c7 => ?_) (fun c7 => ?_)
        · refine r_ldc2 (v := (-4611686018427387904)) hC lc_X12_374 dX12_more_43 ?_
          exact r_lret hC hret dX12_more_46
        · refine r_iload_n hC dX12_more_32 rfl 2 rfl ?_
          refine r_bipush (v := 10) hC dX12_more_33 (by decide) ?_
          refine r_idiv hC dX12_more_35 (by decide) ?_
          refine r_iload_n hC dX12_more_36 rfl 2 rfl ?_
          refine r_bipush (v := 10) hC dX12_more_37 (by decide) ?_
          refine r_irem hC dX12_more_39 (by decide) ?_
          refine r_icmp_ne hC 47 dX12_more_40 (by decide) (fun c8 => ?_) (fun c8 => ?_)
          · refine r_aload_n hC dX12_more_47 rfl 0 rfl ?_
            refine r_iload_n hC dX12_more_48 rfl 1 rfl ?_
            refine r_callVV hC (b := 0) (ci := 12) (st := []) [.int a2] rfl (hC.n rfl) rfl rfl (c_X12_goes hC.w σ a2) yk_X12_goes lm_X12_376 rfl ⟨rfl, rfl⟩ rfl dX12_more_49 (fun σ9 => ?_)
            refine r_aload_n hC dX12_more_52 rfl 0 rfl ?_
            refine r_iload_n hC dX12_more_53 rfl 1 rfl ?_
            refine r_iload_n hC dX12_more_54 rfl 2 rfl ?_
            refine r_bipush (v := 10) hC dX12_more_55 (by decide) ?_
            refine r_idiv hC dX12_more_57 (by decide) ?_
            refine r_iload_n hC dX12_more_58 rfl 2 rfl ?_
            refine r_bipush (v := 10) hC dX12_more_59 (by decide) ?_
            refine r_irem hC dX12_more_61 (by decide) ?_
            refine r_aload_n hC dX12_more_62 rfl 0 rfl ?_
            refine r_getL hC clX12 0 37 rfl rfl (hC.n rfl) rfl lf_X12_336 dX12_more_63 ?_
            refine r_nmL (fun v10 => ?_)
            refine r_callVL hC (b := 0) (ci := 12) (st := []) [.int a2, .int (a3 / 10), .int (a3 - a3 / 10 * 10), .long v10] rfl (hC.n rfl) rfl rfl (c_X12_moreOf hC.w σ9 a2 (a3 / 10) (a3 - a3 / 10 * 10) v10) yk_X12_moreOf lm_X12_383 rfl ⟨rfl, rfl⟩ rfl dX12_more_66 (fun v11 σ12 => ?_)
            exact r_lret hC hret dX12_more_69
          · refine r_ldc2 (v := (-4611686018427387904)) hC lc_X12_374 dX12_more_43 ?_
            exact r_lret hC hret dX12_more_46
set_option maxHeartbeats 4000000 in
set_option maxRecDepth 100000 in
theorem w_X12_change_l54 {X : Mc} {w : Wd} (hC : Cok X w (Aw w (xs_ X).heap.size) yX12_change.cls cX12_change 12 74 2801 shM rM 29) (hret : (xmeth X).sig.returnType = some .long) (a2 : Int32) (v6 : Int64) (x9 : Int32) (a3 : Int32) (σ10 : St)   (K24 : Int32 → Int64 → St → Option (Int64 × St)) (hK24 : ∀ (x21 : Int32) (x22 : Int64) (σ23 : St), RF X w (Aw w (xs_ X).heap.size) 12 (QL X w) (K24 x21 x22 σ23) 110 [(0, .ref (wA w 0)), (1, .int a2), (2, .int a3), (3, .long v6), (5, .int x21), (6, .long x22), (8, .int x9)] [] σ23) : ∀ (n : Nat) (x17 : Int32) (x18 : Int64) (x19 : Int32) (σ20 : St), RF X w (Aw w (xs_ X).heap.size) 12 (QL X w) (f_X12_change_l54 a2 v6 x9 K24 n x17 x18 x19 σ20) 54 [(0, .ref (wA w 0)), (1, .int a2), (2, .int a3), (3, .long v6), (5, .int x17), (6, .long x18), (8, .int x9), (9, .int x19)] [] σ20 := by
  intro n
  induction n with
  | zero => intro x17 x18 x19 σ20; rw [f_X12_change_l54]; exact r_none
  | succ n ih =>
    intro x17 x18 x19 σ20
    rw [f_X12_change_l54]
    refine r_iload hC dX12_change_54 7 rfl ?_
    refine r_bipush (v := 8) hC dX12_change_56 (by decide) ?_
    refine r_icmp_ge hC 110 dX12_change_58 (by decide) (fun c25 => ?_) (fun c25 => ?_)
    · exact r_lv [0, 1, 2, 3, 4, 5, 6] rfl (hK24 x17 x18 σ20)
    · refine r_aload_n hC dX12_change_61 rfl 0 rfl ?_
      refine r_iload_n hC dX12_change_62 rfl 1 rfl ?_
      refine r_iload hC dX12_change_63 6 rfl ?_
      refine r_iload hC dX12_change_65 7 rfl ?_
      refine r_lload_n hC dX12_change_67 rfl 3 rfl ?_
      refine r_callVL hC (b := 0) (ci := 12) (st := []) [.int a2, .int x9, .int x19, .long v6] rfl (hC.n rfl) rfl rfl (c_X12_moreOf hC.w σ20 a2 x9 x19 v6) yk_X12_moreOf lm_X12_383 rfl ⟨rfl, rfl⟩ rfl dX12_change_68 (fun v26 σ27 => ?_)
      refine r_lstore (lv' := [(10, .long v26), (0, .ref (wA w 0)), (1, .int a2), (2, .int a3), (3, .long v6), (5, .int x17), (6, .long x18), (8, .int x9), (9, .int x19)]) hC dX12_change_71 (by decide) rfl ?_
      refine r_iload hC dX12_change_73 5 rfl ?_
      refine r_iconst (v := (-1)) hC dX12_change_75 (by decide) ?_
      refine r_jn (T := fun (j30 : Int32 → Int64 → Option (Int64 × St)) => ∀ (x28 : Int32) (x29 : Int64), RF X w (Aw w (xs_ X).heap.size) 12 (QL X w) (j30 x28 x29) 104 [(0, .ref (wA w 0)), (1, .int a2), (2, .int a3), (3, .long v6), (5, .int x28), (6, .long x29), (8, .int x9), (9, .int x19)] [] σ27) ?_ (fun j30 hj30 => ?_)
      · intro x28 x29
        refine r_iinc (v := x19 + 1) (lv' := [(9, .int (x19 + 1)), (0, .ref (wA w 0)), (1, .int a2), (2, .int a3), (3, .long v6), (5, .int x28), (6, .long x29), (8, .int x9)]) hC dX12_change_104 7 rfl rfl (by decide) rfl ?_
        refine r_goto hC 54 dX12_change_107 (by decide) ?_
        exact r_lv [1, 2, 3, 4, 5, 6, 7, 0] rfl (ih x28 x29 (x19 + 1) σ27)
      · refine r_jn (T := fun (j31 : Option (Int64 × St)) => RF X w (Aw w (xs_ X).heap.size) 12 (QL X w) j31 90 [(0, .ref (wA w 0)), (1, .int a2), (2, .int a3), (3, .long v6), (8, .int x9), (9, .int x19), (10, .long v26)] [] σ27) ?_ (fun j31 hj31 => ?_)
        · refine r_bipush (v := 10) hC dX12_change_90 (by decide) ?_
          refine r_iload hC dX12_change_92 4 rfl ?_
          refine r_imul hC dX12_change_94 ?_
          refine r_iload hC dX12_change_95 5 rfl ?_
          refine r_iadd hC dX12_change_97 ?_
          refine r_nmI (fun v32 => ?_)
          refine r_istore (lv' := [(5, .int v32), (0, .ref (wA w 0)), (1, .int a2), (2, .int a3), (3, .long v6), (8, .int x9), (9, .int x19), (10, .long v26)]) hC dX12_change_98 (by decide) rfl ?_
          refine r_lload hC dX12_change_100 7 rfl ?_
          refine r_lstore (lv' := [(6, .long v26), (5, .int v32), (0, .ref (wA w 0)), (1, .int a2), (2, .int a3), (3, .long v6), (8, .int x9), (9, .int x19), (10, .long v26)]) hC dX12_change_102 (by decide) rfl ?_
          exact r_lv [2, 3, 4, 5, 1, 0, 6, 7] rfl (hj30 v32 v26)
        · refine r_icmp_eq hC 90 dX12_change_76 (by decide) (fun c33 => ?_) (fun c33 => ?_)
          · exact r_lv [1, 2, 3, 4, 7, 8, 0] rfl hj31
          · refine r_lload hC dX12_change_79 0 rfl ?_
            refine r_lload hC dX12_change_81 6 rfl ?_
            refine r_lcmp_gt hC 90 dX12_change_83 dX12_change_84 (by decide) (fun c34 => ?_) (fun c34 => ?_)
            · exact r_lv [1, 2, 3, 4, 7, 8, 0] rfl hj31
            · refine r_goto hC 104 dX12_change_87 (by decide) ?_
              exact r_lv [1, 2, 3, 4, 5, 6, 7, 8] rfl (hj30 x17 x18)
set_option maxHeartbeats 4000000 in
set_option maxRecDepth 100000 in
theorem w_X12_change_l41 {X : Mc} {w : Wd} (hC : Cok X w (Aw w (xs_ X).heap.size) yX12_change.cls cX12_change 12 74 2801 shM rM 29) (hret : (xmeth X).sig.returnType = some .long) (a2 : Int32) (v6 : Int64) (a3 : Int32) (σ5 : St)   (K14 : Int32 → Int64 → St → Option (Int64 × St)) (hK14 : ∀ (x11 : Int32) (x12 : Int64) (σ13 : St), RF X w (Aw w (xs_ X).heap.size) 12 (QL X w) (K14 x11 x12 σ13) 116 [(2, .int a3), (5, .int x11), (6, .long x12)] [] σ13) : ∀ (n : Nat) (x7 : Int32) (x8 : Int64) (x9 : Int32) (σ10 : St), RF X w (Aw w (xs_ X).heap.size) 12 (QL X w) (f_X12_change_l41 a2 v6 K14 n x7 x8 x9 σ10) 41 [(0, .ref (wA w 0)), (1, .int a2), (2, .int a3), (3, .long v6), (5, .int x7), (6, .long x8), (8, .int x9)] [] σ10 := by
  intro n
  induction n with
  | zero => intro x7 x8 x9 σ10; rw [f_X12_change_l41]; exact r_none
  | succ n ih =>
    intro x7 x8 x9 σ10
    rw [f_X12_change_l41]
    refine r_iload hC dX12_change_41 6 rfl ?_
    refine r_bipush (v := 8) hC dX12_change_43 (by decide) ?_
    refine r_icmp_ge hC 116 dX12_change_45 (by decide) (fun c15 => ?_) (fun c15 => ?_)
    · exact r_lv [2, 4, 5] rfl (hK14 x7 x8 σ10)
    · refine r_iload hC dX12_change_48 6 rfl ?_
      refine r_iconst (v := 1) hC dX12_change_50 (by decide) ?_
      refine r_iadd hC dX12_change_51 ?_
      refine r_nmI (fun v16 => ?_)
      refine r_istore (lv' := [(9, .int v16), (0, .ref (wA w 0)), (1, .int a2), (2, .int a3), (3, .long v6), (5, .int x7), (6, .long x8), (8, .int x9)]) hC dX12_change_52 (by decide) rfl ?_
      refine r_lv [1, 2, 3, 4, 5, 6, 7, 0] rfl ?_
      refine w_X12_change_l54 hC hret a2 v6 x9 a3 σ10 _ ?_ FU x7 x8 v16 σ10
      · intro x21 x22 σ23
        refine r_iinc (v := x9 + 1) (lv' := [(8, .int (x9 + 1)), (0, .ref (wA w 0)), (1, .int a2), (2, .int a3), (3, .long v6), (5, .int x21), (6, .long x22)]) hC dX12_change_110 6 rfl rfl (by decide) rfl ?_
        refine r_goto hC 41 dX12_change_113 (by decide) ?_
        exact r_lv [1, 2, 3, 4, 5, 6, 0] rfl (ih x21 x22 (x9 + 1) σ23)
set_option maxHeartbeats 4000000 in
set_option maxRecDepth 100000 in
theorem c_X12_change {l : Launch} {w : Wd} (hW : HWd w shM rM 29) (σ : St) (a2 : Int32) (a3 : Int32)  : ∀ res, f_X12_change σ a2 a3 = some res → MtL l yX12_change cX12_change 12 .long 74 2801 w [.ref (wA w 0), .int a2, .int a3] σ res := by
  refine mt_L (by decide) rfl hW (fun X hl0 hC hret => ?_)
  show RF X w (Aw w (xs_ X).heap.size) 12 (QL X w) (f_X12_change σ a2 a3) 0 [(0, .ref (wA w 0)), (1, .int a2), (2, .int a3)] [] σ
  unfold f_X12_change
  refine r_aload_n hC dX12_change_0 rfl 0 rfl ?_
  refine r_iload_n hC dX12_change_1 rfl 1 rfl ?_
  refine r_callVP hC (b := 0) (ci := 12) (st := []) [.int a2] rfl (hC.n rfl) rfl rfl (c_X12_isPlan hC.w σ a2) yk_X12_isPlan lm_X12_330 rfl ⟨rfl, rfl⟩ rfl dX12_change_2 (fun v1 => ?_)
  refine r_if_eq hC 18 dX12_change_5 (by decide) (fun c2 => ?_) (fun c2 => ?_)
  · refine r_ldc2 (v := (-4611686018427387904)) hC lc_X12_374 dX12_change_18 ?_
    exact r_lret hC hret dX12_change_21
  · refine r_iload_n hC dX12_change_8 rfl 2 rfl ?_
    refine r_i2l hC dX12_change_9 ?_
    refine r_lconst (v := 0) hC dX12_change_10 (by decide) ?_
    refine r_lconst (v := 1) hC dX12_change_11 (by decide) ?_
    refine r_callSP hC (st := []) [.long (Int32.toInt64 a3), .long 0, .long 1] (c_X12_in hC.w σ (Int32.toInt64 a3) 0 1) yk_X12_in lm_X12_125 rfl ⟨rfl, rfl⟩ rfl dX12_change_12 (fun v3 => ?_)
    refine r_if_ne hC 22 dX12_change_15 (by decide) (fun c4 => ?_) (fun c4 => ?_)
    · refine r_aload_n hC dX12_change_22 rfl 0 rfl ?_
      refine r_iload_n hC dX12_change_23 rfl 1 rfl ?_
      refine r_callVV hC (b := 0) (ci := 12) (st := []) [.int a2] rfl (hC.n rfl) rfl rfl (c_X12_goes hC.w σ a2) yk_X12_goes lm_X12_376 rfl ⟨rfl, rfl⟩ rfl dX12_change_24 (fun σ5 => ?_)
      refine r_aload_n hC dX12_change_27 rfl 0 rfl ?_
      refine r_getL hC clX12 0 37 rfl rfl (hC.n rfl) rfl lf_X12_336 dX12_change_28 ?_
      refine r_nmL (fun v6 => ?_)
      refine r_lstore_n (lv' := [(3, .long v6), (0, .ref (wA w 0)), (1, .int a2), (2, .int a3)]) hC dX12_change_31 rfl (by decide) rfl ?_
      refine r_iconst (v := (-1)) hC dX12_change_32 (by decide) ?_
      refine r_istore (lv' := [(5, .int (-1)), (3, .long v6), (0, .ref (wA w 0)), (1, .int a2), (2, .int a3)]) hC dX12_change_33 (by decide) rfl ?_
      refine r_lconst (v := 0) hC dX12_change_35 (by decide) ?_
      refine r_lstore (lv' := [(6, .long 0), (5, .int (-1)), (3, .long v6), (0, .ref (wA w 0)), (1, .int a2), (2, .int a3)]) hC dX12_change_36 (by decide) rfl ?_
      refine r_iconst (v := 0) hC dX12_change_38 (by decide) ?_
      refine r_istore (lv' := [(8, .int 0), (6, .long 0), (5, .int (-1)), (3, .long v6), (0, .ref (wA w 0)), (1, .int a2), (2, .int a3)]) hC dX12_change_39 (by decide) rfl ?_
      refine r_lv [4, 5, 6, 3, 2, 1, 0] rfl ?_
      refine w_X12_change_l41 hC hret a2 v6 a3 σ5 _ ?_ FU (-1) 0 0 σ5
      · intro x11 x12 σ13
        refine r_iload_n hC dX12_change_116 rfl 0 rfl ?_
        refine r_if_ne hC 126 dX12_change_117 (by decide) (fun c35 => ?_) (fun c35 => ?_)
        · refine r_lload hC dX12_change_126 2 rfl ?_
          exact r_lret hC hret dX12_change_128
        · refine r_iload hC dX12_change_120 1 rfl ?_
          refine r_i2l hC dX12_change_122 ?_
          refine r_goto hC 128 dX12_change_123 (by decide) ?_
          exact r_lret hC hret dX12_change_128
    · refine r_ldc2 (v := (-4611686018427387904)) hC lc_X12_374 dX12_change_18 ?_
      exact r_lret hC hret dX12_change_21
set_option maxHeartbeats 4000000 in
set_option maxRecDepth 100000 in
theorem w_X12_bitsOf_l4 {X : Mc} {w : Wd} (hC : Cok X w (Aw w (xs_ X).heap.size) yX12_bitsOf.cls cX12_bitsOf 3 0 0 shM rM 29) (hret : (xmeth X).sig.returnType = some .int) (σ : St)     : ∀ (n : Nat) (x1 : Int32) (x2 : Int32), RF X w (Aw w (xs_ X).heap.size) 3 (fun r => QI X w (r, σ)) (f_X12_bitsOf_l4 n x1 x2) 4 [(1, .int x1), (2, .int x2)] [] σ := by
  intro n
  induction n with
  | zero => intro x1 x2; rw [f_X12_bitsOf_l4]; exact r_none
  | succ n ih =>
    intro x1 x2
    rw [f_X12_bitsOf_l4]
    refine r_iload_n hC dX12_bitsOf_4 rfl 1 rfl ?_
    refine r_if_eq hC 20 dX12_bitsOf_5 (by decide) (fun c3 => ?_) (fun c3 => ?_)
    · refine r_iload_n hC dX12_bitsOf_20 rfl 0 rfl ?_
      exact r_iretP hC hret rfl dX12_bitsOf_21
    · refine r_iinc (v := x1 + 1) (lv' := [(1, .int (x1 + 1)), (2, .int x2)]) hC dX12_bitsOf_8 0 rfl rfl (by decide) rfl ?_
      refine r_iload_n hC dX12_bitsOf_11 rfl 1 rfl ?_
      refine r_iload_n hC dX12_bitsOf_12 rfl 1 rfl ?_
      refine r_iconst (v := 1) hC dX12_bitsOf_13 (by decide) ?_
      refine r_isub hC dX12_bitsOf_14 ?_
      refine r_iand hC dX12_bitsOf_15 ?_
      refine r_nmI (fun v4 => ?_)
      refine r_istore_n (lv' := [(2, .int v4), (1, .int (x1 + 1))]) hC dX12_bitsOf_16 rfl (by decide) rfl ?_
      refine r_goto hC 4 dX12_bitsOf_17 (by decide) ?_
      exact r_lv [1, 0] rfl (ih (x1 + 1) v4)
set_option maxHeartbeats 4000000 in
set_option maxRecDepth 100000 in
theorem c_X12_bitsOf {l : Launch} {w : Wd} (hW : HWd w shM rM 29) (σ : St) (a1 : Int32)  : ∀ res, f_X12_bitsOf a1 = some res → MtI l yX12_bitsOf cX12_bitsOf 3 .int 0 0 w [.int a1] σ (res, σ) := by
  refine mt_P (by decide) rfl hW (fun X hl0 hC hret => ?_)
  show RF X w (Aw w (xs_ X).heap.size) 3 (fun r => QI X w (r, σ)) (f_X12_bitsOf a1) 0 [(0, .int a1)] [] σ
  unfold f_X12_bitsOf
  refine r_iconst (v := 0) hC dX12_bitsOf_0 (by decide) ?_
  refine r_istore_n (lv' := [(1, .int 0), (0, .int a1)]) hC dX12_bitsOf_1 rfl (by decide) rfl ?_
  refine r_iload_n hC dX12_bitsOf_2 rfl 1 rfl ?_
  refine r_istore_n (lv' := [(2, .int a1), (1, .int 0), (0, .int a1)]) hC dX12_bitsOf_3 rfl (by decide) rfl ?_
  refine r_lv [1, 0] rfl ?_
  exact w_X12_bitsOf_l4 hC hret σ FU 0 a1
set_option maxHeartbeats 4000000 in
set_option maxRecDepth 100000 in
theorem w_X12_wagsBy_l5 {X : Mc} {w : Wd} (hC : Cok X w (Aw w (xs_ X).heap.size) yX12_wagsBy.cls cX12_wagsBy 5 0 0 shM rM 29) (hret : (xmeth X).sig.returnType = some .long) (σ : St) (a2 : Int32)   (K4 : Int64 → Option Int64) (hK4 : ∀ (x3 : Int64), RF X w (Aw w (xs_ X).heap.size) 5 (fun r => QL X w (r, σ)) (K4 x3) 51 [(2, .long x3)] [] σ) : ∀ (n : Nat) (x1 : Int64) (x2 : Int32), RF X w (Aw w (xs_ X).heap.size) 5 (fun r => QL X w (r, σ)) (f_X12_wagsBy_l5 σ a2 K4 n x1 x2) 5 [(0, .ref (wA w 0)), (1, .int a2), (2, .long x1), (4, .int x2)] [] σ := by
  intro n
  induction n with
  | zero => intro x1 x2; rw [f_X12_wagsBy_l5]; exact r_none
  | succ n ih =>
    intro x1 x2
    rw [f_X12_wagsBy_l5]
    refine r_iload hC dX12_wagsBy_5 3 rfl ?_
    refine r_bipush (v := 8) hC dX12_wagsBy_7 (by decide) ?_
    refine r_icmp_ge hC 51 dX12_wagsBy_9 (by decide) (fun c5 => ?_) (fun c5 => ?_)
    · exact r_lv [2] rfl (hK4 x1)
    · refine r_lload_n hC dX12_wagsBy_12 rfl 2 rfl ?_
      refine r_iload_n hC dX12_wagsBy_13 rfl 1 rfl ?_
      refine r_iload hC dX12_wagsBy_14 3 rfl ?_
      refine r_ishr hC dX12_wagsBy_16 ?_
      refine r_iconst (v := 1) hC dX12_wagsBy_17 (by decide) ?_
      refine r_iand hC dX12_wagsBy_18 ?_
      refine r_jn (T := fun (j7 : Int64 → Option Int64) => ∀ (t6 : Int64), RF X w (Aw w (xs_ X).heap.size) 5 (fun r => QL X w (r, σ)) (j7 t6) 29 [(0, .ref (wA w 0)), (1, .int a2), (4, .int x2)] [.long t6, .long x1] σ) ?_ (fun j7 hj7 => ?_)
      · intro t6
        refine r_aload_n hC dX12_wagsBy_29 rfl 0 rfl ?_
        refine r_getR hC clX12 0 35 14 rfl rfl rfl (hC.n rfl) rfl lf_X12_53 dX12_wagsBy_30 ?_
        refine r_iload hC dX12_wagsBy_33 2 rfl ?_
        refine r_gd (fun g8 => ?_)
        refine r_lald hC 14 8 rfl rfl g8 dX12_wagsBy_35 ?_
        refine r_nmL (fun v9 => ?_)
        refine r_lmul hC dX12_wagsBy_36 ?_
        refine r_iload hC dX12_wagsBy_37 2 rfl ?_
        refine r_iconst (v := 1) hC dX12_wagsBy_39 (by decide) ?_
        refine r_iadd hC dX12_wagsBy_40 ?_
        refine r_i2l hC dX12_wagsBy_41 ?_
        refine r_lmul hC dX12_wagsBy_42 ?_
        refine r_ladd hC dX12_wagsBy_43 ?_
        refine r_nmL (fun v10 => ?_)
        refine r_lstore_n (lv' := [(2, .long v10), (0, .ref (wA w 0)), (1, .int a2), (4, .int x2)]) hC dX12_wagsBy_44 rfl (by decide) rfl ?_
        refine r_iinc (v := x2 + 1) (lv' := [(4, .int (x2 + 1)), (2, .long v10), (0, .ref (wA w 0)), (1, .int a2)]) hC dX12_wagsBy_45 3 rfl rfl (by decide) rfl ?_
        refine r_goto hC 5 dX12_wagsBy_48 (by decide) ?_
        exact r_lv [2, 3, 1, 0] rfl (ih v10 (x2 + 1))
      · refine r_if_ne hC 26 dX12_wagsBy_19 (by decide) (fun c11 => ?_) (fun c11 => ?_)
        · refine r_ldc2 (v := (-1)) hC lc_X12_209 dX12_wagsBy_26 ?_
          exact r_lv [0, 1, 3] rfl (hj7 (-1))
        · refine r_lconst (v := 1) hC dX12_wagsBy_22 (by decide) ?_
          refine r_goto hC 29 dX12_wagsBy_23 (by decide) ?_
          exact r_lv [0, 1, 3] rfl (hj7 1)
set_option maxHeartbeats 4000000 in
set_option maxRecDepth 100000 in
theorem c_X12_wagsBy {l : Launch} {w : Wd} (hW : HWd w shM rM 29) (σ : St) (a2 : Int32)  : ∀ res, f_X12_wagsBy σ a2 = some res → MtL l yX12_wagsBy cX12_wagsBy 5 .long 0 0 w [.ref (wA w 0), .int a2] σ (res, σ) := by
  refine mt_PL (by decide) rfl hW (fun X hl0 hC hret => ?_)
  show RF X w (Aw w (xs_ X).heap.size) 5 (fun r => QL X w (r, σ)) (f_X12_wagsBy σ a2) 0 [(0, .ref (wA w 0)), (1, .int a2)] [] σ
  unfold f_X12_wagsBy
  refine r_lconst (v := 0) hC dX12_wagsBy_0 (by decide) ?_
  refine r_lstore_n (lv' := [(2, .long 0), (0, .ref (wA w 0)), (1, .int a2)]) hC dX12_wagsBy_1 rfl (by decide) rfl ?_
  refine r_iconst (v := 0) hC dX12_wagsBy_2 (by decide) ?_
  refine r_istore (lv' := [(4, .int 0), (2, .long 0), (0, .ref (wA w 0)), (1, .int a2)]) hC dX12_wagsBy_3 (by decide) rfl ?_
  refine r_lv [2, 3, 1, 0] rfl ?_
  refine w_X12_wagsBy_l5 hC hret σ a2 _ ?_ FU 0 0
  · intro x3
    refine r_lload_n hC dX12_wagsBy_51 rfl 0 rfl ?_
    refine r_lconst (v := 0) hC dX12_wagsBy_52 (by decide) ?_
    refine r_lcmp_ge hC 62 dX12_wagsBy_53 dX12_wagsBy_54 (by decide) (fun c12 => ?_) (fun c12 => ?_)
    · refine r_lload_n hC dX12_wagsBy_62 rfl 0 rfl ?_
      exact r_lretP hC hret dX12_wagsBy_63
    · refine r_lload_n hC dX12_wagsBy_57 rfl 0 rfl ?_
      refine r_lneg hC dX12_wagsBy_58 ?_
      refine r_goto hC 63 dX12_wagsBy_59 (by decide) ?_
      exact r_lretP hC hret dX12_wagsBy_63
set_option maxHeartbeats 4000000 in
set_option maxRecDepth 100000 in
theorem w_X12_order_l29 {X : Mc} {w : Wd} (hC : Cok X w (Aw w (xs_ X).heap.size) yX12_order.cls cX12_order 5 72 2754 shM rM 29) (hret : (xmeth X).sig.returnType = some .long) (σ4 : St) (a2 : Int32)   (K8 : Int32 → Option (Int64 × St)) (hK8 : ∀ (x7 : Int32), RF X w (Aw w (xs_ X).heap.size) 5 (QL X w) (K8 x7) 52 [(0, .ref (wA w 0)), (1, .int a2), (2, .int x7)] [] σ4) : ∀ (n : Nat) (x5 : Int32) (x6 : Int32), RF X w (Aw w (xs_ X).heap.size) 5 (QL X w) (f_X12_order_l29 σ4 K8 n x5 x6) 29 [(0, .ref (wA w 0)), (1, .int a2), (2, .int x5), (3, .int x6)] [] σ4 := by
  intro n
  induction n with
  | zero => intro x5 x6; rw [f_X12_order_l29]; exact r_none
  | succ n ih =>
    intro x5 x6
    rw [f_X12_order_l29]
    refine r_iload_n hC dX12_order_29 rfl 3 rfl ?_
    refine r_bipush (v := 8) hC dX12_order_30 (by decide) ?_
    refine r_icmp_ge hC 52 dX12_order_32 (by decide) (fun c9 => ?_) (fun c9 => ?_)
    · exact r_lv [0, 1, 2] rfl (hK8 x5)
    · refine r_iload_n hC dX12_order_35 rfl 2 rfl ?_
      refine r_aload_n hC dX12_order_36 rfl 0 rfl ?_
      refine r_getR hC clX12 0 13 9 rfl rfl rfl (hC.n rfl) rfl lf_X12_38 dX12_order_37 ?_
      refine r_iload_n hC dX12_order_40 rfl 3 rfl ?_
      refine r_gd (fun g10 => ?_)
      refine r_iald hC 9 8 rfl rfl g10 dX12_order_41 ?_
      refine r_nmI (fun v11 => ?_)
      refine r_iload_n hC dX12_order_42 rfl 3 rfl ?_
      refine r_ishl hC dX12_order_43 ?_
      refine r_ior hC dX12_order_44 ?_
      refine r_nmI (fun v12 => ?_)
      refine r_istore_n (lv' := [(2, .int v12), (0, .ref (wA w 0)), (1, .int a2), (3, .int x6)]) hC dX12_order_45 rfl (by decide) rfl ?_
      refine r_iinc (v := x6 + 1) (lv' := [(3, .int (x6 + 1)), (2, .int v12), (0, .ref (wA w 0)), (1, .int a2)]) hC dX12_order_46 3 rfl rfl (by decide) rfl ?_
      refine r_goto hC 29 dX12_order_49 (by decide) ?_
      exact r_lv [2, 3, 1, 0] rfl (ih v12 (x6 + 1))
set_option maxHeartbeats 4000000 in
set_option maxRecDepth 100000 in
theorem w_X12_order_l68 {X : Mc} {w : Wd} (hC : Cok X w (Aw w (xs_ X).heap.size) yX12_order.cls cX12_order 5 72 2754 shM rM 29) (hret : (xmeth X).sig.returnType = some .long) (σ4 : St) (a2 : Int32)   (K17 : Int32 → Option (Int64 × St)) (hK17 : ∀ (x16 : Int32), RF X w (Aw w (xs_ X).heap.size) 5 (QL X w) (K17 x16) 114 [(0, .ref (wA w 0)), (1, .int a2), (3, .int x16)] [] σ4) : ∀ (n : Nat) (x14 : Int32) (x15 : Int32), RF X w (Aw w (xs_ X).heap.size) 5 (QL X w) (f_X12_order_l68 σ4 K17 n x14 x15) 68 [(0, .ref (wA w 0)), (1, .int a2), (3, .int x14), (4, .int x15)] [] σ4 := by
  intro n
  induction n with
  | zero => intro x14 x15; rw [f_X12_order_l68]; exact r_none
  | succ n ih =>
    intro x14 x15
    rw [f_X12_order_l68]
    refine r_iload hC dX12_order_68 3 rfl ?_
    refine r_sipush (v := 256) hC dX12_order_70 (by decide) ?_
    refine r_icmp_ge hC 114 dX12_order_73 (by decide) (fun c18 => ?_) (fun c18 => ?_)
    · exact r_lv [0, 1, 2] rfl (hK17 x14)
    · refine r_iload hC dX12_order_76 3 rfl ?_
      refine r_callSP hC (st := []) [.int x15] (c_X12_bitsOf hC.w σ4 x15) yk_X12_bitsOf lm_X12_391 rfl ⟨rfl, rfl⟩ rfl dX12_order_78 (fun v19 => ?_)
      refine r_iconst (v := 4) hC dX12_order_81 (by decide) ?_
      refine r_jn (T := fun (j21 : Int32 → Option (Int64 × St)) => ∀ (x20 : Int32), RF X w (Aw w (xs_ X).heap.size) 5 (QL X w) (j21 x20) 108 [(0, .ref (wA w 0)), (1, .int a2), (3, .int x20), (4, .int x15)] [] σ4) ?_ (fun j21 hj21 => ?_)
      · intro x20
        refine r_iinc (v := x15 + 1) (lv' := [(4, .int (x15 + 1)), (0, .ref (wA w 0)), (1, .int a2), (3, .int x20)]) hC dX12_order_108 3 rfl rfl (by decide) rfl ?_
        refine r_goto hC 68 dX12_order_111 (by decide) ?_
        exact r_lv [1, 2, 3, 0] rfl (ih x20 (x15 + 1))
      · refine r_icmp_ne hC 108 dX12_order_82 (by decide) (fun c22 => ?_) (fun c22 => ?_)
        · exact r_lv [0, 1, 2, 3] rfl (hj21 x14)
        · refine r_iload_n hC dX12_order_85 rfl 2 rfl ?_
          refine r_iconst (v := (-1)) hC dX12_order_86 (by decide) ?_
          refine r_jn (T := fun (j23 : Option (Int64 × St)) => RF X w (Aw w (xs_ X).heap.size) 5 (QL X w) j23 105 [(0, .ref (wA w 0)), (1, .int a2), (4, .int x15)] [] σ4) ?_ (fun j23 hj23 => ?_)
          · refine r_iload hC dX12_order_105 2 rfl ?_
            refine r_istore_n (lv' := [(3, .int x15), (0, .ref (wA w 0)), (1, .int a2), (4, .int x15)]) hC dX12_order_107 rfl (by decide) rfl ?_
            exact r_lv [1, 2, 0, 3] rfl (hj21 x15)
          · refine r_icmp_eq hC 105 dX12_order_87 (by decide) (fun c24 => ?_) (fun c24 => ?_)
            · exact r_lv [0, 1, 3] rfl hj23
            · refine r_aload_n hC dX12_order_90 rfl 0 rfl ?_
              refine r_iload hC dX12_order_91 3 rfl ?_
              refine r_callVQ hC (b := 0) (ci := 12) (st := []) [.int x15] rfl (hC.n rfl) rfl rfl (c_X12_wagsBy hC.w σ4 x15) yk_X12_wagsBy lm_X12_387 rfl ⟨rfl, rfl⟩ rfl dX12_order_93 (fun v25 => ?_)
              refine r_aload_n hC dX12_order_96 rfl 0 rfl ?_
              refine r_iload_n hC dX12_order_97 rfl 2 rfl ?_
              refine r_callVQ hC (b := 0) (ci := 12) (st := [.long v25]) [.int x14] rfl (hC.n rfl) rfl rfl (c_X12_wagsBy hC.w σ4 x14) yk_X12_wagsBy lm_X12_387 rfl ⟨rfl, rfl⟩ rfl dX12_order_98 (fun v26 => ?_)
              refine r_lcmp_ge hC 108 dX12_order_101 dX12_order_102 (by decide) (fun c27 => ?_) (fun c27 => ?_)
              · exact r_lv [0, 1, 2, 3] rfl (hj21 x14)
              · exact r_lv [0, 1, 3] rfl hj23
set_option maxHeartbeats 4000000 in
set_option maxRecDepth 100000 in
theorem c_X12_order {l : Launch} {w : Wd} (hW : HWd w shM rM 29) (σ : St) (a2 : Int32)  : ∀ res, f_X12_order σ a2 = some res → MtL l yX12_order cX12_order 5 .long 72 2754 w [.ref (wA w 0), .int a2] σ res := by
  refine mt_L (by decide) rfl hW (fun X hl0 hC hret => ?_)
  show RF X w (Aw w (xs_ X).heap.size) 5 (QL X w) (f_X12_order σ a2) 0 [(0, .ref (wA w 0)), (1, .int a2)] [] σ
  unfold f_X12_order
  refine r_iload_n hC dX12_order_0 rfl 1 rfl ?_
  refine r_i2l hC dX12_order_1 ?_
  refine r_lconst (v := 0) hC dX12_order_2 (by decide) ?_
  refine r_ldc2 (v := 2) hC lc_X12_161 dX12_order_3 ?_
  refine r_callSP hC (st := []) [.long (Int32.toInt64 a2), .long 0, .long 2] (c_X12_in hC.w σ (Int32.toInt64 a2) 0 2) yk_X12_in lm_X12_125 rfl ⟨rfl, rfl⟩ rfl dX12_order_6 (fun v1 => ?_)
  refine r_if_ne hC 16 dX12_order_9 (by decide) (fun c2 => ?_) (fun c2 => ?_)
  · refine r_aload_n hC dX12_order_16 rfl 0 rfl ?_
    refine r_callVV hC (b := 0) (ci := 12) (st := []) [] rfl (hC.n rfl) rfl rfl (c_X12_begins hC.w σ) yk_X12_begins lm_X12_367 rfl ⟨rfl, rfl⟩ rfl dX12_order_17 (fun σ3 => ?_)
    refine r_aload_n hC dX12_order_20 rfl 0 rfl ?_
    refine r_iconst (v := 0) hC dX12_order_21 (by decide) ?_
    refine r_callVV hC (b := 0) (ci := 12) (st := []) [.int 0] rfl (hC.n rfl) rfl rfl (c_X12_strokes hC.w σ3 0) yk_X12_strokes lm_X12_370 rfl ⟨rfl, rfl⟩ rfl dX12_order_22 (fun σ4 => ?_)
    refine r_iconst (v := 0) hC dX12_order_25 (by decide) ?_
    refine r_istore_n (lv' := [(2, .int 0), (0, .ref (wA w 0)), (1, .int a2)]) hC dX12_order_26 rfl (by decide) rfl ?_
    refine r_iconst (v := 0) hC dX12_order_27 (by decide) ?_
    refine r_istore_n (lv' := [(3, .int 0), (2, .int 0), (0, .ref (wA w 0)), (1, .int a2)]) hC dX12_order_28 rfl (by decide) rfl ?_
    refine r_lv [2, 3, 1, 0] rfl ?_
    refine w_X12_order_l29 hC hret σ4 a2 _ ?_ FU 0 0
    · intro x7
      refine r_iload_n hC dX12_order_52 rfl 1 rfl ?_
      refine r_iconst (v := 2) hC dX12_order_53 (by decide) ?_
      refine r_icmp_ne hC 63 dX12_order_54 (by decide) (fun c13 => ?_) (fun c13 => ?_)
      · refine r_iconst (v := (-1)) hC dX12_order_63 (by decide) ?_
        refine r_istore_n (lv' := [(3, .int (-1)), (0, .ref (wA w 0)), (1, .int a2), (2, .int x7)]) hC dX12_order_64 rfl (by decide) rfl ?_
        refine r_iconst (v := 0) hC dX12_order_65 (by decide) ?_
        refine r_istore (lv' := [(4, .int 0), (3, .int (-1)), (0, .ref (wA w 0)), (1, .int a2), (2, .int x7)]) hC dX12_order_66 (by decide) rfl ?_
        refine r_lv [2, 3, 1, 0] rfl ?_
        refine w_X12_order_l68 hC hret σ4 a2 _ ?_ FU (-1) 0
        · intro x16
          refine r_iload_n hC dX12_order_114 rfl 1 rfl ?_
          refine r_if_ne hC 123 dX12_order_115 (by decide) (fun c28 => ?_) (fun c28 => ?_)
          · refine r_aload_n hC dX12_order_123 rfl 0 rfl ?_
            refine r_iload_n hC dX12_order_124 rfl 2 rfl ?_
            refine r_callVQ hC (b := 0) (ci := 12) (st := []) [.int x16] rfl (hC.n rfl) rfl rfl (c_X12_wagsBy hC.w σ4 x16) yk_X12_wagsBy lm_X12_387 rfl ⟨rfl, rfl⟩ rfl dX12_order_125 (fun v29 => ?_)
            exact r_lret hC hret dX12_order_128
          · refine r_iload_n hC dX12_order_118 rfl 2 rfl ?_
            refine r_i2l hC dX12_order_119 ?_
            refine r_goto hC 128 dX12_order_120 (by decide) ?_
            exact r_lret hC hret dX12_order_128
      · refine r_aload_n hC dX12_order_57 rfl 0 rfl ?_
        refine r_iload_n hC dX12_order_58 rfl 2 rfl ?_
        refine r_callVQ hC (b := 0) (ci := 12) (st := []) [.int x7] rfl (hC.n rfl) rfl rfl (c_X12_wagsBy hC.w σ4 x7) yk_X12_wagsBy lm_X12_387 rfl ⟨rfl, rfl⟩ rfl dX12_order_59 (fun v30 => ?_)
        exact r_lret hC hret dX12_order_62
  · refine r_ldc2 (v := (-4611686018427387904)) hC lc_X12_374 dX12_order_12 ?_
    exact r_lret hC hret dX12_order_15
set_option maxHeartbeats 4000000 in
set_option maxRecDepth 100000 in
theorem w_X12_spurts_l63 {X : Mc} {w : Wd} (hC : Cok X w (Aw w (xs_ X).heap.size) yX12_spurts.cls cX12_spurts 9 72 2754 shM rM 29) (hret : (xmeth X).sig.returnType = some .long) (a2 : Int32) (a3 : Int32) (x9 : Int32) (a4 : Int32) (x7 : Int32) (x8 : Int64) (σ16 : St)   (K20 : St → Option (Int64 × St)) (hK20 : ∀ (σ19 : St), RF X w (Aw w (xs_ X).heap.size) 9 (QL X w) (K20 σ19) 103 [(0, .ref (wA w 0)), (1, .int a2), (2, .int a3), (3, .int a4), (4, .int x7), (5, .long x8), (7, .int x9)] [] σ19) : ∀ (n : Nat) (x17 : Int32) (σ18 : St), RF X w (Aw w (xs_ X).heap.size) 9 (QL X w) (f_X12_spurts_l63 a2 a3 x9 K20 n x17 σ18) 63 [(0, .ref (wA w 0)), (1, .int a2), (2, .int a3), (3, .int a4), (4, .int x7), (5, .long x8), (7, .int x9), (8, .int x17)] [] σ18 := by
  intro n
  induction n with
  | zero => intro x17 σ18; rw [f_X12_spurts_l63]; exact r_none
  | succ n ih =>
    intro x17 σ18
    rw [f_X12_spurts_l63]
    refine r_iload hC dX12_spurts_63 7 rfl ?_
    refine r_iload_n hC dX12_spurts_65 rfl 1 rfl ?_
    refine r_icmp_ge hC 103 dX12_spurts_66 (by decide) (fun c21 => ?_) (fun c21 => ?_)
    · exact r_lv [0, 1, 2, 3, 4, 5, 6] rfl (hK20 σ18)
    · refine r_aload_n hC dX12_spurts_69 rfl 0 rfl ?_
      refine r_iload hC dX12_spurts_70 7 rfl ?_
      refine r_iload_n hC dX12_spurts_72 rfl 2 rfl ?_
      refine r_jn (T := fun (j23 : Int32 → Option (Int64 × St)) => ∀ (t22 : Int32), RF X w (Aw w (xs_ X).heap.size) 9 (QL X w) (j23 t22) 94 [(0, .ref (wA w 0)), (1, .int a2), (2, .int a3), (3, .int a4), (4, .int x7), (5, .long x8), (7, .int x9), (8, .int x17)] [.int t22, .ref (wA w 0)] σ18) ?_ (fun j23 hj23 => ?_)
      · intro t22
        refine r_callVV hC (b := 0) (ci := 12) (st := []) [.int t22] rfl (hC.n rfl) rfl rfl (c_X12_strokes hC.w σ18 t22) yk_X12_strokes lm_X12_370 rfl ⟨rfl, rfl⟩ rfl dX12_spurts_94 (fun σ24 => ?_)
        refine r_iinc (v := x17 + 1) (lv' := [(8, .int (x17 + 1)), (0, .ref (wA w 0)), (1, .int a2), (2, .int a3), (3, .int a4), (4, .int x7), (5, .long x8), (7, .int x9)]) hC dX12_spurts_97 7 rfl rfl (by decide) rfl ?_
        refine r_goto hC 63 dX12_spurts_100 (by decide) ?_
        exact r_lv [1, 2, 3, 4, 5, 6, 7, 0] rfl (ih (x17 + 1) σ24)
      · refine r_icmp_ge hC 80 dX12_spurts_73 (by decide) (fun c25 => ?_) (fun c25 => ?_)
        · refine r_iload hC dX12_spurts_80 7 rfl ?_
          refine r_iload_n hC dX12_spurts_82 rfl 1 rfl ?_
          refine r_iload hC dX12_spurts_83 6 rfl ?_
          refine r_isub hC dX12_spurts_85 ?_
          refine r_icmp_lt hC 93 dX12_spurts_86 (by decide) (fun c26 => ?_) (fun c26 => ?_)
          · refine r_iconst (v := 0) hC dX12_spurts_93 (by decide) ?_
            exact r_lv [0, 1, 2, 3, 4, 5, 6, 7] rfl (hj23 0)
          · refine r_iconst (v := 2) hC dX12_spurts_89 (by decide) ?_
            refine r_goto hC 94 dX12_spurts_90 (by decide) ?_
            exact r_lv [0, 1, 2, 3, 4, 5, 6, 7] rfl (hj23 2)
        · refine r_iconst (v := 1) hC dX12_spurts_76 (by decide) ?_
          refine r_goto hC 94 dX12_spurts_77 (by decide) ?_
          exact r_lv [0, 1, 2, 3, 4, 5, 6, 7] rfl (hj23 1)
set_option maxHeartbeats 4000000 in
set_option maxRecDepth 100000 in
theorem w_X12_spurts_l48 {X : Mc} {w : Wd} (hC : Cok X w (Aw w (xs_ X).heap.size) yX12_spurts.cls cX12_spurts 9 72 2754 shM rM 29) (hret : (xmeth X).sig.returnType = some .long) (a2 : Int32) (a3 : Int32) (σ : St) (a4 : Int32)   (K14 : Int32 → Int64 → St → Option (Int64 × St)) (hK14 : ∀ (x11 : Int32) (x12 : Int64) (σ13 : St), RF X w (Aw w (xs_ X).heap.size) 9 (QL X w) (K14 x11 x12 σ13) 132 [(3, .int a4), (4, .int x11), (5, .long x12)] [] σ13) : ∀ (n : Nat) (x7 : Int32) (x8 : Int64) (x9 : Int32) (σ10 : St), RF X w (Aw w (xs_ X).heap.size) 9 (QL X w) (f_X12_spurts_l48 a2 a3 K14 n x7 x8 x9 σ10) 48 [(0, .ref (wA w 0)), (1, .int a2), (2, .int a3), (3, .int a4), (4, .int x7), (5, .long x8), (7, .int x9)] [] σ10 := by
  intro n
  induction n with
  | zero => intro x7 x8 x9 σ10; rw [f_X12_spurts_l48]; exact r_none
  | succ n ih =>
    intro x7 x8 x9 σ10
    rw [f_X12_spurts_l48]
    refine r_iload hC dX12_spurts_48 6 rfl ?_
    refine r_iload_n hC dX12_spurts_50 rfl 1 rfl ?_
    refine r_iload_n hC dX12_spurts_51 rfl 2 rfl ?_
    refine r_isub hC dX12_spurts_52 ?_
    refine r_icmp_gt hC 132 dX12_spurts_53 (by decide) (fun c15 => ?_) (fun c15 => ?_)
    · exact r_lv [3, 4, 5] rfl (hK14 x7 x8 σ10)
    · refine r_aload_n hC dX12_spurts_56 rfl 0 rfl ?_
      refine r_callVV hC (b := 0) (ci := 12) (st := []) [] rfl (hC.n rfl) rfl rfl (c_X12_begins hC.w σ10) yk_X12_begins lm_X12_367 rfl ⟨rfl, rfl⟩ rfl dX12_spurts_57 (fun σ16 => ?_)
      refine r_iconst (v := 0) hC dX12_spurts_60 (by decide) ?_
      refine r_istore (lv' := [(8, .int 0), (0, .ref (wA w 0)), (1, .int a2), (2, .int a3), (3, .int a4), (4, .int x7), (5, .long x8), (7, .int x9)]) hC dX12_spurts_61 (by decide) rfl ?_
      refine r_lv [1, 2, 3, 4, 5, 6, 7, 0] rfl ?_
      refine w_X12_spurts_l63 hC hret a2 a3 x9 a4 x7 x8 σ16 _ ?_ FU 0 σ16
      · intro σ19
        refine r_aload_n hC dX12_spurts_103 rfl 0 rfl ?_
        refine r_getL hC clX12 0 37 rfl rfl (hC.n rfl) rfl lf_X12_336 dX12_spurts_104 ?_
        refine r_nmL (fun v27 => ?_)
        refine r_lload hC dX12_spurts_107 5 rfl ?_
        refine r_jn (T := fun (j30 : Int32 → Int64 → Option (Int64 × St)) => ∀ (x28 : Int32) (x29 : Int64), RF X w (Aw w (xs_ X).heap.size) 9 (QL X w) (j30 x28 x29) 126 [(0, .ref (wA w 0)), (1, .int a2), (2, .int a3), (3, .int a4), (4, .int x28), (5, .long x29), (7, .int x9)] [] σ19) ?_ (fun j30 hj30 => ?_)
        · intro x28 x29
          refine r_iinc (v := x9 + 1) (lv' := [(7, .int (x9 + 1)), (0, .ref (wA w 0)), (1, .int a2), (2, .int a3), (3, .int a4), (4, .int x28), (5, .long x29)]) hC dX12_spurts_126 6 rfl rfl (by decide) rfl ?_
          refine r_goto hC 48 dX12_spurts_129 (by decide) ?_
          exact r_lv [1, 2, 3, 4, 5, 6, 0] rfl (ih x28 x29 (x9 + 1) σ19)
        · refine r_lcmp_gt hC 116 dX12_spurts_109 dX12_spurts_110 (by decide) (fun c31 => ?_) (fun c31 => ?_)
          · refine r_aload_n hC dX12_spurts_116 rfl 0 rfl ?_
            refine r_getL hC clX12 0 37 rfl rfl (hC.n rfl) rfl lf_X12_336 dX12_spurts_117 ?_
            refine r_nmL (fun v32 => ?_)
            refine r_lstore (lv' := [(5, .long v32), (0, .ref (wA w 0)), (1, .int a2), (2, .int a3), (3, .int a4), (4, .int x7), (7, .int x9)]) hC dX12_spurts_120 (by decide) rfl ?_
            refine r_iload hC dX12_spurts_122 6 rfl ?_
            refine r_istore (lv' := [(4, .int x9), (5, .long v32), (0, .ref (wA w 0)), (1, .int a2), (2, .int a3), (3, .int a4), (7, .int x9)]) hC dX12_spurts_124 (by decide) rfl ?_
            exact r_lv [2, 3, 4, 5, 0, 1, 6] rfl (hj30 x9 v32)
          · refine r_goto hC 126 dX12_spurts_113 (by decide) ?_
            exact r_lv [0, 1, 2, 3, 4, 5, 6] rfl (hj30 x7 x8)
set_option maxHeartbeats 4000000 in
set_option maxRecDepth 100000 in
theorem c_X12_spurts {l : Launch} {w : Wd} (hW : HWd w shM rM 29) (σ : St) (a2 : Int32) (a3 : Int32) (a4 : Int32)  : ∀ res, f_X12_spurts σ a2 a3 a4 = some res → MtL l yX12_spurts cX12_spurts 9 .long 72 2754 w [.ref (wA w 0), .int a2, .int a3, .int a4] σ res := by
  refine mt_L (by decide) rfl hW (fun X hl0 hC hret => ?_)
  show RF X w (Aw w (xs_ X).heap.size) 9 (QL X w) (f_X12_spurts σ a2 a3 a4) 0 [(0, .ref (wA w 0)), (1, .int a2), (2, .int a3), (3, .int a4)] [] σ
  unfold f_X12_spurts
  refine r_iload_n hC dX12_spurts_0 rfl 1 rfl ?_
  refine r_i2l hC dX12_spurts_1 ?_
  refine r_lconst (v := 1) hC dX12_spurts_2 (by decide) ?_
  refine r_ldc2 (v := 60) hC lc_X12_294 dX12_spurts_3 ?_
  refine r_callSP hC (st := []) [.long (Int32.toInt64 a2), .long 1, .long 60] (c_X12_in hC.w σ (Int32.toInt64 a2) 1 60) yk_X12_in lm_X12_125 rfl ⟨rfl, rfl⟩ rfl dX12_spurts_6 (fun v1 => ?_)
  refine r_if_eq hC 33 dX12_spurts_9 (by decide) (fun c2 => ?_) (fun c2 => ?_)
  · refine r_ldc2 (v := (-4611686018427387904)) hC lc_X12_374 dX12_spurts_33 ?_
    exact r_lret hC hret dX12_spurts_36
  · refine r_iload_n hC dX12_spurts_12 rfl 2 rfl ?_
    refine r_i2l hC dX12_spurts_13 ?_
    refine r_lconst (v := 0) hC dX12_spurts_14 (by decide) ?_
    refine r_iload_n hC dX12_spurts_15 rfl 1 rfl ?_
    refine r_i2l hC dX12_spurts_16 ?_
    refine r_callSP hC (st := []) [.long (Int32.toInt64 a3), .long 0, .long (Int32.toInt64 a2)] (c_X12_in hC.w σ (Int32.toInt64 a3) 0 (Int32.toInt64 a2)) yk_X12_in lm_X12_125 rfl ⟨rfl, rfl⟩ rfl dX12_spurts_17 (fun v3 => ?_)
    refine r_if_eq hC 33 dX12_spurts_20 (by decide) (fun c4 => ?_) (fun c4 => ?_)
    · refine r_ldc2 (v := (-4611686018427387904)) hC lc_X12_374 dX12_spurts_33 ?_
      exact r_lret hC hret dX12_spurts_36
    · refine r_iload_n hC dX12_spurts_23 rfl 3 rfl ?_
      refine r_i2l hC dX12_spurts_24 ?_
      refine r_lconst (v := 0) hC dX12_spurts_25 (by decide) ?_
      refine r_lconst (v := 1) hC dX12_spurts_26 (by decide) ?_
      refine r_callSP hC (st := []) [.long (Int32.toInt64 a4), .long 0, .long 1] (c_X12_in hC.w σ (Int32.toInt64 a4) 0 1) yk_X12_in lm_X12_125 rfl ⟨rfl, rfl⟩ rfl dX12_spurts_27 (fun v5 => ?_)
      refine r_if_ne hC 37 dX12_spurts_30 (by decide) (fun c6 => ?_) (fun c6 => ?_)
      · refine r_iconst (v := 0) hC dX12_spurts_37 (by decide) ?_
        refine r_istore (lv' := [(4, .int 0), (0, .ref (wA w 0)), (1, .int a2), (2, .int a3), (3, .int a4)]) hC dX12_spurts_38 (by decide) rfl ?_
        refine r_ldc2 (v := (-1)) hC lc_X12_209 dX12_spurts_40 ?_
        refine r_lstore (lv' := [(5, .long (-1)), (4, .int 0), (0, .ref (wA w 0)), (1, .int a2), (2, .int a3), (3, .int a4)]) hC dX12_spurts_43 (by decide) rfl ?_
        refine r_iconst (v := 0) hC dX12_spurts_45 (by decide) ?_
        refine r_istore (lv' := [(7, .int 0), (5, .long (-1)), (4, .int 0), (0, .ref (wA w 0)), (1, .int a2), (2, .int a3), (3, .int a4)]) hC dX12_spurts_46 (by decide) rfl ?_
        refine r_lv [3, 4, 5, 6, 2, 1, 0] rfl ?_
        refine w_X12_spurts_l48 hC hret a2 a3 σ a4 _ ?_ FU 0 (-1) 0 σ
        · intro x11 x12 σ13
          refine r_iload_n hC dX12_spurts_132 rfl 0 rfl ?_
          refine r_if_ne hC 142 dX12_spurts_133 (by decide) (fun c33 => ?_) (fun c33 => ?_)
          · refine r_lload hC dX12_spurts_142 2 rfl ?_
            exact r_lret hC hret dX12_spurts_144
          · refine r_iload hC dX12_spurts_136 1 rfl ?_
            refine r_i2l hC dX12_spurts_138 ?_
            refine r_goto hC 144 dX12_spurts_139 (by decide) ?_
            exact r_lret hC hret dX12_spurts_144
      · refine r_ldc2 (v := (-4611686018427387904)) hC lc_X12_374 dX12_spurts_33 ?_
        exact r_lret hC hret dX12_spurts_36
set_option maxHeartbeats 4000000 in
set_option maxRecDepth 100000 in
theorem c_X12_piece {l : Launch} {w : Wd} (hW : HWd w shM rM 29) (σ : St) (a2 : Int32) (a3 : Int32) (a4 : Int32) (a5 : Int32)  : ∀ res, f_X12_piece σ a2 a3 a4 a5 = some res → MtI l yX12_piece cX12_piece 5 .int 2 46 w [.ref (wA w 0), .int a2, .int a3, .int a4, .int a5] σ res := by
  refine mt_I (by decide) rfl hW (fun X hl0 hC hret => ?_)
  show RF X w (Aw w (xs_ X).heap.size) 5 (QI X w) (f_X12_piece σ a2 a3 a4 a5) 0 [(0, .ref (wA w 0)), (1, .int a2), (2, .int a3), (3, .int a4), (4, .int a5)] [] σ
  unfold f_X12_piece
  refine r_aload_n hC dX12_piece_0 rfl 0 rfl ?_
  refine r_iload_n hC dX12_piece_1 rfl 1 rfl ?_
  refine r_callVP hC (b := 0) (ci := 12) (st := []) [.int a2] rfl (hC.n rfl) rfl rfl (c_X12_isRower hC.w σ a2) yk_X12_isRower lm_X12_139 rfl ⟨rfl, rfl⟩ rfl dX12_piece_2 (fun v1 => ?_)
  refine r_if_eq hC 48 dX12_piece_5 (by decide) (fun c2 => ?_) (fun c2 => ?_)
  · refine r_bipush (v := (-2)) hC dX12_piece_48 (by decide) ?_
    exact r_iret hC hret rfl dX12_piece_50
  · refine r_aload_n hC dX12_piece_8 rfl 0 rfl ?_
    refine r_iload_n hC dX12_piece_9 rfl 2 rfl ?_
    refine r_callVP hC (b := 0) (ci := 12) (st := []) [.int a3] rfl (hC.n rfl) rfl rfl (c_X12_isRower hC.w σ a3) yk_X12_isRower lm_X12_139 rfl ⟨rfl, rfl⟩ rfl dX12_piece_10 (fun v3 => ?_)
    refine r_if_eq hC 48 dX12_piece_13 (by decide) (fun c4 => ?_) (fun c4 => ?_)
    · refine r_bipush (v := (-2)) hC dX12_piece_48 (by decide) ?_
      exact r_iret hC hret rfl dX12_piece_50
    · refine r_iload_n hC dX12_piece_16 rfl 1 rfl ?_
      refine r_iload_n hC dX12_piece_17 rfl 2 rfl ?_
      refine r_icmp_eq hC 48 dX12_piece_18 (by decide) (fun c5 => ?_) (fun c5 => ?_)
      · refine r_bipush (v := (-2)) hC dX12_piece_48 (by decide) ?_
        exact r_iret hC hret rfl dX12_piece_50
      · refine r_iload_n hC dX12_piece_21 rfl 3 rfl ?_
        refine r_i2l hC dX12_piece_22 ?_
        refine r_ldc2 (v := (-9999)) hC lc_X12_394 dX12_piece_23 ?_
        refine r_ldc2 (v := 9999) hC lc_X12_137 dX12_piece_26 ?_
        refine r_callSP hC (st := []) [.long (Int32.toInt64 a4), .long (-9999), .long 9999] (c_X12_in hC.w σ (Int32.toInt64 a4) (-9999) 9999) yk_X12_in lm_X12_125 rfl ⟨rfl, rfl⟩ rfl dX12_piece_29 (fun v6 => ?_)
        refine r_if_eq hC 48 dX12_piece_32 (by decide) (fun c7 => ?_) (fun c7 => ?_)
        · refine r_bipush (v := (-2)) hC dX12_piece_48 (by decide) ?_
          exact r_iret hC hret rfl dX12_piece_50
        · refine r_iload hC dX12_piece_35 4 rfl ?_
          refine r_i2l hC dX12_piece_37 ?_
          refine r_lconst (v := 0) hC dX12_piece_38 (by decide) ?_
          refine r_ldc2 (v := 999) hC lc_X12_154 dX12_piece_39 ?_
          refine r_callSP hC (st := []) [.long (Int32.toInt64 a5), .long 0, .long 999] (c_X12_in hC.w σ (Int32.toInt64 a5) 0 999) yk_X12_in lm_X12_125 rfl ⟨rfl, rfl⟩ rfl dX12_piece_42 (fun v8 => ?_)
          refine r_if_ne hC 51 dX12_piece_45 (by decide) (fun c9 => ?_) (fun c9 => ?_)
          · refine r_aload_n hC dX12_piece_51 rfl 0 rfl ?_
            refine r_getI hC clX12 0 46 rfl rfl (hC.n rfl) rfl lf_X12_396 dX12_piece_52 ?_
            refine r_nmI (fun v10 => ?_)
            refine r_bipush (v := 30) hC dX12_piece_55 (by decide) ?_
            refine r_icmp_ne hC 63 dX12_piece_57 (by decide) (fun c11 => ?_) (fun c11 => ?_)
            · refine r_aload_n hC dX12_piece_63 rfl 0 rfl ?_
              refine r_getR hC clX12 0 42 15 rfl rfl rfl (hC.n rfl) rfl lf_X12_57 dX12_piece_64 ?_
              refine r_aload_n hC dX12_piece_67 rfl 0 rfl ?_
              refine r_getI hC clX12 0 46 rfl rfl (hC.n rfl) rfl lf_X12_396 dX12_piece_68 ?_
              refine r_nmI (fun v12 => ?_)
              refine r_iload_n hC dX12_piece_71 rfl 1 rfl ?_
              refine r_gd (fun g13 => ?_)
              refine r_iast hC 15 30 rfl rfl g13 dX12_piece_72 ?_
              refine r_nmS (fun σ14 => ?_)
              refine r_aload_n hC dX12_piece_73 rfl 0 rfl ?_
              refine r_getR hC clX12 0 43 16 rfl rfl rfl (hC.n rfl) rfl lf_X12_60 dX12_piece_74 ?_
              refine r_aload_n hC dX12_piece_77 rfl 0 rfl ?_
              refine r_getI hC clX12 0 46 rfl rfl (hC.n rfl) rfl lf_X12_396 dX12_piece_78 ?_
              refine r_nmI (fun v15 => ?_)
              refine r_iload_n hC dX12_piece_81 rfl 2 rfl ?_
              refine r_gd (fun g16 => ?_)
              refine r_iast hC 16 30 rfl rfl g16 dX12_piece_82 ?_
              refine r_nmS (fun σ17 => ?_)
              refine r_aload_n hC dX12_piece_83 rfl 0 rfl ?_
              refine r_getR hC clX12 0 44 17 rfl rfl rfl (hC.n rfl) rfl lf_X12_63 dX12_piece_84 ?_
              refine r_aload_n hC dX12_piece_87 rfl 0 rfl ?_
              refine r_getI hC clX12 0 46 rfl rfl (hC.n rfl) rfl lf_X12_396 dX12_piece_88 ?_
              refine r_nmI (fun v18 => ?_)
              refine r_iload_n hC dX12_piece_91 rfl 3 rfl ?_
              refine r_gd (fun g19 => ?_)
              refine r_iast hC 17 30 rfl rfl g19 dX12_piece_92 ?_
              refine r_nmS (fun σ20 => ?_)
              refine r_aload_n hC dX12_piece_93 rfl 0 rfl ?_
              refine r_getR hC clX12 0 45 18 rfl rfl rfl (hC.n rfl) rfl lf_X12_66 dX12_piece_94 ?_
              refine r_aload_n hC dX12_piece_97 rfl 0 rfl ?_
              refine r_getI hC clX12 0 46 rfl rfl (hC.n rfl) rfl lf_X12_396 dX12_piece_98 ?_
              refine r_nmI (fun v21 => ?_)
              refine r_iload hC dX12_piece_101 4 rfl ?_
              refine r_gd (fun g22 => ?_)
              refine r_iast hC 18 30 rfl rfl g22 dX12_piece_103 ?_
              refine r_nmS (fun σ23 => ?_)
              refine r_aload_n hC dX12_piece_104 rfl 0 rfl ?_
              refine r_dup hC dX12_piece_105 rfl ?_
              refine r_getI hC clX12 0 46 rfl rfl (hC.n rfl) rfl lf_X12_396 dX12_piece_106 ?_
              refine r_nmI (fun v24 => ?_)
              refine r_iconst (v := 1) hC dX12_piece_109 (by decide) ?_
              refine r_iadd hC dX12_piece_110 ?_
              refine r_putI hC clX12 0 46 rfl rfl rfl (hC.n rfl) rfl rfl lf_X12_396 dX12_piece_111 ?_
              refine r_nmS (fun σ25 => ?_)
              refine r_aload_n hC dX12_piece_114 rfl 0 rfl ?_
              refine r_getI hC clX12 0 46 rfl rfl (hC.n rfl) rfl lf_X12_396 dX12_piece_115 ?_
              refine r_nmI (fun v26 => ?_)
              refine r_iconst (v := 1) hC dX12_piece_118 (by decide) ?_
              refine r_isub hC dX12_piece_119 ?_
              exact r_iret hC hret rfl dX12_piece_120
            · refine r_bipush (v := (-4)) hC dX12_piece_60 (by decide) ?_
              exact r_iret hC hret rfl dX12_piece_62
          · refine r_bipush (v := (-2)) hC dX12_piece_48 (by decide) ?_
            exact r_iret hC hret rfl dX12_piece_50
set_option maxHeartbeats 4000000 in
set_option maxRecDepth 100000 in
theorem c_X12_bounds {l : Launch} {w : Wd} (hW : HWd w shM rM 29) (σ : St) (a2 : Int32) (a3 : Int32) (a4 : Int64)  : ∀ res, f_X12_bounds σ a2 a3 a4 = some res → MtV l yX12_bounds cX12_bounds 6 0 0 w [.ref (wA w 0), .int a2, .int a3, .long a4] σ res := by
  refine mt_V (by decide) rfl hW (fun X hl0 hC hret => ?_)
  show RF X w (Aw w (xs_ X).heap.size) 6 (QV X w) (f_X12_bounds σ a2 a3 a4) 0 [(0, .ref (wA w 0)), (1, .int a2), (2, .int a3), (3, .long a4)] [] σ
  unfold f_X12_bounds
  refine r_bipush (v := 16) hC dX12_bounds_0 (by decide) ?_
  refine r_iload_n hC dX12_bounds_2 rfl 1 rfl ?_
  refine r_imul hC dX12_bounds_3 ?_
  refine r_iload_n hC dX12_bounds_4 rfl 2 rfl ?_
  refine r_iadd hC dX12_bounds_5 ?_
  refine r_nmI (fun v1 => ?_)
  refine r_istore (lv' := [(5, .int v1), (0, .ref (wA w 0)), (1, .int a2), (2, .int a3), (3, .long a4)]) hC dX12_bounds_6 (by decide) rfl ?_
  refine r_aload_n hC dX12_bounds_8 rfl 1 rfl ?_
  refine r_getR hC clX12 0 47 19 rfl rfl rfl (hC.n rfl) rfl lf_X12_69 dX12_bounds_9 ?_
  refine r_iload hC dX12_bounds_12 0 rfl ?_
  refine r_gd (fun g2 => ?_)
  refine r_lald hC 19 256 rfl rfl g2 dX12_bounds_14 ?_
  refine r_nmL (fun v3 => ?_)
  refine r_ldc2 (v := 999999) hC lc_X12_399 dX12_bounds_15 ?_
  refine r_jn (T := fun (j4 : Option St) => RF X w (Aw w (xs_ X).heap.size) 6 (QV X w) j4 34 [(0, .ref (wA w 0)), (3, .long a4), (5, .int v1)] [] σ) ?_ (fun j4 hj4 => ?_)
  · refine r_aload_n hC dX12_bounds_34 rfl 0 rfl ?_
    refine r_getR hC clX12 0 47 19 rfl rfl rfl (hC.n rfl) rfl lf_X12_69 dX12_bounds_35 ?_
    refine r_iload hC dX12_bounds_38 2 rfl ?_
    refine r_lload_n hC dX12_bounds_40 rfl 1 rfl ?_
    refine r_gd (fun g5 => ?_)
    refine r_last hC 19 256 rfl rfl g5 dX12_bounds_41 ?_
    refine r_nmS (fun σ6 => ?_)
    exact r_vret hC hret dX12_bounds_42
  · refine r_lcmp_eq hC 34 dX12_bounds_18 dX12_bounds_19 (by decide) (fun c7 => ?_) (fun c7 => ?_)
    · exact r_lv [1, 4, 0] rfl hj4
    · refine r_lload_n hC dX12_bounds_22 rfl 4 rfl ?_
      refine r_aload_n hC dX12_bounds_23 rfl 1 rfl ?_
      refine r_getR hC clX12 0 47 19 rfl rfl rfl (hC.n rfl) rfl lf_X12_69 dX12_bounds_24 ?_
      refine r_iload hC dX12_bounds_27 0 rfl ?_
      refine r_gd (fun g8 => ?_)
      refine r_lald hC 19 256 rfl rfl g8 dX12_bounds_29 ?_
      refine r_nmL (fun v9 => ?_)
      refine r_lcmp_ge hC 42 dX12_bounds_30 dX12_bounds_31 (by decide) (fun c10 => ?_) (fun c10 => ?_)
      · exact r_vret hC hret dX12_bounds_42
      · exact r_lv [1, 4, 0] rfl hj4
set_option maxHeartbeats 4000000 in
set_option maxRecDepth 100000 in
theorem w_X12_quarrels_l2 {X : Mc} {w : Wd} (hC : Cok X w (Aw w (xs_ X).heap.size) yX12_quarrels.cls cX12_quarrels 5 1 25 shM rM 29) (hret : (xmeth X).sig.returnType = some .boolean) (σ : St) (a2 : Int32)   (K4 : St → Option (Int32 × St)) (hK4 : ∀ (σ3 : St), RF X w (Aw w (xs_ X).heap.size) 5 (QI X w) (K4 σ3) 39 [(0, .ref (wA w 0)), (1, .int a2)] [] σ3) : ∀ (n : Nat) (x1 : Int32) (σ2 : St), RF X w (Aw w (xs_ X).heap.size) 5 (QI X w) (f_X12_quarrels_l2 K4 n x1 σ2) 2 [(0, .ref (wA w 0)), (1, .int a2), (2, .int x1)] [] σ2 := by
  intro n
  induction n with
  | zero => intro x1 σ2; rw [f_X12_quarrels_l2]; exact r_none
  | succ n ih =>
    intro x1 σ2
    rw [f_X12_quarrels_l2]
    refine r_iload_n hC dX12_quarrels_2 rfl 2 rfl ?_
    refine r_sipush (v := 256) hC dX12_quarrels_3 (by decide) ?_
    refine r_icmp_ge hC 39 dX12_quarrels_6 (by decide) (fun c5 => ?_) (fun c5 => ?_)
    · exact r_lv [0, 1] rfl (hK4 σ2)
    · refine r_aload_n hC dX12_quarrels_9 rfl 0 rfl ?_
      refine r_getR hC clX12 0 47 19 rfl rfl rfl (hC.n rfl) rfl lf_X12_69 dX12_quarrels_10 ?_
      refine r_iload_n hC dX12_quarrels_13 rfl 2 rfl ?_
      refine r_iload_n hC dX12_quarrels_14 rfl 2 rfl ?_
      refine r_bipush (v := 16) hC dX12_quarrels_15 (by decide) ?_
      refine r_idiv hC dX12_quarrels_17 (by decide) ?_
      refine r_iload_n hC dX12_quarrels_18 rfl 2 rfl ?_
      refine r_bipush (v := 16) hC dX12_quarrels_19 (by decide) ?_
      refine r_irem hC dX12_quarrels_21 (by decide) ?_
      refine r_jn (T := fun (j7 : Int64 → Option (Int32 × St)) => ∀ (t6 : Int64), RF X w (Aw w (xs_ X).heap.size) 5 (QI X w) (j7 t6) 32 [(0, .ref (wA w 0)), (1, .int a2), (2, .int x1)] [.long t6, .int x1, .ref (wA w 19)] σ2) ?_ (fun j7 hj7 => ?_)
      · intro t6
        refine r_gd (fun g8 => ?_)
        refine r_last hC 19 256 rfl rfl g8 dX12_quarrels_32 ?_
        refine r_nmS (fun σ9 => ?_)
        refine r_iinc (v := x1 + 1) (lv' := [(2, .int (x1 + 1)), (0, .ref (wA w 0)), (1, .int a2)]) hC dX12_quarrels_33 2 rfl rfl (by decide) rfl ?_
        refine r_goto hC 2 dX12_quarrels_36 (by decide) ?_
        exact r_lv [1, 2, 0] rfl (ih (x1 + 1) σ9)
      · refine r_icmp_ne hC 29 dX12_quarrels_22 (by decide) (fun c10 => ?_) (fun c10 => ?_)
        · refine r_ldc2 (v := 999999) hC lc_X12_399 dX12_quarrels_29 ?_
          exact r_lv [0, 1, 2] rfl (hj7 999999)
        · refine r_lconst (v := 0) hC dX12_quarrels_25 (by decide) ?_
          refine r_goto hC 32 dX12_quarrels_26 (by decide) ?_
          exact r_lv [0, 1, 2] rfl (hj7 0)
set_option maxHeartbeats 4000000 in
set_option maxRecDepth 100000 in
theorem w_X12_quarrels_l41 {X : Mc} {w : Wd} (hC : Cok X w (Aw w (xs_ X).heap.size) yX12_quarrels.cls cX12_quarrels 5 1 25 shM rM 29) (hret : (xmeth X).sig.returnType = some .boolean) (a2 : Int32) (σ3 : St)   (K14 : St → Option (Int32 × St)) (hK14 : ∀ (σ13 : St), RF X w (Aw w (xs_ X).heap.size) 5 (QI X w) (K14 σ13) 126 [(0, .ref (wA w 0))] [] σ13) : ∀ (n : Nat) (x11 : Int32) (σ12 : St), RF X w (Aw w (xs_ X).heap.size) 5 (QI X w) (f_X12_quarrels_l41 a2 K14 n x11 σ12) 41 [(0, .ref (wA w 0)), (1, .int a2), (2, .int x11)] [] σ12 := by
  intro n
  induction n with
  | zero => intro x11 σ12; rw [f_X12_quarrels_l41]; exact r_none
  | succ n ih =>
    intro x11 σ12
    rw [f_X12_quarrels_l41]
    refine r_iload_n hC dX12_quarrels_41 rfl 2 rfl ?_
    refine r_aload_n hC dX12_quarrels_42 rfl 0 rfl ?_
    refine r_getI hC clX12 0 46 rfl rfl (hC.n rfl) rfl lf_X12_396 dX12_quarrels_43 ?_
    refine r_nmI (fun v15 => ?_)
    refine r_icmp_ge hC 126 dX12_quarrels_46 (by decide) (fun c16 => ?_) (fun c16 => ?_)
    · exact r_lv [0] rfl (hK14 σ12)
    · refine r_iload_n hC dX12_quarrels_49 rfl 1 rfl ?_
      refine r_iload_n hC dX12_quarrels_50 rfl 2 rfl ?_
      refine r_ishr hC dX12_quarrels_51 ?_
      refine r_iconst (v := 1) hC dX12_quarrels_52 (by decide) ?_
      refine r_iand hC dX12_quarrels_53 ?_
      refine r_jn (T := fun (j18 : St → Option (Int32 × St)) => ∀ (σ17 : St), RF X w (Aw w (xs_ X).heap.size) 5 (QI X w) (j18 σ17) 120 [(0, .ref (wA w 0)), (1, .int a2), (2, .int x11)] [] σ17) ?_ (fun j18 hj18 => ?_)
      · intro σ17
        refine r_iinc (v := x11 + 1) (lv' := [(2, .int (x11 + 1)), (0, .ref (wA w 0)), (1, .int a2)]) hC dX12_quarrels_120 2 rfl rfl (by decide) rfl ?_
        refine r_goto hC 41 dX12_quarrels_123 (by decide) ?_
        exact r_lv [1, 2, 0] rfl (ih (x11 + 1) σ17)
      · refine r_if_ne hC 60 dX12_quarrels_54 (by decide) (fun c19 => ?_) (fun c19 => ?_)
        · refine r_aload_n hC dX12_quarrels_60 rfl 0 rfl ?_
          refine r_aload_n hC dX12_quarrels_61 rfl 0 rfl ?_
          refine r_getR hC clX12 0 42 15 rfl rfl rfl (hC.n rfl) rfl lf_X12_57 dX12_quarrels_62 ?_
          refine r_iload_n hC dX12_quarrels_65 rfl 2 rfl ?_
          refine r_gd (fun g20 => ?_)
          refine r_iald hC 15 30 rfl rfl g20 dX12_quarrels_66 ?_
          refine r_nmI (fun v21 => ?_)
          refine r_aload_n hC dX12_quarrels_67 rfl 0 rfl ?_
          refine r_getR hC clX12 0 43 16 rfl rfl rfl (hC.n rfl) rfl lf_X12_60 dX12_quarrels_68 ?_
          refine r_iload_n hC dX12_quarrels_71 rfl 2 rfl ?_
          refine r_gd (fun g22 => ?_)
          refine r_iald hC 16 30 rfl rfl g22 dX12_quarrels_72 ?_
          refine r_nmI (fun v23 => ?_)
          refine r_aload_n hC dX12_quarrels_73 rfl 0 rfl ?_
          refine r_getR hC clX12 0 44 17 rfl rfl rfl (hC.n rfl) rfl lf_X12_63 dX12_quarrels_74 ?_
          refine r_iload_n hC dX12_quarrels_77 rfl 2 rfl ?_
          refine r_gd (fun g24 => ?_)
          refine r_iald hC 17 30 rfl rfl g24 dX12_quarrels_78 ?_
          refine r_nmI (fun v25 => ?_)
          refine r_aload_n hC dX12_quarrels_79 rfl 0 rfl ?_
          refine r_getR hC clX12 0 45 18 rfl rfl rfl (hC.n rfl) rfl lf_X12_66 dX12_quarrels_80 ?_
          refine r_iload_n hC dX12_quarrels_83 rfl 2 rfl ?_
          refine r_gd (fun g26 => ?_)
          refine r_iald hC 18 30 rfl rfl g26 dX12_quarrels_84 ?_
          refine r_nmI (fun v27 => ?_)
          refine r_iadd hC dX12_quarrels_85 ?_
          refine r_i2l hC dX12_quarrels_86 ?_
          refine r_callVV hC (b := 0) (ci := 12) (st := []) [.int v21, .int v23, .long (Int32.toInt64 (v25 + v27))] rfl (hC.n rfl) rfl rfl (c_X12_bounds hC.w σ12 v21 v23 (Int32.toInt64 (v25 + v27))) yk_X12_bounds lm_X12_401 rfl ⟨rfl, rfl⟩ rfl dX12_quarrels_87 (fun σ28 => ?_)
          refine r_aload_n hC dX12_quarrels_90 rfl 0 rfl ?_
          refine r_aload_n hC dX12_quarrels_91 rfl 0 rfl ?_
          refine r_getR hC clX12 0 43 16 rfl rfl rfl (hC.n rfl) rfl lf_X12_60 dX12_quarrels_92 ?_
          refine r_iload_n hC dX12_quarrels_95 rfl 2 rfl ?_
          refine r_gd (fun g29 => ?_)
          refine r_iald hC 16 30 rfl rfl g29 dX12_quarrels_96 ?_
          refine r_nmI (fun v30 => ?_)
          refine r_aload_n hC dX12_quarrels_97 rfl 0 rfl ?_
          refine r_getR hC clX12 0 42 15 rfl rfl rfl (hC.n rfl) rfl lf_X12_57 dX12_quarrels_98 ?_
          refine r_iload_n hC dX12_quarrels_101 rfl 2 rfl ?_
          refine r_gd (fun g31 => ?_)
          refine r_iald hC 15 30 rfl rfl g31 dX12_quarrels_102 ?_
          refine r_nmI (fun v32 => ?_)
          refine r_aload_n hC dX12_quarrels_103 rfl 0 rfl ?_
          refine r_getR hC clX12 0 45 18 rfl rfl rfl (hC.n rfl) rfl lf_X12_66 dX12_quarrels_104 ?_
          refine r_iload_n hC dX12_quarrels_107 rfl 2 rfl ?_
          refine r_gd (fun g33 => ?_)
          refine r_iald hC 18 30 rfl rfl g33 dX12_quarrels_108 ?_
          refine r_nmI (fun v34 => ?_)
          refine r_aload_n hC dX12_quarrels_109 rfl 0 rfl ?_
          refine r_getR hC clX12 0 44 17 rfl rfl rfl (hC.n rfl) rfl lf_X12_63 dX12_quarrels_110 ?_
          refine r_iload_n hC dX12_quarrels_113 rfl 2 rfl ?_
          refine r_gd (fun g35 => ?_)
          refine r_iald hC 17 30 rfl rfl g35 dX12_quarrels_114 ?_
          refine r_nmI (fun v36 => ?_)
          refine r_isub hC dX12_quarrels_115 ?_
          refine r_i2l hC dX12_quarrels_116 ?_
          refine r_callVV hC (b := 0) (ci := 12) (st := []) [.int v30, .int v32, .long (Int32.toInt64 (v34 - v36))] rfl (hC.n rfl) rfl rfl (c_X12_bounds hC.w σ28 v30 v32 (Int32.toInt64 (v34 - v36))) yk_X12_bounds lm_X12_401 rfl ⟨rfl, rfl⟩ rfl dX12_quarrels_117 (fun σ37 => ?_)
          exact r_lv [0, 1, 2] rfl (hj18 σ37)
        · refine r_goto hC 120 dX12_quarrels_57 (by decide) ?_
          exact r_lv [0, 1, 2] rfl (hj18 σ12)
set_option maxHeartbeats 4000000 in
set_option maxRecDepth 100000 in
theorem w_X12_quarrels_l170 {X : Mc} {w : Wd} (hC : Cok X w (Aw w (xs_ X).heap.size) yX12_quarrels.cls cX12_quarrels 5 1 25 shM rM 29) (hret : (xmeth X).sig.returnType = some .boolean) (x38 : Int32) (x42 : Int32) (σ43 : St)   (K57 : St → Option (Int32 × St)) (hK57 : ∀ (σ56 : St), RF X w (Aw w (xs_ X).heap.size) 5 (QI X w) (K57 σ56) 235 [(0, .ref (wA w 0)), (2, .int x38), (3, .int x42)] [] σ56) : ∀ (n : Nat) (x54 : Int32) (σ55 : St), RF X w (Aw w (xs_ X).heap.size) 5 (QI X w) (f_X12_quarrels_l170 x38 x42 K57 n x54 σ55) 170 [(0, .ref (wA w 0)), (2, .int x38), (3, .int x42), (4, .int x54)] [] σ55 := by
  intro n
  induction n with
  | zero => intro x54 σ55; rw [f_X12_quarrels_l170]; exact r_none
  | succ n ih =>
    intro x54 σ55
    rw [f_X12_quarrels_l170]
    refine r_iload hC dX12_quarrels_170 3 rfl ?_
    refine r_aload_n hC dX12_quarrels_172 rfl 0 rfl ?_
    refine r_getI hC clX12 0 11 rfl rfl (hC.n rfl) rfl lf_X12_122 dX12_quarrels_173 ?_
    refine r_nmI (fun v58 => ?_)
    refine r_icmp_ge hC 235 dX12_quarrels_176 (by decide) (fun c59 => ?_) (fun c59 => ?_)
    · exact r_lv [0, 1, 2] rfl (hK57 σ55)
    · refine r_aload_n hC dX12_quarrels_179 rfl 0 rfl ?_
      refine r_getR hC clX12 0 47 19 rfl rfl rfl (hC.n rfl) rfl lf_X12_69 dX12_quarrels_180 ?_
      refine r_bipush (v := 16) hC dX12_quarrels_183 (by decide) ?_
      refine r_iload_n hC dX12_quarrels_185 rfl 1 rfl ?_
      refine r_imul hC dX12_quarrels_186 ?_
      refine r_iload hC dX12_quarrels_187 3 rfl ?_
      refine r_iadd hC dX12_quarrels_189 ?_
      refine r_nmI (fun v60 => ?_)
      refine r_gd (fun g61 => ?_)
      refine r_lald hC 19 256 rfl rfl g61 dX12_quarrels_190 ?_
      refine r_nmL (fun v62 => ?_)
      refine r_ldc2 (v := 999999) hC lc_X12_399 dX12_quarrels_191 ?_
      refine r_jn (T := fun (j64 : St → Option (Int32 × St)) => ∀ (σ63 : St), RF X w (Aw w (xs_ X).heap.size) 5 (QI X w) (j64 σ63) 229 [(0, .ref (wA w 0)), (2, .int x38), (3, .int x42), (4, .int x54)] [] σ63) ?_ (fun j64 hj64 => ?_)
      · intro σ63
        refine r_iinc (v := x54 + 1) (lv' := [(4, .int (x54 + 1)), (0, .ref (wA w 0)), (2, .int x38), (3, .int x42)]) hC dX12_quarrels_229 3 rfl rfl (by decide) rfl ?_
        refine r_goto hC 170 dX12_quarrels_232 (by decide) ?_
        exact r_lv [1, 2, 3, 0] rfl (ih (x54 + 1) σ63)
      · refine r_lcmp_eq hC 229 dX12_quarrels_194 dX12_quarrels_195 (by decide) (fun c65 => ?_) (fun c65 => ?_)
        · exact r_lv [0, 1, 2, 3] rfl (hj64 σ55)
        · refine r_aload_n hC dX12_quarrels_198 rfl 0 rfl ?_
          refine r_iload_n hC dX12_quarrels_199 rfl 2 rfl ?_
          refine r_iload hC dX12_quarrels_200 3 rfl ?_
          refine r_aload_n hC dX12_quarrels_202 rfl 0 rfl ?_
          refine r_getR hC clX12 0 47 19 rfl rfl rfl (hC.n rfl) rfl lf_X12_69 dX12_quarrels_203 ?_
          refine r_bipush (v := 16) hC dX12_quarrels_206 (by decide) ?_
          refine r_iload_n hC dX12_quarrels_208 rfl 2 rfl ?_
          refine r_imul hC dX12_quarrels_209 ?_
          refine r_iload_n hC dX12_quarrels_210 rfl 1 rfl ?_
          refine r_iadd hC dX12_quarrels_211 ?_
          refine r_nmI (fun v66 => ?_)
          refine r_gd (fun g67 => ?_)
          refine r_lald hC 19 256 rfl rfl g67 dX12_quarrels_212 ?_
          refine r_nmL (fun v68 => ?_)
          refine r_aload_n hC dX12_quarrels_213 rfl 0 rfl ?_
          refine r_getR hC clX12 0 47 19 rfl rfl rfl (hC.n rfl) rfl lf_X12_69 dX12_quarrels_214 ?_
          refine r_bipush (v := 16) hC dX12_quarrels_217 (by decide) ?_
          refine r_iload_n hC dX12_quarrels_219 rfl 1 rfl ?_
          refine r_imul hC dX12_quarrels_220 ?_
          refine r_iload hC dX12_quarrels_221 3 rfl ?_
          refine r_iadd hC dX12_quarrels_223 ?_
          refine r_nmI (fun v69 => ?_)
          refine r_gd (fun g70 => ?_)
          refine r_lald hC 19 256 rfl rfl g70 dX12_quarrels_224 ?_
          refine r_nmL (fun v71 => ?_)
          refine r_ladd hC dX12_quarrels_225 ?_
          refine r_callVV hC (b := 0) (ci := 12) (st := []) [.int x42, .int x54, .long (v68 + v71)] rfl (hC.n rfl) rfl rfl (c_X12_bounds hC.w σ55 x42 x54 (v68 + v71)) yk_X12_bounds lm_X12_401 rfl ⟨rfl, rfl⟩ rfl dX12_quarrels_226 (fun σ72 => ?_)
          exact r_lv [0, 1, 2, 3] rfl (hj64 σ72)
set_option maxHeartbeats 4000000 in
set_option maxRecDepth 100000 in
theorem w_X12_quarrels_l138 {X : Mc} {w : Wd} (hC : Cok X w (Aw w (xs_ X).heap.size) yX12_quarrels.cls cX12_quarrels 5 1 25 shM rM 29) (hret : (xmeth X).sig.returnType = some .boolean) (x38 : Int32) (σ39 : St)   (K45 : St → Option (Int32 × St)) (hK45 : ∀ (σ44 : St), RF X w (Aw w (xs_ X).heap.size) 5 (QI X w) (K45 σ44) 241 [(0, .ref (wA w 0)), (2, .int x38)] [] σ44) : ∀ (n : Nat) (x42 : Int32) (σ43 : St), RF X w (Aw w (xs_ X).heap.size) 5 (QI X w) (f_X12_quarrels_l138 x38 K45 n x42 σ43) 138 [(0, .ref (wA w 0)), (2, .int x38), (3, .int x42)] [] σ43 := by
  intro n
  induction n with
  | zero => intro x42 σ43; rw [f_X12_quarrels_l138]; exact r_none
  | succ n ih =>
    intro x42 σ43
    rw [f_X12_quarrels_l138]
    refine r_iload_n hC dX12_quarrels_138 rfl 2 rfl ?_
    refine r_aload_n hC dX12_quarrels_139 rfl 0 rfl ?_
    refine r_getI hC clX12 0 11 rfl rfl (hC.n rfl) rfl lf_X12_122 dX12_quarrels_140 ?_
    refine r_nmI (fun v46 => ?_)
    refine r_icmp_ge hC 241 dX12_quarrels_143 (by decide) (fun c47 => ?_) (fun c47 => ?_)
    · exact r_lv [0, 1] rfl (hK45 σ43)
    · refine r_aload_n hC dX12_quarrels_146 rfl 0 rfl ?_
      refine r_getR hC clX12 0 47 19 rfl rfl rfl (hC.n rfl) rfl lf_X12_69 dX12_quarrels_147 ?_
      refine r_bipush (v := 16) hC dX12_quarrels_150 (by decide) ?_
      refine r_iload_n hC dX12_quarrels_152 rfl 2 rfl ?_
      refine r_imul hC dX12_quarrels_153 ?_
      refine r_iload_n hC dX12_quarrels_154 rfl 1 rfl ?_
      refine r_iadd hC dX12_quarrels_155 ?_
      refine r_nmI (fun v48 => ?_)
      refine r_gd (fun g49 => ?_)
      refine r_lald hC 19 256 rfl rfl g49 dX12_quarrels_156 ?_
      refine r_nmL (fun v50 => ?_)
      refine r_ldc2 (v := 999999) hC lc_X12_399 dX12_quarrels_157 ?_
      refine r_jn (T := fun (j52 : St → Option (Int32 × St)) => ∀ (σ51 : St), RF X w (Aw w (xs_ X).heap.size) 5 (QI X w) (j52 σ51) 235 [(0, .ref (wA w 0)), (2, .int x38), (3, .int x42)] [] σ51) ?_ (fun j52 hj52 => ?_)
      · intro σ51
        refine r_iinc (v := x42 + 1) (lv' := [(3, .int (x42 + 1)), (0, .ref (wA w 0)), (2, .int x38)]) hC dX12_quarrels_235 2 rfl rfl (by decide) rfl ?_
        refine r_goto hC 138 dX12_quarrels_238 (by decide) ?_
        exact r_lv [1, 2, 0] rfl (ih (x42 + 1) σ51)
      · refine r_lcmp_ne hC 167 dX12_quarrels_160 dX12_quarrels_161 (by decide) (fun c53 => ?_) (fun c53 => ?_)
        · refine r_iconst (v := 0) hC dX12_quarrels_167 (by decide) ?_
          refine r_istore (lv' := [(4, .int 0), (0, .ref (wA w 0)), (2, .int x38), (3, .int x42)]) hC dX12_quarrels_168 (by decide) rfl ?_
          refine r_lv [1, 2, 3, 0] rfl ?_
          refine w_X12_quarrels_l170 hC hret x38 x42 σ43 _ ?_ FU 0 σ43
          · intro σ56
            exact r_lv [0, 1, 2] rfl (hj52 σ56)
        · refine r_goto hC 235 dX12_quarrels_164 (by decide) ?_
          exact r_lv [0, 1, 2] rfl (hj52 σ43)
set_option maxHeartbeats 4000000 in
set_option maxRecDepth 100000 in
theorem w_X12_quarrels_l243 {X : Mc} {w : Wd} (hC : Cok X w (Aw w (xs_ X).heap.size) yX12_quarrels.cls cX12_quarrels 5 1 25 shM rM 29) (hret : (xmeth X).sig.returnType = some .boolean) (σ44 : St) (x38 : Int32)   (K74 : Option (Int32 × St)) (hK74 : RF X w (Aw w (xs_ X).heap.size) 5 (QI X w) K74 275 [(0, .ref (wA w 0)), (2, .int x38)] [] σ44) : ∀ (n : Nat) (x73 : Int32), RF X w (Aw w (xs_ X).heap.size) 5 (QI X w) (f_X12_quarrels_l243 σ44 K74 n x73) 243 [(0, .ref (wA w 0)), (2, .int x38), (3, .int x73)] [] σ44 := by
  intro n
  induction n with
  | zero => intro x73; rw [f_X12_quarrels_l243]; exact r_none
  | succ n ih =>
    intro x73
    rw [f_X12_quarrels_l243]
    refine r_iload_n hC dX12_quarrels_243 rfl 2 rfl ?_
    refine r_aload_n hC dX12_quarrels_244 rfl 0 rfl ?_
    refine r_getI hC clX12 0 11 rfl rfl (hC.n rfl) rfl lf_X12_122 dX12_quarrels_245 ?_
    refine r_nmI (fun v75 => ?_)
    refine r_icmp_ge hC 275 dX12_quarrels_248 (by decide) (fun c76 => ?_) (fun c76 => ?_)
    · exact r_lv [0, 1] rfl hK74
    · refine r_aload_n hC dX12_quarrels_251 rfl 0 rfl ?_
      refine r_getR hC clX12 0 47 19 rfl rfl rfl (hC.n rfl) rfl lf_X12_69 dX12_quarrels_252 ?_
      refine r_bipush (v := 16) hC dX12_quarrels_255 (by decide) ?_
      refine r_iload_n hC dX12_quarrels_257 rfl 2 rfl ?_
      refine r_imul hC dX12_quarrels_258 ?_
      refine r_iload_n hC dX12_quarrels_259 rfl 2 rfl ?_
      refine r_iadd hC dX12_quarrels_260 ?_
      refine r_nmI (fun v77 => ?_)
      refine r_gd (fun g78 => ?_)
      refine r_lald hC 19 256 rfl rfl g78 dX12_quarrels_261 ?_
      refine r_nmL (fun v79 => ?_)
      refine r_lconst (v := 0) hC dX12_quarrels_262 (by decide) ?_
      refine r_lcmp_ge hC 269 dX12_quarrels_263 dX12_quarrels_264 (by decide) (fun c80 => ?_) (fun c80 => ?_)
      · refine r_iinc (v := x73 + 1) (lv' := [(3, .int (x73 + 1)), (0, .ref (wA w 0)), (2, .int x38)]) hC dX12_quarrels_269 2 rfl rfl (by decide) rfl ?_
        refine r_goto hC 243 dX12_quarrels_272 (by decide) ?_
        exact r_lv [1, 2, 0] rfl (ih (x73 + 1))
      · refine r_iconst (v := 1) hC dX12_quarrels_267 (by decide) ?_
        exact r_iret hC hret rfl dX12_quarrels_268
set_option maxHeartbeats 4000000 in
set_option maxRecDepth 100000 in
theorem w_X12_quarrels_l128 {X : Mc} {w : Wd} (hC : Cok X w (Aw w (xs_ X).heap.size) yX12_quarrels.cls cX12_quarrels 5 1 25 shM rM 29) (hret : (xmeth X).sig.returnType = some .boolean) (σ13 : St)     : ∀ (n : Nat) (x38 : Int32) (σ39 : St), RF X w (Aw w (xs_ X).heap.size) 5 (QI X w) (f_X12_quarrels_l128 n x38 σ39) 128 [(0, .ref (wA w 0)), (2, .int x38)] [] σ39 := by
  intro n
  induction n with
  | zero => intro x38 σ39; rw [f_X12_quarrels_l128]; exact r_none
  | succ n ih =>
    intro x38 σ39
    rw [f_X12_quarrels_l128]
    refine r_iload_n hC dX12_quarrels_128 rfl 1 rfl ?_
    refine r_aload_n hC dX12_quarrels_129 rfl 0 rfl ?_
    refine r_getI hC clX12 0 11 rfl rfl (hC.n rfl) rfl lf_X12_122 dX12_quarrels_130 ?_
    refine r_nmI (fun v40 => ?_)
    refine r_icmp_ge hC 281 dX12_quarrels_133 (by decide) (fun c41 => ?_) (fun c41 => ?_)
    · refine r_iconst (v := 0) hC dX12_quarrels_281 (by decide) ?_
      exact r_iret hC hret rfl dX12_quarrels_282
    · refine r_iconst (v := 0) hC dX12_quarrels_136 (by decide) ?_
      refine r_istore_n (lv' := [(3, .int 0), (0, .ref (wA w 0)), (2, .int x38)]) hC dX12_quarrels_137 rfl (by decide) rfl ?_
      refine r_lv [1, 2, 0] rfl ?_
      refine w_X12_quarrels_l138 hC hret x38 σ39 _ ?_ FU 0 σ39
      · intro σ44
        refine r_iconst (v := 0) hC dX12_quarrels_241 (by decide) ?_
        refine r_istore_n (lv' := [(3, .int 0), (0, .ref (wA w 0)), (2, .int x38)]) hC dX12_quarrels_242 rfl (by decide) rfl ?_
        refine r_lv [1, 2, 0] rfl ?_
        refine w_X12_quarrels_l243 hC hret σ44 x38 _ ?_ FU 0
        · refine r_iinc (v := x38 + 1) (lv' := [(2, .int (x38 + 1)), (0, .ref (wA w 0))]) hC dX12_quarrels_275 1 rfl rfl (by decide) rfl ?_
          refine r_goto hC 128 dX12_quarrels_278 (by decide) ?_
          exact r_lv [1, 0] rfl (ih (x38 + 1) σ44)
set_option maxHeartbeats 4000000 in
set_option maxRecDepth 100000 in
theorem c_X12_quarrels {l : Launch} {w : Wd} (hW : HWd w shM rM 29) (σ : St) (a2 : Int32)  : ∀ res, f_X12_quarrels σ a2 = some res → MtI l yX12_quarrels cX12_quarrels 5 .boolean 1 25 w [.ref (wA w 0), .int a2] σ res := by
  refine mt_I (by decide) rfl hW (fun X hl0 hC hret => ?_)
  show RF X w (Aw w (xs_ X).heap.size) 5 (QI X w) (f_X12_quarrels σ a2) 0 [(0, .ref (wA w 0)), (1, .int a2)] [] σ
  unfold f_X12_quarrels
  refine r_iconst (v := 0) hC dX12_quarrels_0 (by decide) ?_
  refine r_istore_n (lv' := [(2, .int 0), (0, .ref (wA w 0)), (1, .int a2)]) hC dX12_quarrels_1 rfl (by decide) rfl ?_
  refine r_lv [1, 2, 0] rfl ?_
  refine w_X12_quarrels_l2 hC hret σ a2 _ ?_ FU 0 σ
  · intro σ3
    refine r_iconst (v := 0) hC dX12_quarrels_39 (by decide) ?_
    refine r_istore_n (lv' := [(2, .int 0), (0, .ref (wA w 0)), (1, .int a2)]) hC dX12_quarrels_40 rfl (by decide) rfl ?_
    refine r_lv [1, 2, 0] rfl ?_
    refine w_X12_quarrels_l41 hC hret a2 σ3 _ ?_ FU 0 σ3
    · intro σ13
      refine r_iconst (v := 0) hC dX12_quarrels_126 (by decide) ?_
      refine r_istore_n (lv' := [(2, .int 0), (0, .ref (wA w 0))]) hC dX12_quarrels_127 rfl (by decide) rfl ?_
      refine r_lv [1, 0] rfl ?_
      exact w_X12_quarrels_l128 hC hret σ13 FU 0 σ13
set_option maxHeartbeats 4000000 in
set_option maxRecDepth 100000 in
theorem c_X12_worth {l : Launch} {w : Wd} (hW : HWd w shM rM 29) (σ : St) (a2 : Int32) (a3 : Int32) (a4 : Int32) (a5 : Int32)  : ∀ res, f_X12_worth σ a2 a3 a4 a5 = some res → MtL l yX12_worth cX12_worth 5 .long 2 49 w [.ref (wA w 0), .int a2, .int a3, .int a4, .int a5] σ res := by
  refine mt_L (by decide) rfl hW (fun X hl0 hC hret => ?_)
  show RF X w (Aw w (xs_ X).heap.size) 5 (QL X w) (f_X12_worth σ a2 a3 a4 a5) 0 [(0, .ref (wA w 0)), (1, .int a2), (2, .int a3), (3, .int a4), (4, .int a5)] [] σ
  unfold f_X12_worth
  refine r_aload_n hC dX12_worth_0 rfl 0 rfl ?_
  refine r_iload_n hC dX12_worth_1 rfl 1 rfl ?_
  refine r_callVP hC (b := 0) (ci := 12) (st := []) [.int a2] rfl (hC.n rfl) rfl rfl (c_X12_isRower hC.w σ a2) yk_X12_isRower lm_X12_139 rfl ⟨rfl, rfl⟩ rfl dX12_worth_2 (fun v1 => ?_)
  refine r_if_eq hC 49 dX12_worth_5 (by decide) (fun c2 => ?_) (fun c2 => ?_)
  · refine r_ldc2 (v := (-4611686018427387904)) hC lc_X12_374 dX12_worth_49 ?_
    exact r_lret hC hret dX12_worth_52
  · refine r_aload_n hC dX12_worth_8 rfl 0 rfl ?_
    refine r_iload_n hC dX12_worth_9 rfl 2 rfl ?_
    refine r_callVP hC (b := 0) (ci := 12) (st := []) [.int a3] rfl (hC.n rfl) rfl rfl (c_X12_isRower hC.w σ a3) yk_X12_isRower lm_X12_139 rfl ⟨rfl, rfl⟩ rfl dX12_worth_10 (fun v3 => ?_)
    refine r_if_eq hC 49 dX12_worth_13 (by decide) (fun c4 => ?_) (fun c4 => ?_)
    · refine r_ldc2 (v := (-4611686018427387904)) hC lc_X12_374 dX12_worth_49 ?_
      exact r_lret hC hret dX12_worth_52
    · refine r_iload_n hC dX12_worth_16 rfl 1 rfl ?_
      refine r_iload_n hC dX12_worth_17 rfl 2 rfl ?_
      refine r_icmp_eq hC 49 dX12_worth_18 (by decide) (fun c5 => ?_) (fun c5 => ?_)
      · refine r_ldc2 (v := (-4611686018427387904)) hC lc_X12_374 dX12_worth_49 ?_
        exact r_lret hC hret dX12_worth_52
      · refine r_iload_n hC dX12_worth_21 rfl 3 rfl ?_
        refine r_i2l hC dX12_worth_22 ?_
        refine r_lconst (v := 0) hC dX12_worth_23 (by decide) ?_
        refine r_lconst (v := 1) hC dX12_worth_24 (by decide) ?_
        refine r_aload_n hC dX12_worth_25 rfl 0 rfl ?_
        refine r_getI hC clX12 0 46 rfl rfl (hC.n rfl) rfl lf_X12_396 dX12_worth_26 ?_
        refine r_nmI (fun v6 => ?_)
        refine r_lshl hC dX12_worth_29 ?_
        refine r_lconst (v := 1) hC dX12_worth_30 (by decide) ?_
        refine r_lsub hC dX12_worth_31 ?_
        refine r_callSP hC (st := []) [.long (Int32.toInt64 a4), .long 0, .long ((1 <<< ((Int32.toInt64 v6) &&& 63)) - 1)] (c_X12_in hC.w σ (Int32.toInt64 a4) 0 ((1 <<< ((Int32.toInt64 v6) &&& 63)) - 1)) yk_X12_in lm_X12_125 rfl ⟨rfl, rfl⟩ rfl dX12_worth_32 (fun v7 => ?_)
        refine r_if_eq hC 49 dX12_worth_35 (by decide) (fun c8 => ?_) (fun c8 => ?_)
        · refine r_ldc2 (v := (-4611686018427387904)) hC lc_X12_374 dX12_worth_49 ?_
          exact r_lret hC hret dX12_worth_52
        · refine r_iload hC dX12_worth_38 4 rfl ?_
          refine r_i2l hC dX12_worth_40 ?_
          refine r_lconst (v := 0) hC dX12_worth_41 (by decide) ?_
          refine r_lconst (v := 1) hC dX12_worth_42 (by decide) ?_
          refine r_callSP hC (st := []) [.long (Int32.toInt64 a5), .long 0, .long 1] (c_X12_in hC.w σ (Int32.toInt64 a5) 0 1) yk_X12_in lm_X12_125 rfl ⟨rfl, rfl⟩ rfl dX12_worth_43 (fun v9 => ?_)
          refine r_if_ne hC 53 dX12_worth_46 (by decide) (fun c10 => ?_) (fun c10 => ?_)
          · refine r_aload_n hC dX12_worth_53 rfl 0 rfl ?_
            refine r_iload_n hC dX12_worth_54 rfl 3 rfl ?_
            refine r_callVI hC (b := 0) (ci := 12) (st := []) [.int a4] rfl (hC.n rfl) rfl rfl (c_X12_quarrels hC.w σ a4) yk_X12_quarrels lm_X12_405 rfl ⟨rfl, rfl⟩ rfl dX12_worth_55 (fun v11 σ12 => ?_)
            refine r_if_eq hC 65 dX12_worth_58 (by decide) (fun c13 => ?_) (fun c13 => ?_)
            · refine r_iload hC dX12_worth_65 4 rfl ?_
              refine r_iconst (v := 1) hC dX12_worth_67 (by decide) ?_
              refine r_icmp_ne hC 85 dX12_worth_68 (by decide) (fun c14 => ?_) (fun c14 => ?_)
              · refine r_aload_n hC dX12_worth_85 rfl 0 rfl ?_
                refine r_getR hC clX12 0 47 19 rfl rfl rfl (hC.n rfl) rfl lf_X12_69 dX12_worth_86 ?_
                refine r_bipush (v := 16) hC dX12_worth_89 (by decide) ?_
                refine r_iload_n hC dX12_worth_91 rfl 2 rfl ?_
                refine r_imul hC dX12_worth_92 ?_
                refine r_iload_n hC dX12_worth_93 rfl 1 rfl ?_
                refine r_iadd hC dX12_worth_94 ?_
                refine r_nmI (fun v15 => ?_)
                refine r_gd (fun g16 => ?_)
                refine r_lald hC 19 256 rfl rfl g16 dX12_worth_95 ?_
                refine r_nmL (fun v17 => ?_)
                refine r_lneg hC dX12_worth_96 ?_
                exact r_lret hC hret dX12_worth_97
              · refine r_aload_n hC dX12_worth_71 rfl 0 rfl ?_
                refine r_getR hC clX12 0 47 19 rfl rfl rfl (hC.n rfl) rfl lf_X12_69 dX12_worth_72 ?_
                refine r_bipush (v := 16) hC dX12_worth_75 (by decide) ?_
                refine r_iload_n hC dX12_worth_77 rfl 1 rfl ?_
                refine r_imul hC dX12_worth_78 ?_
                refine r_iload_n hC dX12_worth_79 rfl 2 rfl ?_
                refine r_iadd hC dX12_worth_80 ?_
                refine r_nmI (fun v18 => ?_)
                refine r_gd (fun g19 => ?_)
                refine r_lald hC 19 256 rfl rfl g19 dX12_worth_81 ?_
                refine r_nmL (fun v20 => ?_)
                refine r_goto hC 97 dX12_worth_82 (by decide) ?_
                exact r_lret hC hret dX12_worth_97
            · refine r_ldc2 (v := (-3)) hC lc_X12_408 dX12_worth_61 ?_
              exact r_lret hC hret dX12_worth_64
          · refine r_ldc2 (v := (-4611686018427387904)) hC lc_X12_374 dX12_worth_49 ?_
            exact r_lret hC hret dX12_worth_52
set_option maxHeartbeats 4000000 in
set_option maxRecDepth 100000 in
theorem w_X12_go_l42 {X : Mc} {w : Wd} (hC : Cok X w (Aw w (xs_ X).heap.size) yX12_go.cls cX12_go 5 2 49 shM rM 29) (hret : (xmeth X).sig.returnType = some .int) (a2 : Int32) (σ : St)     : ∀ (n : Nat) (x6 : Int32) (x7 : Int32) (x8 : Int32) (σ9 : St), RF X w (Aw w (xs_ X).heap.size) 5 (QI X w) (f_X12_go_l42 a2 n x6 x7 x8 σ9) 42 [(0, .ref (wA w 0)), (1, .int a2), (2, .int x6), (3, .int x7), (4, .int x8)] [] σ9 := by
  intro n
  induction n with
  | zero => intro x6 x7 x8 σ9; rw [f_X12_go_l42]; exact r_none
  | succ n ih =>
    intro x6 x7 x8 σ9
    rw [f_X12_go_l42]
    refine r_iload hC dX12_go_42 4 rfl ?_
    refine r_if_eq hC 98 dX12_go_44 (by decide) (fun c10 => ?_) (fun c10 => ?_)
    · refine r_iload_n hC dX12_go_98 rfl 2 rfl ?_
      exact r_iret hC hret rfl dX12_go_99
    · refine r_iload_n hC dX12_go_47 rfl 2 rfl ?_
      refine r_iconst (v := (-1)) hC dX12_go_48 (by decide) ?_
      refine r_jn (T := fun (j13 : Int32 → St → Option (Int32 × St)) => ∀ (x11 : Int32) (σ12 : St), RF X w (Aw w (xs_ X).heap.size) 5 (QI X w) (j13 x11 σ12) 77 [(0, .ref (wA w 0)), (1, .int a2), (2, .int x11), (3, .int x7)] [] σ12) ?_ (fun j13 hj13 => ?_)
      · intro x11 σ12
        refine r_iload_n hC dX12_go_77 rfl 3 rfl ?_
        refine r_iload_n hC dX12_go_78 rfl 1 rfl ?_
        refine r_jn (T := fun (j15 : Int32 → Option (Int32 × St)) => ∀ (t14 : Int32), RF X w (Aw w (xs_ X).heap.size) 5 (QI X w) (j15 t14) 87 [(0, .ref (wA w 0)), (1, .int a2), (2, .int x11), (3, .int x7)] [.int t14] σ12) ?_ (fun j15 hj15 => ?_)
        · intro t14
          refine r_istore (lv' := [(4, .int t14), (0, .ref (wA w 0)), (1, .int a2), (2, .int x11), (3, .int x7)]) hC dX12_go_87 (by decide) rfl ?_
          refine r_iload_n hC dX12_go_89 rfl 4 rfl ?_
          refine r_iload_n hC dX12_go_90 rfl 2 rfl ?_
          refine r_isub hC dX12_go_91 ?_
          refine r_iload_n hC dX12_go_92 rfl 2 rfl ?_
          refine r_iand hC dX12_go_93 ?_
          refine r_nmI (fun v16 => ?_)
          refine r_istore_n (lv' := [(3, .int v16), (4, .int t14), (0, .ref (wA w 0)), (1, .int a2), (2, .int x11)]) hC dX12_go_94 rfl (by decide) rfl ?_
          refine r_goto hC 42 dX12_go_95 (by decide) ?_
          exact r_lv [2, 3, 4, 0, 1] rfl (ih x11 v16 t14 σ12)
        · refine r_icmp_eq hC 86 dX12_go_79 (by decide) (fun c17 => ?_) (fun c17 => ?_)
          · refine r_iconst (v := 0) hC dX12_go_86 (by decide) ?_
            exact r_lv [0, 1, 2, 3] rfl (hj15 0)
          · refine r_iconst (v := 1) hC dX12_go_82 (by decide) ?_
            refine r_goto hC 87 dX12_go_83 (by decide) ?_
            exact r_lv [0, 1, 2, 3] rfl (hj15 1)
      · refine r_jn (T := fun (j18 : Option (Int32 × St)) => RF X w (Aw w (xs_ X).heap.size) 5 (QI X w) j18 63 [(0, .ref (wA w 0)), (1, .int a2), (2, .int x6), (3, .int x7)] [] σ9) ?_ (fun j18 hj18 => ?_)
        · refine r_aload_n hC dX12_go_63 rfl 0 rfl ?_
          refine r_iload_n hC dX12_go_64 rfl 1 rfl ?_
          refine r_iload_n hC dX12_go_65 rfl 3 rfl ?_
          refine r_iconst (v := (-1)) hC dX12_go_66 (by decide) ?_
          refine r_ixor hC dX12_go_67 ?_
          refine r_iand hC dX12_go_68 ?_
          refine r_callVI hC (b := 0) (ci := 12) (st := []) [.int (a2 &&& (x7 ^^^ (-1)))] rfl (hC.n rfl) rfl rfl (c_X12_quarrels hC.w σ9 (a2 &&& (x7 ^^^ (-1)))) yk_X12_quarrels lm_X12_405 rfl ⟨rfl, rfl⟩ rfl dX12_go_69 (fun v19 σ20 => ?_)
          refine r_if_ne hC 77 dX12_go_72 (by decide) (fun c21 => ?_) (fun c21 => ?_)
          · exact r_lv [0, 1, 2, 3] rfl (hj13 x6 σ20)
          · refine r_iload_n hC dX12_go_75 rfl 3 rfl ?_
            refine r_istore_n (lv' := [(2, .int x7), (0, .ref (wA w 0)), (1, .int a2), (3, .int x7)]) hC dX12_go_76 rfl (by decide) rfl ?_
            exact r_lv [1, 2, 0, 3] rfl (hj13 x7 σ20)
        · refine r_icmp_eq hC 63 dX12_go_49 (by decide) (fun c22 => ?_) (fun c22 => ?_)
          · exact r_lv [0, 1, 2, 3] rfl hj18
          · refine r_iload_n hC dX12_go_52 rfl 3 rfl ?_
            refine r_callSP hC (st := []) [.int x7] (c_X12_bitsOf hC.w σ9 x7) yk_X12_bitsOf lm_X12_391 rfl ⟨rfl, rfl⟩ rfl dX12_go_53 (fun v23 => ?_)
            refine r_iload_n hC dX12_go_56 rfl 2 rfl ?_
            refine r_callSP hC (st := [.int v23]) [.int x6] (c_X12_bitsOf hC.w σ9 x6) yk_X12_bitsOf lm_X12_391 rfl ⟨rfl, rfl⟩ rfl dX12_go_57 (fun v24 => ?_)
            refine r_icmp_ge hC 77 dX12_go_60 (by decide) (fun c25 => ?_) (fun c25 => ?_)
            · exact r_lv [0, 1, 2, 3] rfl (hj13 x6 σ9)
            · exact r_lv [0, 1, 2, 3] rfl hj18
set_option maxHeartbeats 4000000 in
set_option maxRecDepth 100000 in
theorem c_X12_go {l : Launch} {w : Wd} (hW : HWd w shM rM 29) (σ : St) (a2 : Int32)  : ∀ res, f_X12_go σ a2 = some res → MtI l yX12_go cX12_go 5 .int 2 49 w [.ref (wA w 0), .int a2] σ res := by
  refine mt_I (by decide) rfl hW (fun X hl0 hC hret => ?_)
  show RF X w (Aw w (xs_ X).heap.size) 5 (QI X w) (f_X12_go σ a2) 0 [(0, .ref (wA w 0)), (1, .int a2)] [] σ
  unfold f_X12_go
  refine r_iload_n hC dX12_go_0 rfl 1 rfl ?_
  refine r_i2l hC dX12_go_1 ?_
  refine r_lconst (v := 0) hC dX12_go_2 (by decide) ?_
  refine r_iconst (v := 1) hC dX12_go_3 (by decide) ?_
  refine r_aload_n hC dX12_go_4 rfl 0 rfl ?_
  refine r_getI hC clX12 0 46 rfl rfl (hC.n rfl) rfl lf_X12_396 dX12_go_5 ?_
  refine r_nmI (fun v1 => ?_)
  refine r_bipush (v := 12) hC dX12_go_8 (by decide) ?_
  refine r_jn (T := fun (j3 : Int32 → Option (Int32 × St)) => ∀ (t2 : Int32), RF X w (Aw w (xs_ X).heap.size) 5 (QI X w) (j3 t2) 22 [(0, .ref (wA w 0)), (1, .int a2)] [.int t2, .int 1, .long 0, .long (Int32.toInt64 a2)] σ) ?_ (fun j3 hj3 => ?_)
  · intro t2
    refine r_ishl hC dX12_go_22 ?_
    refine r_iconst (v := 1) hC dX12_go_23 (by decide) ?_
    refine r_isub hC dX12_go_24 ?_
    refine r_i2l hC dX12_go_25 ?_
    refine r_callSP hC (st := []) [.long (Int32.toInt64 a2), .long 0, .long (Int32.toInt64 ((1 <<< (t2 &&& 31)) - 1))] (c_X12_in hC.w σ (Int32.toInt64 a2) 0 (Int32.toInt64 ((1 <<< (t2 &&& 31)) - 1))) yk_X12_in lm_X12_125 rfl ⟨rfl, rfl⟩ rfl dX12_go_26 (fun v4 => ?_)
    refine r_if_ne hC 35 dX12_go_29 (by decide) (fun c5 => ?_) (fun c5 => ?_)
    · refine r_iconst (v := (-1)) hC dX12_go_35 (by decide) ?_
      refine r_istore_n (lv' := [(2, .int (-1)), (0, .ref (wA w 0)), (1, .int a2)]) hC dX12_go_36 rfl (by decide) rfl ?_
      refine r_iconst (v := 0) hC dX12_go_37 (by decide) ?_
      refine r_istore_n (lv' := [(3, .int 0), (2, .int (-1)), (0, .ref (wA w 0)), (1, .int a2)]) hC dX12_go_38 rfl (by decide) rfl ?_
      refine r_iconst (v := 1) hC dX12_go_39 (by decide) ?_
      refine r_istore (lv' := [(4, .int 1), (3, .int 0), (2, .int (-1)), (0, .ref (wA w 0)), (1, .int a2)]) hC dX12_go_40 (by decide) rfl ?_
      refine r_lv [3, 4, 2, 1, 0] rfl ?_
      exact w_X12_go_l42 hC hret a2 σ FU (-1) 0 1 σ
    · refine r_bipush (v := (-2)) hC dX12_go_32 (by decide) ?_
      exact r_iret hC hret rfl dX12_go_34
  · refine r_icmp_ge hC 20 dX12_go_10 (by decide) (fun c26 => ?_) (fun c26 => ?_)
    · refine r_bipush (v := 12) hC dX12_go_20 (by decide) ?_
      exact r_lv [0, 1] rfl (hj3 12)
    · refine r_aload_n hC dX12_go_13 rfl 0 rfl ?_
      refine r_getI hC clX12 0 46 rfl rfl (hC.n rfl) rfl lf_X12_396 dX12_go_14 ?_
      refine r_nmI (fun v27 => ?_)
      refine r_goto hC 22 dX12_go_17 (by decide) ?_
      exact r_lv [0, 1] rfl (hj3 v27)
set_option maxHeartbeats 4000000 in
set_option maxRecDepth 100000 in
theorem c_X12_isSheet {l : Launch} {w : Wd} (hW : HWd w shM rM 29) (σ : St) (a1 : Int32)  : ∀ res, f_X12_isSheet a1 = some res → MtI l yX12_isSheet cX12_isSheet 1 .boolean 1 25 w [.int a1] σ (res, σ) := by
  refine mt_P (by decide) rfl hW (fun X hl0 hC hret => ?_)
  show RF X w (Aw w (xs_ X).heap.size) 1 (fun r => QI X w (r, σ)) (f_X12_isSheet a1) 0 [(0, .int a1)] [] σ
  unfold f_X12_isSheet
  refine r_iload_n hC dX12_isSheet_0 rfl 0 rfl ?_
  refine r_i2l hC dX12_isSheet_1 ?_
  refine r_lconst (v := 0) hC dX12_isSheet_2 (by decide) ?_
  refine r_ldc2 (v := 3) hC lc_X12_445 dX12_isSheet_3 ?_
  refine r_callSP hC (st := []) [.long (Int32.toInt64 a1), .long 0, .long 3] (c_X12_in hC.w σ (Int32.toInt64 a1) 0 3) yk_X12_in lm_X12_125 rfl ⟨rfl, rfl⟩ rfl dX12_isSheet_6 (fun v1 => ?_)
  refine r_gd (fun g2 => ?_)
  exact r_iretP hC hret (by rcases g2 with h9 | h9 <;> rw [h9] <;> rfl) dX12_isSheet_9
set_option maxHeartbeats 4000000 in
set_option maxRecDepth 100000 in
theorem w_X12_race_l38 {X : Mc} {w : Wd} (hC : Cok X w (Aw w (xs_ X).heap.size) yX12_race.cls cX12_race 3 2 45 shM rM 29) (hret : (xmeth X).sig.returnType = some .int) (σ : St) (a2 : Int32)   (K10 : Option (Int32 × St)) (hK10 : RF X w (Aw w (xs_ X).heap.size) 3 (QI X w) K10 75 [(0, .ref (wA w 0)), (1, .int a2)] [] σ) : ∀ (n : Nat) (x9 : Int32), RF X w (Aw w (xs_ X).heap.size) 3 (QI X w) (f_X12_race_l38 σ a2 K10 n x9) 38 [(0, .ref (wA w 0)), (1, .int a2), (2, .int x9)] [] σ := by
  intro n
  induction n with
  | zero => intro x9; rw [f_X12_race_l38]; exact r_none
  | succ n ih =>
    intro x9
    rw [f_X12_race_l38]
    refine r_iload_n hC dX12_race_38 rfl 2 rfl ?_
    refine r_bipush (v := 6) hC dX12_race_39 (by decide) ?_
    refine r_icmp_ge hC 75 dX12_race_41 (by decide) (fun c11 => ?_) (fun c11 => ?_)
    · exact r_lv [0, 1] rfl hK10
    · refine r_aload_n hC dX12_race_44 rfl 0 rfl ?_
      refine r_getR hC clX12 0 62 28 rfl rfl rfl (hC.n rfl) rfl lf_X12_97 dX12_race_45 ?_
      refine r_bipush (v := 40) hC dX12_race_48 (by decide) ?_
      refine r_iload_n hC dX12_race_50 rfl 1 rfl ?_
      refine r_imul hC dX12_race_51 ?_
      refine r_iload_n hC dX12_race_52 rfl 2 rfl ?_
      refine r_iadd hC dX12_race_53 ?_
      refine r_nmI (fun v12 => ?_)
      refine r_gd (fun g13 => ?_)
      refine r_iald hC 28 160 rfl rfl g13 dX12_race_54 ?_
      refine r_nmI (fun v14 => ?_)
      refine r_i2l hC dX12_race_55 ?_
      refine r_lconst (v := 0) hC dX12_race_56 (by decide) ?_
      refine r_ldc2 (v := 9999) hC lc_X12_137 dX12_race_57 ?_
      refine r_callSP hC (st := []) [.long (Int32.toInt64 v14), .long 0, .long 9999] (c_X12_in hC.w σ (Int32.toInt64 v14) 0 9999) yk_X12_in lm_X12_125 rfl ⟨rfl, rfl⟩ rfl dX12_race_60 (fun v15 => ?_)
      refine r_if_ne hC 69 dX12_race_63 (by decide) (fun c16 => ?_) (fun c16 => ?_)
      · refine r_iinc (v := x9 + 1) (lv' := [(2, .int (x9 + 1)), (0, .ref (wA w 0)), (1, .int a2)]) hC dX12_race_69 2 rfl rfl (by decide) rfl ?_
        refine r_goto hC 38 dX12_race_72 (by decide) ?_
        exact r_lv [1, 2, 0] rfl (ih (x9 + 1))
      · refine r_bipush (v := (-2)) hC dX12_race_66 (by decide) ?_
        exact r_iret hC hret rfl dX12_race_68
set_option maxHeartbeats 4000000 in
set_option maxRecDepth 100000 in
theorem w_X12_race_l89 {X : Mc} {w : Wd} (hC : Cok X w (Aw w (xs_ X).heap.size) yX12_race.cls cX12_race 3 2 45 shM rM 29) (hret : (xmeth X).sig.returnType = some .int) (a2 : Int32) (σ : St)   (K22 : St → Option (Int32 × St)) (hK22 : ∀ (σ21 : St), RF X w (Aw w (xs_ X).heap.size) 3 (QI X w) (K22 σ21) 126 [(0, .ref (wA w 0))] [] σ21) : ∀ (n : Nat) (x19 : Int32) (σ20 : St), RF X w (Aw w (xs_ X).heap.size) 3 (QI X w) (f_X12_race_l89 a2 K22 n x19 σ20) 89 [(0, .ref (wA w 0)), (1, .int a2), (2, .int x19)] [] σ20 := by
  intro n
  induction n with
  | zero => intro x19 σ20; rw [f_X12_race_l89]; exact r_none
  | succ n ih =>
    intro x19 σ20
    rw [f_X12_race_l89]
    refine r_iload_n hC dX12_race_89 rfl 2 rfl ?_
    refine r_bipush (v := 6) hC dX12_race_90 (by decide) ?_
    refine r_icmp_ge hC 126 dX12_race_92 (by decide) (fun c23 => ?_) (fun c23 => ?_)
    · exact r_lv [0] rfl (hK22 σ20)
    · refine r_aload_n hC dX12_race_95 rfl 0 rfl ?_
      refine r_getR hC clX12 0 48 20 rfl rfl rfl (hC.n rfl) rfl lf_X12_72 dX12_race_96 ?_
      refine r_bipush (v := 6) hC dX12_race_99 (by decide) ?_
      refine r_aload_n hC dX12_race_101 rfl 0 rfl ?_
      refine r_getI hC clX12 0 49 rfl rfl (hC.n rfl) rfl lf_X12_413 dX12_race_102 ?_
      refine r_nmI (fun v24 => ?_)
      refine r_imul hC dX12_race_105 ?_
      refine r_iload_n hC dX12_race_106 rfl 2 rfl ?_
      refine r_iadd hC dX12_race_107 ?_
      refine r_aload_n hC dX12_race_108 rfl 0 rfl ?_
      refine r_getR hC clX12 0 62 28 rfl rfl rfl (hC.n rfl) rfl lf_X12_97 dX12_race_109 ?_
      refine r_bipush (v := 40) hC dX12_race_112 (by decide) ?_
      refine r_iload_n hC dX12_race_114 rfl 1 rfl ?_
      refine r_imul hC dX12_race_115 ?_
      refine r_iload_n hC dX12_race_116 rfl 2 rfl ?_
      refine r_iadd hC dX12_race_117 ?_
      refine r_nmI (fun v25 => ?_)
      refine r_gd (fun g26 => ?_)
      refine r_iald hC 28 160 rfl rfl g26 dX12_race_118 ?_
      refine r_nmI (fun v27 => ?_)
      refine r_gd (fun g28 => ?_)
      refine r_iast hC 20 120 rfl rfl g28 dX12_race_119 ?_
      refine r_nmS (fun σ29 => ?_)
      refine r_iinc (v := x19 + 1) (lv' := [(2, .int (x19 + 1)), (0, .ref (wA w 0)), (1, .int a2)]) hC dX12_race_120 2 rfl rfl (by decide) rfl ?_
      refine r_goto hC 89 dX12_race_123 (by decide) ?_
      exact r_lv [1, 2, 0] rfl (ih (x19 + 1) σ29)
set_option maxHeartbeats 4000000 in
set_option maxRecDepth 100000 in
theorem c_X12_race {l : Launch} {w : Wd} (hW : HWd w shM rM 29) (σ : St) (a2 : Int32)  : ∀ res, f_X12_race σ a2 = some res → MtI l yX12_race cX12_race 3 .int 2 45 w [.ref (wA w 0), .int a2] σ res := by
  refine mt_I (by decide) rfl hW (fun X hl0 hC hret => ?_)
  show RF X w (Aw w (xs_ X).heap.size) 3 (QI X w) (f_X12_race σ a2) 0 [(0, .ref (wA w 0)), (1, .int a2)] [] σ
  unfold f_X12_race
  refine r_iload_n hC dX12_race_0 rfl 1 rfl ?_
  refine r_callSP hC (st := []) [.int a2] (c_X12_isSheet hC.w σ a2) yk_X12_isSheet lm_X12_410 rfl ⟨rfl, rfl⟩ rfl dX12_race_1 (fun v1 => ?_)
  refine r_if_ne hC 10 dX12_race_4 (by decide) (fun c2 => ?_) (fun c2 => ?_)
  · refine r_aload_n hC dX12_race_10 rfl 0 rfl ?_
    refine r_getR hC clX12 0 59 25 rfl rfl rfl (hC.n rfl) rfl lf_X12_87 dX12_race_11 ?_
    refine r_iload_n hC dX12_race_14 rfl 1 rfl ?_
    refine r_gd (fun g3 => ?_)
    refine r_zald hC 25 4 rfl rfl g3 dX12_race_15 ?_
    refine r_nmI (fun v4 => ?_)
    refine r_if_ne hC 22 dX12_race_16 (by decide) (fun c5 => ?_) (fun c5 => ?_)
    · refine r_aload_n hC dX12_race_22 rfl 0 rfl ?_
      refine r_getR hC clX12 0 61 27 rfl rfl rfl (hC.n rfl) rfl lf_X12_94 dX12_race_23 ?_
      refine r_iload_n hC dX12_race_26 rfl 1 rfl ?_
      refine r_gd (fun g6 => ?_)
      refine r_iald hC 27 4 rfl rfl g6 dX12_race_27 ?_
      refine r_nmI (fun v7 => ?_)
      refine r_bipush (v := 6) hC dX12_race_28 (by decide) ?_
      refine r_icmp_eq hC 36 dX12_race_30 (by decide) (fun c8 => ?_) (fun c8 => ?_)
      · refine r_iconst (v := 0) hC dX12_race_36 (by decide) ?_
        refine r_istore_n (lv' := [(2, .int 0), (0, .ref (wA w 0)), (1, .int a2)]) hC dX12_race_37 rfl (by decide) rfl ?_
        refine r_lv [1, 2, 0] rfl ?_
        refine w_X12_race_l38 hC hret σ a2 _ ?_ FU 0
        · refine r_aload_n hC dX12_race_75 rfl 0 rfl ?_
          refine r_getI hC clX12 0 49 rfl rfl (hC.n rfl) rfl lf_X12_413 dX12_race_76 ?_
          refine r_nmI (fun v17 => ?_)
          refine r_bipush (v := 20) hC dX12_race_79 (by decide) ?_
          refine r_icmp_ne hC 87 dX12_race_81 (by decide) (fun c18 => ?_) (fun c18 => ?_)
          · refine r_iconst (v := 0) hC dX12_race_87 (by decide) ?_
            refine r_istore_n (lv' := [(2, .int 0), (0, .ref (wA w 0)), (1, .int a2)]) hC dX12_race_88 rfl (by decide) rfl ?_
            refine r_lv [1, 2, 0] rfl ?_
            refine w_X12_race_l89 hC hret a2 σ _ ?_ FU 0 σ
            · intro σ21
              refine r_aload_n hC dX12_race_126 rfl 0 rfl ?_
              refine r_dup hC dX12_race_127 rfl ?_
              refine r_getI hC clX12 0 49 rfl rfl (hC.n rfl) rfl lf_X12_413 dX12_race_128 ?_
              refine r_nmI (fun v30 => ?_)
              refine r_iconst (v := 1) hC dX12_race_131 (by decide) ?_
              refine r_iadd hC dX12_race_132 ?_
              refine r_putI hC clX12 0 49 rfl rfl rfl (hC.n rfl) rfl rfl lf_X12_413 dX12_race_133 ?_
              refine r_nmS (fun σ31 => ?_)
              refine r_aload_n hC dX12_race_136 rfl 0 rfl ?_
              refine r_getI hC clX12 0 49 rfl rfl (hC.n rfl) rfl lf_X12_413 dX12_race_137 ?_
              refine r_nmI (fun v32 => ?_)
              refine r_iconst (v := 1) hC dX12_race_140 (by decide) ?_
              refine r_isub hC dX12_race_141 ?_
              exact r_iret hC hret rfl dX12_race_142
          · refine r_bipush (v := (-4)) hC dX12_race_84 (by decide) ?_
            exact r_iret hC hret rfl dX12_race_86
      · refine r_bipush (v := (-2)) hC dX12_race_33 (by decide) ?_
        exact r_iret hC hret rfl dX12_race_35
    · refine r_bipush (v := (-11)) hC dX12_race_19 (by decide) ?_
      exact r_iret hC hret rfl dX12_race_21
  · refine r_bipush (v := (-2)) hC dX12_race_7 (by decide) ?_
    exact r_iret hC hret rfl dX12_race_9
set_option maxHeartbeats 4000000 in
set_option maxRecDepth 100000 in
theorem c_X12_isLane {l : Launch} {w : Wd} (hW : HWd w shM rM 29) (σ : St) (a1 : Int32)  : ∀ res, f_X12_isLane a1 = some res → MtI l yX12_isLane cX12_isLane 1 .boolean 1 25 w [.int a1] σ (res, σ) := by
  refine mt_P (by decide) rfl hW (fun X hl0 hC hret => ?_)
  show RF X w (Aw w (xs_ X).heap.size) 1 (fun r => QI X w (r, σ)) (f_X12_isLane a1) 0 [(0, .int a1)] [] σ
  unfold f_X12_isLane
  refine r_iload_n hC dX12_isLane_0 rfl 0 rfl ?_
  refine r_i2l hC dX12_isLane_1 ?_
  refine r_lconst (v := 0) hC dX12_isLane_2 (by decide) ?_
  refine r_ldc2 (v := 5) hC lc_X12_159 dX12_isLane_3 ?_
  refine r_callSP hC (st := []) [.long (Int32.toInt64 a1), .long 0, .long 5] (c_X12_in hC.w σ (Int32.toInt64 a1) 0 5) yk_X12_in lm_X12_125 rfl ⟨rfl, rfl⟩ rfl dX12_isLane_6 (fun v1 => ?_)
  refine r_gd (fun g2 => ?_)
  exact r_iretP hC hret (by rcases g2 with h9 | h9 <;> rw [h9] <;> rfl) dX12_isLane_9
set_option maxHeartbeats 4000000 in
set_option maxRecDepth 100000 in
theorem w_X12_common_l17 {X : Mc} {w : Wd} (hC : Cok X w (Aw w (xs_ X).heap.size) yX12_common.cls cX12_common 10 0 0 shM rM 29) (hret : (xmeth X).sig.returnType = some .long) (σ : St)     : ∀ (n : Nat) (x3 : Int64) (x4 : Int64), RF X w (Aw w (xs_ X).heap.size) 10 (fun r => QL X w (r, σ)) (f_X12_common_l17 n x3 x4) 17 [(4, .long x3), (6, .long x4)] [] σ := by
  intro n
  induction n with
  | zero => intro x3 x4; rw [f_X12_common_l17]; exact r_none
  | succ n ih =>
    intro x3 x4
    rw [f_X12_common_l17]
    refine r_lload hC dX12_common_17 1 rfl ?_
    refine r_lconst (v := 0) hC dX12_common_19 (by decide) ?_
    refine r_lcmp_eq hC 42 dX12_common_20 dX12_common_21 (by decide) (fun c5 => ?_) (fun c5 => ?_)
    · refine r_lload hC dX12_common_42 0 rfl ?_
      exact r_lretP hC hret dX12_common_44
    · refine r_lload hC dX12_common_24 0 rfl ?_
      refine r_lload hC dX12_common_26 1 rfl ?_
      refine r_gd (fun g6 => ?_)
      refine r_lrem hC dX12_common_28 g6 ?_
      refine r_nmL (fun v7 => ?_)
      refine r_lstore (lv' := [(8, .long v7), (4, .long x3), (6, .long x4)]) hC dX12_common_29 (by decide) rfl ?_
      refine r_lload hC dX12_common_31 2 rfl ?_
      refine r_lstore (lv' := [(4, .long x4), (8, .long v7), (6, .long x4)]) hC dX12_common_33 (by decide) rfl ?_
      refine r_lload hC dX12_common_35 1 rfl ?_
      refine r_lstore (lv' := [(6, .long v7), (4, .long x4), (8, .long v7)]) hC dX12_common_37 (by decide) rfl ?_
      refine r_goto hC 17 dX12_common_39 (by decide) ?_
      exact r_lv [1, 0] rfl (ih x4 v7)
set_option maxHeartbeats 4000000 in
set_option maxRecDepth 100000 in
theorem c_X12_common {l : Launch} {w : Wd} (hW : HWd w shM rM 29) (σ : St) (a1 : Int64) (a2 : Int64)  : ∀ res, f_X12_common a1 a2 = some res → MtL l yX12_common cX12_common 10 .long 0 0 w [.long a1, .long a2] σ (res, σ) := by
  refine mt_PL (by decide) rfl hW (fun X hl0 hC hret => ?_)
  show RF X w (Aw w (xs_ X).heap.size) 10 (fun r => QL X w (r, σ)) (f_X12_common a1 a2) 0 [(0, .long a1), (2, .long a2)] [] σ
  unfold f_X12_common
  refine r_lload_n hC dX12_common_0 rfl 0 rfl ?_
  refine r_lconst (v := 0) hC dX12_common_1 (by decide) ?_
  refine r_jn (T := fun (j2 : Int64 → Option Int64) => ∀ (t1 : Int64), RF X w (Aw w (xs_ X).heap.size) 10 (fun r => QL X w (r, σ)) (j2 t1) 12 [(2, .long a2)] [.long t1] σ) ?_ (fun j2 hj2 => ?_)
  · intro t1
    refine r_lstore (lv' := [(4, .long t1), (2, .long a2)]) hC dX12_common_12 (by decide) rfl ?_
    refine r_lload_n hC dX12_common_14 rfl 1 rfl ?_
    refine r_lstore (lv' := [(6, .long a2), (4, .long t1), (2, .long a2)]) hC dX12_common_15 (by decide) rfl ?_
    refine r_lv [1, 0] rfl ?_
    exact w_X12_common_l17 hC hret σ FU t1 a2
  · refine r_lcmp_ge hC 11 dX12_common_2 dX12_common_3 (by decide) (fun c8 => ?_) (fun c8 => ?_)
    · refine r_lload_n hC dX12_common_11 rfl 0 rfl ?_
      exact r_lv [1] rfl (hj2 a1)
    · refine r_lload_n hC dX12_common_6 rfl 0 rfl ?_
      refine r_lneg hC dX12_common_7 ?_
      refine r_goto hC 12 dX12_common_8 (by decide) ?_
      exact r_lv [1] rfl (hj2 (-a1))
set_option maxHeartbeats 4000000 in
set_option maxRecDepth 100000 in
theorem w_X12_lanes_l42 {X : Mc} {w : Wd} (hC : Cok X w (Aw w (xs_ X).heap.size) yX12_lanes.cls cX12_lanes 11 2 45 shM rM 29) (hret : (xmeth X).sig.returnType = some .long) (σ : St) (a2 : Int32) (a3 : Int32) (a4 : Int32)   (K13 : Int64 → Int64 → Option Int64) (hK13 : ∀ (x11 : Int64) (x12 : Int64), RF X w (Aw w (xs_ X).heap.size) 11 (fun r => QL X w (r, σ)) (K13 x11 x12) 115 [(3, .int a4), (4, .long x11), (6, .long x12)] [] σ) : ∀ (n : Nat) (x8 : Int64) (x9 : Int64) (x10 : Int32), RF X w (Aw w (xs_ X).heap.size) 11 (fun r => QL X w (r, σ)) (f_X12_lanes_l42 σ a2 a3 K13 n x8 x9 x10) 42 [(0, .ref (wA w 0)), (1, .int a2), (2, .int a3), (3, .int a4), (4, .long x8), (6, .long x9), (8, .int x10)] [] σ := by
  intro n
  induction n with
  | zero => intro x8 x9 x10; rw [f_X12_lanes_l42]; exact r_none
  | succ n ih =>
    intro x8 x9 x10
    rw [f_X12_lanes_l42]
    refine r_iload hC dX12_lanes_42 6 rfl ?_
    refine r_aload_n hC dX12_lanes_44 rfl 0 rfl ?_
    refine r_getI hC clX12 0 49 rfl rfl (hC.n rfl) rfl lf_X12_413 dX12_lanes_45 ?_
    refine r_nmI (fun v14 => ?_)
    refine r_icmp_ge hC 115 dX12_lanes_48 (by decide) (fun c15 => ?_) (fun c15 => ?_)
    · exact r_lv [3, 4, 5] rfl (hK13 x8 x9)
    · refine r_aload_n hC dX12_lanes_51 rfl 0 rfl ?_
      refine r_getR hC clX12 0 48 20 rfl rfl rfl (hC.n rfl) rfl lf_X12_72 dX12_lanes_52 ?_
      refine r_bipush (v := 6) hC dX12_lanes_55 (by decide) ?_
      refine r_iload hC dX12_lanes_57 6 rfl ?_
      refine r_imul hC dX12_lanes_59 ?_
      refine r_iload_n hC dX12_lanes_60 rfl 1 rfl ?_
      refine r_iadd hC dX12_lanes_61 ?_
      refine r_nmI (fun v16 => ?_)
      refine r_gd (fun g17 => ?_)
      refine r_iald hC 20 120 rfl rfl g17 dX12_lanes_62 ?_
      refine r_nmI (fun v18 => ?_)
      refine r_istore (lv' := [(9, .int v18), (0, .ref (wA w 0)), (1, .int a2), (2, .int a3), (3, .int a4), (4, .long x8), (6, .long x9), (8, .int x10)]) hC dX12_lanes_63 (by decide) rfl ?_
      refine r_aload_n hC dX12_lanes_65 rfl 1 rfl ?_
      refine r_getR hC clX12 0 48 20 rfl rfl rfl (hC.n rfl) rfl lf_X12_72 dX12_lanes_66 ?_
      refine r_bipush (v := 6) hC dX12_lanes_69 (by decide) ?_
      refine r_iload hC dX12_lanes_71 7 rfl ?_
      refine r_imul hC dX12_lanes_73 ?_
      refine r_iload_n hC dX12_lanes_74 rfl 3 rfl ?_
      refine r_iadd hC dX12_lanes_75 ?_
      refine r_nmI (fun v19 => ?_)
      refine r_gd (fun g20 => ?_)
      refine r_iald hC 20 120 rfl rfl g20 dX12_lanes_76 ?_
      refine r_nmI (fun v21 => ?_)
      refine r_istore (lv' := [(10, .int v21), (9, .int v18), (0, .ref (wA w 0)), (1, .int a2), (2, .int a3), (3, .int a4), (4, .long x8), (6, .long x9), (8, .int x10)]) hC dX12_lanes_77 (by decide) rfl ?_
      refine r_iload hC dX12_lanes_79 1 rfl ?_
      refine r_jn (T := fun (j24 : Int64 → Int64 → Option Int64) => ∀ (x22 : Int64) (x23 : Int64), RF X w (Aw w (xs_ X).heap.size) 11 (fun r => QL X w (r, σ)) (j24 x22 x23) 109 [(0, .ref (wA w 0)), (1, .int a2), (2, .int a3), (3, .int a4), (4, .long x22), (6, .long x23), (8, .int x10)] [] σ) ?_ (fun j24 hj24 => ?_)
      · intro x22 x23
        refine r_iinc (v := x10 + 1) (lv' := [(8, .int (x10 + 1)), (0, .ref (wA w 0)), (1, .int a2), (2, .int a3), (3, .int a4), (4, .long x22), (6, .long x23)]) hC dX12_lanes_109 6 rfl rfl (by decide) rfl ?_
        refine r_goto hC 42 dX12_lanes_112 (by decide) ?_
        exact r_lv [1, 2, 3, 4, 5, 6, 0] rfl (ih x22 x23 (x10 + 1))
      · refine r_if_eq hC 109 dX12_lanes_81 (by decide) (fun c25 => ?_) (fun c25 => ?_)
        · exact r_lv [2, 3, 4, 5, 6, 7, 8] rfl (hj24 x8 x9)
        · refine r_iload hC dX12_lanes_84 0 rfl ?_
          refine r_if_ne hC 92 dX12_lanes_86 (by decide) (fun c26 => ?_) (fun c26 => ?_)
          · refine r_lload hC dX12_lanes_92 6 rfl ?_
            refine r_iload hC dX12_lanes_94 1 rfl ?_
            refine r_iload hC dX12_lanes_96 0 rfl ?_
            refine r_isub hC dX12_lanes_98 ?_
            refine r_i2l hC dX12_lanes_99 ?_
            refine r_ladd hC dX12_lanes_100 ?_
            refine r_nmL (fun v27 => ?_)
            refine r_lstore (lv' := [(4, .long v27), (10, .int v21), (9, .int v18), (0, .ref (wA w 0)), (1, .int a2), (2, .int a3), (3, .int a4), (6, .long x9), (8, .int x10)]) hC dX12_lanes_101 (by decide) rfl ?_
            refine r_lload hC dX12_lanes_103 7 rfl ?_
            refine r_lconst (v := 1) hC dX12_lanes_105 (by decide) ?_
            refine r_ladd hC dX12_lanes_106 ?_
            refine r_nmL (fun v28 => ?_)
            refine r_lstore (lv' := [(6, .long v28), (4, .long v27), (10, .int v21), (9, .int v18), (0, .ref (wA w 0)), (1, .int a2), (2, .int a3), (3, .int a4), (8, .int x10)]) hC dX12_lanes_107 (by decide) rfl ?_
            exact r_lv [4, 5, 6, 7, 1, 0, 8] rfl (hj24 v27 v28)
          · refine r_goto hC 109 dX12_lanes_89 (by decide) ?_
            exact r_lv [2, 3, 4, 5, 6, 7, 8] rfl (hj24 x8 x9)
set_option maxHeartbeats 4000000 in
set_option maxRecDepth 100000 in
theorem c_X12_lanes {l : Launch} {w : Wd} (hW : HWd w shM rM 29) (σ : St) (a2 : Int32) (a3 : Int32) (a4 : Int32)  : ∀ res, f_X12_lanes σ a2 a3 a4 = some res → MtL l yX12_lanes cX12_lanes 11 .long 2 45 w [.ref (wA w 0), .int a2, .int a3, .int a4] σ (res, σ) := by
  refine mt_PL (by decide) rfl hW (fun X hl0 hC hret => ?_)
  show RF X w (Aw w (xs_ X).heap.size) 11 (fun r => QL X w (r, σ)) (f_X12_lanes σ a2 a3 a4) 0 [(0, .ref (wA w 0)), (1, .int a2), (2, .int a3), (3, .int a4)] [] σ
  unfold f_X12_lanes
  refine r_iload_n hC dX12_lanes_0 rfl 1 rfl ?_
  refine r_callSP hC (st := []) [.int a2] (c_X12_isLane hC.w σ a2) yk_X12_isLane lm_X12_416 rfl ⟨rfl, rfl⟩ rfl dX12_lanes_1 (fun v1 => ?_)
  refine r_if_eq hC 29 dX12_lanes_4 (by decide) (fun c2 => ?_) (fun c2 => ?_)
  · refine r_ldc2 (v := (-4611686018427387904)) hC lc_X12_374 dX12_lanes_29 ?_
    exact r_lretP hC hret dX12_lanes_32
  · refine r_iload_n hC dX12_lanes_7 rfl 2 rfl ?_
    refine r_callSP hC (st := []) [.int a3] (c_X12_isLane hC.w σ a3) yk_X12_isLane lm_X12_416 rfl ⟨rfl, rfl⟩ rfl dX12_lanes_8 (fun v3 => ?_)
    refine r_if_eq hC 29 dX12_lanes_11 (by decide) (fun c4 => ?_) (fun c4 => ?_)
    · refine r_ldc2 (v := (-4611686018427387904)) hC lc_X12_374 dX12_lanes_29 ?_
      exact r_lretP hC hret dX12_lanes_32
    · refine r_iload_n hC dX12_lanes_14 rfl 1 rfl ?_
      refine r_iload_n hC dX12_lanes_15 rfl 2 rfl ?_
      refine r_icmp_eq hC 29 dX12_lanes_16 (by decide) (fun c5 => ?_) (fun c5 => ?_)
      · refine r_ldc2 (v := (-4611686018427387904)) hC lc_X12_374 dX12_lanes_29 ?_
        exact r_lretP hC hret dX12_lanes_32
      · refine r_iload_n hC dX12_lanes_19 rfl 3 rfl ?_
        refine r_i2l hC dX12_lanes_20 ?_
        refine r_lconst (v := 0) hC dX12_lanes_21 (by decide) ?_
        refine r_lconst (v := 1) hC dX12_lanes_22 (by decide) ?_
        refine r_callSP hC (st := []) [.long (Int32.toInt64 a4), .long 0, .long 1] (c_X12_in hC.w σ (Int32.toInt64 a4) 0 1) yk_X12_in lm_X12_125 rfl ⟨rfl, rfl⟩ rfl dX12_lanes_23 (fun v6 => ?_)
        refine r_if_ne hC 33 dX12_lanes_26 (by decide) (fun c7 => ?_) (fun c7 => ?_)
        · refine r_lconst (v := 0) hC dX12_lanes_33 (by decide) ?_
          refine r_lstore (lv' := [(4, .long 0), (0, .ref (wA w 0)), (1, .int a2), (2, .int a3), (3, .int a4)]) hC dX12_lanes_34 (by decide) rfl ?_
          refine r_lconst (v := 0) hC dX12_lanes_36 (by decide) ?_
          refine r_lstore (lv' := [(6, .long 0), (4, .long 0), (0, .ref (wA w 0)), (1, .int a2), (2, .int a3), (3, .int a4)]) hC dX12_lanes_37 (by decide) rfl ?_
          refine r_iconst (v := 0) hC dX12_lanes_39 (by decide) ?_
          refine r_istore (lv' := [(8, .int 0), (6, .long 0), (4, .long 0), (0, .ref (wA w 0)), (1, .int a2), (2, .int a3), (3, .int a4)]) hC dX12_lanes_40 (by decide) rfl ?_
          refine r_lv [3, 4, 5, 6, 2, 1, 0] rfl ?_
          refine w_X12_lanes_l42 hC hret σ a2 a3 a4 _ ?_ FU 0 0 0
          · intro x11 x12
            refine r_lload hC dX12_lanes_115 2 rfl ?_
            refine r_lconst (v := 0) hC dX12_lanes_117 (by decide) ?_
            refine r_lcmp_ne hC 125 dX12_lanes_118 dX12_lanes_119 (by decide) (fun c29 => ?_) (fun c29 => ?_)
            · refine r_iload_n hC dX12_lanes_125 rfl 0 rfl ?_
              refine r_jn (T := fun (j31 : Int64 → Option Int64) => ∀ (t30 : Int64), RF X w (Aw w (xs_ X).heap.size) 11 (fun r => QL X w (r, σ)) (j31 t30) 136 [(4, .long x11), (6, .long x12)] [.long t30] σ) ?_ (fun j31 hj31 => ?_)
              · intro t30
                refine r_lload hC dX12_lanes_136 0 rfl ?_
                refine r_lload hC dX12_lanes_138 1 rfl ?_
                refine r_callSQ hC (st := [.long t30]) [.long x11, .long x12] (c_X12_common hC.w σ x11 x12) yk_X12_common lm_X12_419 rfl ⟨rfl, rfl⟩ rfl dX12_lanes_140 (fun v32 => ?_)
                refine r_gd (fun g33 => ?_)
                refine r_ldiv hC dX12_lanes_143 g33 ?_
                exact r_lretP hC hret dX12_lanes_144
              · refine r_if_ne hC 134 dX12_lanes_126 (by decide) (fun c34 => ?_) (fun c34 => ?_)
                · refine r_lload hC dX12_lanes_134 2 rfl ?_
                  exact r_lv [1, 2] rfl (hj31 x12)
                · refine r_lload hC dX12_lanes_129 1 rfl ?_
                  refine r_goto hC 136 dX12_lanes_131 (by decide) ?_
                  exact r_lv [1, 2] rfl (hj31 x11)
            · refine r_iload_n hC dX12_lanes_122 rfl 0 rfl ?_
              refine r_i2l hC dX12_lanes_123 ?_
              exact r_lretP hC hret dX12_lanes_124
        · refine r_ldc2 (v := (-4611686018427387904)) hC lc_X12_374 dX12_lanes_29 ?_
          exact r_lretP hC hret dX12_lanes_32
set_option maxHeartbeats 4000000 in
set_option maxRecDepth 100000 in
theorem w_X12_isFirst_l5 {X : Mc} {w : Wd} (hC : Cok X w (Aw w (xs_ X).heap.size) yX12_isFirst.cls cX12_isFirst 5 0 0 shM rM 29) (hret : (xmeth X).sig.returnType = some .boolean) (σ : St) (a2 : Int32) (a3 : Int32)     : ∀ (n : Nat) (x1 : Int32) (x2 : Int32), RF X w (Aw w (xs_ X).heap.size) 5 (fun r => QI X w (r, σ)) (f_X12_isFirst_l5 σ a2 a3 n x1 x2) 5 [(0, .ref (wA w 0)), (1, .int a2), (2, .int a3), (3, .int x1), (4, .int x2)] [] σ := by
  intro n
  induction n with
  | zero => intro x1 x2; rw [f_X12_isFirst_l5]; exact r_none
  | succ n ih =>
    intro x1 x2
    rw [f_X12_isFirst_l5]
    refine r_iload hC dX12_isFirst_5 4 rfl ?_
    refine r_bipush (v := 6) hC dX12_isFirst_7 (by decide) ?_
    refine r_icmp_ge hC 69 dX12_isFirst_9 (by decide) (fun c3 => ?_) (fun c3 => ?_)
    · refine r_iload_n hC dX12_isFirst_69 rfl 3 rfl ?_
      refine r_gd (fun g4 => ?_)
      exact r_iretP hC hret (by rcases g4 with h9 | h9 <;> rw [h9] <;> rfl) dX12_isFirst_70
    · refine r_iload_n hC dX12_isFirst_12 rfl 3 rfl ?_
      refine r_jn (T := fun (j6 : Int32 → Option Int32) => ∀ (t5 : Int32), RF X w (Aw w (xs_ X).heap.size) 5 (fun r => QI X w (r, σ)) (j6 t5) 62 [(0, .ref (wA w 0)), (1, .int a2), (2, .int a3), (4, .int x2)] [.int t5] σ) ?_ (fun j6 hj6 => ?_)
      · intro t5
        refine r_istore_n (lv' := [(3, .int t5), (0, .ref (wA w 0)), (1, .int a2), (2, .int a3), (4, .int x2)]) hC dX12_isFirst_62 rfl (by decide) rfl ?_
        refine r_iinc (v := x2 + 1) (lv' := [(4, .int (x2 + 1)), (3, .int t5), (0, .ref (wA w 0)), (1, .int a2), (2, .int a3)]) hC dX12_isFirst_63 4 rfl rfl (by decide) rfl ?_
        refine r_goto hC 5 dX12_isFirst_66 (by decide) ?_
        exact r_lv [2, 3, 4, 1, 0] rfl (ih t5 (x2 + 1))
      · refine r_jn (T := fun (j7 : Option Int32) => RF X w (Aw w (xs_ X).heap.size) 5 (fun r => QI X w (r, σ)) j7 61 [(0, .ref (wA w 0)), (1, .int a2), (2, .int a3), (4, .int x2)] [] σ) ?_ (fun j7 hj7 => ?_)
        · refine r_iconst (v := 0) hC dX12_isFirst_61 (by decide) ?_
          exact r_lv [0, 1, 2, 3] rfl (hj6 0)
        · refine r_if_eq hC 61 dX12_isFirst_13 (by decide) (fun c8 => ?_) (fun c8 => ?_)
          · exact r_lv [0, 1, 2, 4] rfl hj7
          · refine r_aload_n hC dX12_isFirst_16 rfl 0 rfl ?_
            refine r_getR hC clX12 0 48 20 rfl rfl rfl (hC.n rfl) rfl lf_X12_72 dX12_isFirst_17 ?_
            refine r_bipush (v := 6) hC dX12_isFirst_20 (by decide) ?_
            refine r_iload_n hC dX12_isFirst_22 rfl 1 rfl ?_
            refine r_imul hC dX12_isFirst_23 ?_
            refine r_iload hC dX12_isFirst_24 4 rfl ?_
            refine r_iadd hC dX12_isFirst_26 ?_
            refine r_nmI (fun v9 => ?_)
            refine r_gd (fun g10 => ?_)
            refine r_iald hC 20 120 rfl rfl g10 dX12_isFirst_27 ?_
            refine r_nmI (fun v11 => ?_)
            refine r_jn (T := fun (j12 : Option Int32) => RF X w (Aw w (xs_ X).heap.size) 5 (fun r => QI X w (r, σ)) j12 57 [(0, .ref (wA w 0)), (1, .int a2), (2, .int a3), (4, .int x2)] [] σ) ?_ (fun j12 hj12 => ?_)
            · refine r_iconst (v := 1) hC dX12_isFirst_57 (by decide) ?_
              refine r_goto hC 62 dX12_isFirst_58 (by decide) ?_
              exact r_lv [0, 1, 2, 3] rfl (hj6 1)
            · refine r_if_eq hC 57 dX12_isFirst_28 (by decide) (fun c13 => ?_) (fun c13 => ?_)
              · exact r_lv [0, 1, 2, 4] rfl hj12
              · refine r_aload_n hC dX12_isFirst_31 rfl 0 rfl ?_
                refine r_getR hC clX12 0 48 20 rfl rfl rfl (hC.n rfl) rfl lf_X12_72 dX12_isFirst_32 ?_
                refine r_bipush (v := 6) hC dX12_isFirst_35 (by decide) ?_
                refine r_iload_n hC dX12_isFirst_37 rfl 1 rfl ?_
                refine r_imul hC dX12_isFirst_38 ?_
                refine r_iload hC dX12_isFirst_39 4 rfl ?_
                refine r_iadd hC dX12_isFirst_41 ?_
                refine r_nmI (fun v14 => ?_)
                refine r_gd (fun g15 => ?_)
                refine r_iald hC 20 120 rfl rfl g15 dX12_isFirst_42 ?_
                refine r_nmI (fun v16 => ?_)
                refine r_aload_n hC dX12_isFirst_43 rfl 0 rfl ?_
                refine r_getR hC clX12 0 48 20 rfl rfl rfl (hC.n rfl) rfl lf_X12_72 dX12_isFirst_44 ?_
                refine r_bipush (v := 6) hC dX12_isFirst_47 (by decide) ?_
                refine r_iload_n hC dX12_isFirst_49 rfl 1 rfl ?_
                refine r_imul hC dX12_isFirst_50 ?_
                refine r_iload_n hC dX12_isFirst_51 rfl 2 rfl ?_
                refine r_iadd hC dX12_isFirst_52 ?_
                refine r_nmI (fun v17 => ?_)
                refine r_gd (fun g18 => ?_)
                refine r_iald hC 20 120 rfl rfl g18 dX12_isFirst_53 ?_
                refine r_nmI (fun v19 => ?_)
                refine r_icmp_lt hC 61 dX12_isFirst_54 (by decide) (fun c20 => ?_) (fun c20 => ?_)
                · exact r_lv [0, 1, 2, 4] rfl hj7
                · exact r_lv [0, 1, 2, 4] rfl hj12
set_option maxHeartbeats 4000000 in
set_option maxRecDepth 100000 in
theorem c_X12_isFirst {l : Launch} {w : Wd} (hW : HWd w shM rM 29) (σ : St) (a2 : Int32) (a3 : Int32)  : ∀ res, f_X12_isFirst σ a2 a3 = some res → MtI l yX12_isFirst cX12_isFirst 5 .boolean 0 0 w [.ref (wA w 0), .int a2, .int a3] σ (res, σ) := by
  refine mt_P (by decide) rfl hW (fun X hl0 hC hret => ?_)
  show RF X w (Aw w (xs_ X).heap.size) 5 (fun r => QI X w (r, σ)) (f_X12_isFirst σ a2 a3) 0 [(0, .ref (wA w 0)), (1, .int a2), (2, .int a3)] [] σ
  unfold f_X12_isFirst
  refine r_iconst (v := 1) hC dX12_isFirst_0 (by decide) ?_
  refine r_istore_n (lv' := [(3, .int 1), (0, .ref (wA w 0)), (1, .int a2), (2, .int a3)]) hC dX12_isFirst_1 rfl (by decide) rfl ?_
  refine r_iconst (v := 0) hC dX12_isFirst_2 (by decide) ?_
  refine r_istore (lv' := [(4, .int 0), (3, .int 1), (0, .ref (wA w 0)), (1, .int a2), (2, .int a3)]) hC dX12_isFirst_3 (by decide) rfl ?_
  refine r_lv [2, 3, 4, 1, 0] rfl ?_
  exact w_X12_isFirst_l5 hC hret σ a2 a3 FU 1 0
set_option maxHeartbeats 4000000 in
set_option maxRecDepth 100000 in
theorem w_X12_fair_l18 {X : Mc} {w : Wd} (hC : Cok X w (Aw w (xs_ X).heap.size) yX12_fair.cls cX12_fair 6 1 24 shM rM 29) (hret : (xmeth X).sig.returnType = some .int) (σ : St) (x2 : Int32) (x1 : Int32)   (K9 : Int32 → Int32 → Option Int32) (hK9 : ∀ (x7 : Int32) (x8 : Int32), RF X w (Aw w (xs_ X).heap.size) 6 (fun r => QI X w (r, σ)) (K9 x7 x8) 74 [(0, .ref (wA w 0)), (1, .int x1), (2, .int x2), (3, .int x7), (4, .int x8)] [] σ) : ∀ (n : Nat) (x4 : Int32) (x5 : Int32) (x6 : Int32), RF X w (Aw w (xs_ X).heap.size) 6 (fun r => QI X w (r, σ)) (f_X12_fair_l18 σ x2 K9 n x4 x5 x6) 18 [(0, .ref (wA w 0)), (1, .int x1), (2, .int x2), (3, .int x4), (4, .int x5), (5, .int x6)] [] σ := by
  intro n
  induction n with
  | zero => intro x4 x5 x6; rw [f_X12_fair_l18]; exact r_none
  | succ n ih =>
    intro x4 x5 x6
    rw [f_X12_fair_l18]
    refine r_iload hC dX12_fair_18 5 rfl ?_
    refine r_aload_n hC dX12_fair_20 rfl 0 rfl ?_
    refine r_getI hC clX12 0 49 rfl rfl (hC.n rfl) rfl lf_X12_413 dX12_fair_21 ?_
    refine r_nmI (fun v10 => ?_)
    refine r_icmp_ge hC 74 dX12_fair_24 (by decide) (fun c11 => ?_) (fun c11 => ?_)
    · exact r_lv [0, 1, 2, 3, 4] rfl (hK9 x4 x5)
    · refine r_aload_n hC dX12_fair_27 rfl 0 rfl ?_
      refine r_getR hC clX12 0 48 20 rfl rfl rfl (hC.n rfl) rfl lf_X12_72 dX12_fair_28 ?_
      refine r_bipush (v := 6) hC dX12_fair_31 (by decide) ?_
      refine r_iload hC dX12_fair_33 5 rfl ?_
      refine r_imul hC dX12_fair_35 ?_
      refine r_iload_n hC dX12_fair_36 rfl 2 rfl ?_
      refine r_iadd hC dX12_fair_37 ?_
      refine r_nmI (fun v12 => ?_)
      refine r_gd (fun g13 => ?_)
      refine r_iald hC 20 120 rfl rfl g13 dX12_fair_38 ?_
      refine r_nmI (fun v14 => ?_)
      refine r_jn (T := fun (j17 : Int32 → Int32 → Option Int32) => ∀ (x15 : Int32) (x16 : Int32), RF X w (Aw w (xs_ X).heap.size) 6 (fun r => QI X w (r, σ)) (j17 x15 x16) 68 [(0, .ref (wA w 0)), (1, .int x1), (2, .int x2), (3, .int x15), (4, .int x16), (5, .int x6)] [] σ) ?_ (fun j17 hj17 => ?_)
      · intro x15 x16
        refine r_iinc (v := x6 + 1) (lv' := [(5, .int (x6 + 1)), (0, .ref (wA w 0)), (1, .int x1), (2, .int x2), (3, .int x15), (4, .int x16)]) hC dX12_fair_68 5 rfl rfl (by decide) rfl ?_
        refine r_goto hC 18 dX12_fair_71 (by decide) ?_
        exact r_lv [1, 2, 3, 4, 5, 0] rfl (ih x15 x16 (x6 + 1))
      · refine r_if_ne hC 45 dX12_fair_39 (by decide) (fun c18 => ?_) (fun c18 => ?_)
        · refine r_iinc (v := x4 + 1) (lv' := [(3, .int (x4 + 1)), (0, .ref (wA w 0)), (1, .int x1), (2, .int x2), (4, .int x5), (5, .int x6)]) hC dX12_fair_45 3 rfl rfl (by decide) rfl ?_
          refine r_iload hC dX12_fair_48 4 rfl ?_
          refine r_aload_n hC dX12_fair_50 rfl 1 rfl ?_
          refine r_iload hC dX12_fair_51 5 rfl ?_
          refine r_iload_n hC dX12_fair_53 rfl 3 rfl ?_
          refine r_callVP hC (b := 0) (ci := 12) (st := [.int x5]) [.int x6, .int x2] rfl (hC.n rfl) rfl rfl (c_X12_isFirst hC.w σ x6 x2) yk_X12_isFirst lm_X12_423 rfl ⟨rfl, rfl⟩ rfl dX12_fair_54 (fun v19 => ?_)
          refine r_jn (T := fun (j21 : Int32 → Option Int32) => ∀ (t20 : Int32), RF X w (Aw w (xs_ X).heap.size) 6 (fun r => QI X w (r, σ)) (j21 t20) 65 [(0, .ref (wA w 0)), (1, .int x1), (2, .int x2), (3, .int (x4 + 1)), (5, .int x6)] [.int t20, .int x5] σ) ?_ (fun j21 hj21 => ?_)
          · intro t20
            refine r_iadd hC dX12_fair_65 ?_
            refine r_nmI (fun v22 => ?_)
            refine r_istore (lv' := [(4, .int v22), (0, .ref (wA w 0)), (1, .int x1), (2, .int x2), (3, .int (x4 + 1)), (5, .int x6)]) hC dX12_fair_66 (by decide) rfl ?_
            exact r_lv [1, 2, 3, 4, 0, 5] rfl (hj17 (x4 + 1) v22)
          · refine r_if_eq hC 64 dX12_fair_57 (by decide) (fun c23 => ?_) (fun c23 => ?_)
            · refine r_iconst (v := 0) hC dX12_fair_64 (by decide) ?_
              exact r_lv [1, 2, 3, 0, 5] rfl (hj21 0)
            · refine r_iconst (v := 1) hC dX12_fair_60 (by decide) ?_
              refine r_goto hC 65 dX12_fair_61 (by decide) ?_
              exact r_lv [1, 2, 3, 0, 5] rfl (hj21 1)
        · refine r_goto hC 68 dX12_fair_42 (by decide) ?_
          exact r_lv [0, 1, 2, 3, 4, 5] rfl (hj17 x4 x5)
set_option maxHeartbeats 4000000 in
set_option maxRecDepth 100000 in
theorem w_X12_fair_l4 {X : Mc} {w : Wd} (hC : Cok X w (Aw w (xs_ X).heap.size) yX12_fair.cls cX12_fair 6 1 24 shM rM 29) (hret : (xmeth X).sig.returnType = some .int) (σ : St)     : ∀ (n : Nat) (x1 : Int32) (x2 : Int32), RF X w (Aw w (xs_ X).heap.size) 6 (fun r => QI X w (r, σ)) (f_X12_fair_l4 σ n x1 x2) 4 [(0, .ref (wA w 0)), (1, .int x1), (2, .int x2)] [] σ := by
  intro n
  induction n with
  | zero => intro x1 x2; rw [f_X12_fair_l4]; exact r_none
  | succ n ih =>
    intro x1 x2
    rw [f_X12_fair_l4]
    refine r_iload_n hC dX12_fair_4 rfl 2 rfl ?_
    refine r_bipush (v := 6) hC dX12_fair_5 (by decide) ?_
    refine r_icmp_ge hC 104 dX12_fair_7 (by decide) (fun c3 => ?_) (fun c3 => ?_)
    · refine r_iload_n hC dX12_fair_104 rfl 1 rfl ?_
      exact r_iretP hC hret rfl dX12_fair_105
    · refine r_iconst (v := 0) hC dX12_fair_10 (by decide) ?_
      refine r_istore_n (lv' := [(3, .int 0), (0, .ref (wA w 0)), (1, .int x1), (2, .int x2)]) hC dX12_fair_11 rfl (by decide) rfl ?_
      refine r_iconst (v := 0) hC dX12_fair_12 (by decide) ?_
      refine r_istore (lv' := [(4, .int 0), (3, .int 0), (0, .ref (wA w 0)), (1, .int x1), (2, .int x2)]) hC dX12_fair_13 (by decide) rfl ?_
      refine r_iconst (v := 0) hC dX12_fair_15 (by decide) ?_
      refine r_istore (lv' := [(5, .int 0), (4, .int 0), (3, .int 0), (0, .ref (wA w 0)), (1, .int x1), (2, .int x2)]) hC dX12_fair_16 (by decide) rfl ?_
      refine r_lv [3, 4, 5, 2, 1, 0] rfl ?_
      refine w_X12_fair_l18 hC hret σ x2 x1 _ ?_ FU 0 0 0
      · intro x7 x8
        refine r_iload_n hC dX12_fair_74 rfl 1 rfl ?_
        refine r_iload_n hC dX12_fair_75 rfl 3 rfl ?_
        refine r_jn (T := fun (j25 : Int32 → Option Int32) => ∀ (t24 : Int32), RF X w (Aw w (xs_ X).heap.size) 6 (fun r => QI X w (r, σ)) (j25 t24) 96 [(0, .ref (wA w 0)), (2, .int x2)] [.int t24, .int x1] σ) ?_ (fun j25 hj25 => ?_)
        · intro t24
          refine r_ior hC dX12_fair_96 ?_
          refine r_nmI (fun v26 => ?_)
          refine r_istore_n (lv' := [(1, .int v26), (0, .ref (wA w 0)), (2, .int x2)]) hC dX12_fair_97 rfl (by decide) rfl ?_
          refine r_iinc (v := x2 + 1) (lv' := [(2, .int (x2 + 1)), (1, .int v26), (0, .ref (wA w 0))]) hC dX12_fair_98 2 rfl rfl (by decide) rfl ?_
          refine r_goto hC 4 dX12_fair_101 (by decide) ?_
          exact r_lv [2, 1, 0] rfl (ih v26 (x2 + 1))
        · refine r_jn (T := fun (j27 : Option Int32) => RF X w (Aw w (xs_ X).heap.size) 6 (fun r => QI X w (r, σ)) j27 95 [(0, .ref (wA w 0)), (2, .int x2)] [.int x1] σ) ?_ (fun j27 hj27 => ?_)
          · refine r_iconst (v := 0) hC dX12_fair_95 (by decide) ?_
            exact r_lv [0, 1] rfl (hj25 0)
          · refine r_if_le hC 95 dX12_fair_76 (by decide) (fun c28 => ?_) (fun c28 => ?_)
            · exact r_lv [0, 2] rfl hj27
            · refine r_iload hC dX12_fair_79 4 rfl ?_
              refine r_iload_n hC dX12_fair_81 rfl 3 rfl ?_
              refine r_iconst (v := 1) hC dX12_fair_82 (by decide) ?_
              refine r_iadd hC dX12_fair_83 ?_
              refine r_iconst (v := 2) hC dX12_fair_84 (by decide) ?_
              refine r_idiv hC dX12_fair_85 (by decide) ?_
              refine r_icmp_lt hC 95 dX12_fair_86 (by decide) (fun c29 => ?_) (fun c29 => ?_)
              · exact r_lv [0, 2] rfl hj27
              · refine r_iconst (v := 1) hC dX12_fair_89 (by decide) ?_
                refine r_iload_n hC dX12_fair_90 rfl 2 rfl ?_
                refine r_ishl hC dX12_fair_91 ?_
                refine r_goto hC 96 dX12_fair_92 (by decide) ?_
                exact r_lv [0, 2] rfl (hj25 (1 <<< (x2 &&& 31)))
set_option maxHeartbeats 4000000 in
set_option maxRecDepth 100000 in
theorem c_X12_fair {l : Launch} {w : Wd} (hW : HWd w shM rM 29) (σ : St)   : ∀ res, f_X12_fair σ = some res → MtI l yX12_fair cX12_fair 6 .int 1 24 w [.ref (wA w 0)] σ (res, σ) := by
  refine mt_P (by decide) rfl hW (fun X hl0 hC hret => ?_)
  show RF X w (Aw w (xs_ X).heap.size) 6 (fun r => QI X w (r, σ)) (f_X12_fair σ) 0 [(0, .ref (wA w 0))] [] σ
  unfold f_X12_fair
  refine r_iconst (v := 0) hC dX12_fair_0 (by decide) ?_
  refine r_istore_n (lv' := [(1, .int 0), (0, .ref (wA w 0))]) hC dX12_fair_1 rfl (by decide) rfl ?_
  refine r_iconst (v := 0) hC dX12_fair_2 (by decide) ?_
  refine r_istore_n (lv' := [(2, .int 0), (1, .int 0), (0, .ref (wA w 0))]) hC dX12_fair_3 rfl (by decide) rfl ?_
  refine r_lv [2, 1, 0] rfl ?_
  exact w_X12_fair_l4 hC hret σ FU 0 0
set_option maxHeartbeats 4000000 in
set_option maxRecDepth 100000 in
theorem w_X12_sitting_l4 {X : Mc} {w : Wd} (hC : Cok X w (Aw w (xs_ X).heap.size) yX12_sitting.cls cX12_sitting 3 0 0 shM rM 29) (hret : (xmeth X).sig.returnType = some .int) (σ : St)     : ∀ (n : Nat) (x1 : Int32) (x2 : Int32), RF X w (Aw w (xs_ X).heap.size) 3 (fun r => QI X w (r, σ)) (f_X12_sitting_l4 σ n x1 x2) 4 [(0, .ref (wA w 0)), (1, .int x1), (2, .int x2)] [] σ := by
  intro n
  induction n with
  | zero => intro x1 x2; rw [f_X12_sitting_l4]; exact r_none
  | succ n ih =>
    intro x1 x2
    rw [f_X12_sitting_l4]
    refine r_iload_n hC dX12_sitting_4 rfl 2 rfl ?_
    refine r_bipush (v := 8) hC dX12_sitting_5 (by decide) ?_
    refine r_icmp_ge hC 34 dX12_sitting_7 (by decide) (fun c3 => ?_) (fun c3 => ?_)
    · refine r_iload_n hC dX12_sitting_34 rfl 1 rfl ?_
      exact r_iretP hC hret rfl dX12_sitting_35
    · refine r_iload_n hC dX12_sitting_10 rfl 1 rfl ?_
      refine r_aload_n hC dX12_sitting_11 rfl 0 rfl ?_
      refine r_getR hC clX12 0 12 8 rfl rfl rfl (hC.n rfl) rfl lf_X12_35 dX12_sitting_12 ?_
      refine r_iload_n hC dX12_sitting_15 rfl 2 rfl ?_
      refine r_gd (fun g4 => ?_)
      refine r_iald hC 8 8 rfl rfl g4 dX12_sitting_16 ?_
      refine r_nmI (fun v5 => ?_)
      refine r_iconst (v := (-1)) hC dX12_sitting_17 (by decide) ?_
      refine r_jn (T := fun (j7 : Int32 → Option Int32) => ∀ (t6 : Int32), RF X w (Aw w (xs_ X).heap.size) 3 (fun r => QI X w (r, σ)) (j7 t6) 26 [(0, .ref (wA w 0)), (2, .int x2)] [.int t6, .int x1] σ) ?_ (fun j7 hj7 => ?_)
      · intro t6
        refine r_iadd hC dX12_sitting_26 ?_
        refine r_nmI (fun v8 => ?_)
        refine r_istore_n (lv' := [(1, .int v8), (0, .ref (wA w 0)), (2, .int x2)]) hC dX12_sitting_27 rfl (by decide) rfl ?_
        refine r_iinc (v := x2 + 1) (lv' := [(2, .int (x2 + 1)), (1, .int v8), (0, .ref (wA w 0))]) hC dX12_sitting_28 2 rfl rfl (by decide) rfl ?_
        refine r_goto hC 4 dX12_sitting_31 (by decide) ?_
        exact r_lv [2, 1, 0] rfl (ih v8 (x2 + 1))
      · refine r_icmp_ne hC 25 dX12_sitting_18 (by decide) (fun c9 => ?_) (fun c9 => ?_)
        · refine r_iconst (v := 1) hC dX12_sitting_25 (by decide) ?_
          exact r_lv [0, 2] rfl (hj7 1)
        · refine r_iconst (v := 0) hC dX12_sitting_21 (by decide) ?_
          refine r_goto hC 26 dX12_sitting_22 (by decide) ?_
          exact r_lv [0, 2] rfl (hj7 0)
set_option maxHeartbeats 4000000 in
set_option maxRecDepth 100000 in
theorem c_X12_sitting {l : Launch} {w : Wd} (hW : HWd w shM rM 29) (σ : St)   : ∀ res, f_X12_sitting σ = some res → MtI l yX12_sitting cX12_sitting 3 .int 0 0 w [.ref (wA w 0)] σ (res, σ) := by
  refine mt_P (by decide) rfl hW (fun X hl0 hC hret => ?_)
  show RF X w (Aw w (xs_ X).heap.size) 3 (fun r => QI X w (r, σ)) (f_X12_sitting σ) 0 [(0, .ref (wA w 0))] [] σ
  unfold f_X12_sitting
  refine r_iconst (v := 0) hC dX12_sitting_0 (by decide) ?_
  refine r_istore_n (lv' := [(1, .int 0), (0, .ref (wA w 0))]) hC dX12_sitting_1 rfl (by decide) rfl ?_
  refine r_iconst (v := 0) hC dX12_sitting_2 (by decide) ?_
  refine r_istore_n (lv' := [(2, .int 0), (1, .int 0), (0, .ref (wA w 0))]) hC dX12_sitting_3 rfl (by decide) rfl ?_
  refine r_lv [2, 1, 0] rfl ?_
  exact w_X12_sitting_l4 hC hret σ FU 0 0
set_option maxHeartbeats 4000000 in
set_option maxRecDepth 100000 in
theorem w_X12_image_l39 {X : Mc} {w : Wd} (hC : Cok X w (Aw w (xs_ X).heap.size) yX12_image.cls cX12_image 2 1 22 shM rM 29) (hret : (xmeth X).sig.returnType = some .int) (σ9 : St)   (K13 : St → Option (Int32 × St)) (hK13 : ∀ (σ12 : St), RF X w (Aw w (xs_ X).heap.size) 2 (QI X w) (K13 σ12) 87 [(0, .ref (wA w 0))] [] σ12) : ∀ (n : Nat) (x10 : Int32) (σ11 : St), RF X w (Aw w (xs_ X).heap.size) 2 (QI X w) (f_X12_image_l39 K13 n x10 σ11) 39 [(0, .ref (wA w 0)), (1, .int x10)] [] σ11 := by
  intro n
  induction n with
  | zero => intro x10 σ11; rw [f_X12_image_l39]; exact r_none
  | succ n ih =>
    intro x10 σ11
    rw [f_X12_image_l39]
    refine r_iload_n hC dX12_image_39 rfl 1 rfl ?_
    refine r_bipush (v := 8) hC dX12_image_40 (by decide) ?_
    refine r_icmp_ge hC 87 dX12_image_42 (by decide) (fun c14 => ?_) (fun c14 => ?_)
    · exact r_lv [0] rfl (hK13 σ11)
    · refine r_aload_n hC dX12_image_45 rfl 0 rfl ?_
      refine r_getR hC clX12 0 50 21 rfl rfl rfl (hC.n rfl) rfl lf_X12_75 dX12_image_46 ?_
      refine r_iload_n hC dX12_image_49 rfl 1 rfl ?_
      refine r_aload_n hC dX12_image_50 rfl 0 rfl ?_
      refine r_getR hC clX12 0 12 8 rfl rfl rfl (hC.n rfl) rfl lf_X12_35 dX12_image_51 ?_
      refine r_iload_n hC dX12_image_54 rfl 1 rfl ?_
      refine r_gd (fun g15 => ?_)
      refine r_iald hC 8 8 rfl rfl g15 dX12_image_55 ?_
      refine r_nmI (fun v16 => ?_)
      refine r_gd (fun g17 => ?_)
      refine r_iast hC 21 8 rfl rfl g17 dX12_image_56 ?_
      refine r_nmS (fun σ18 => ?_)
      refine r_aload_n hC dX12_image_57 rfl 0 rfl ?_
      refine r_getR hC clX12 0 51 22 rfl rfl rfl (hC.n rfl) rfl lf_X12_78 dX12_image_58 ?_
      refine r_iload_n hC dX12_image_61 rfl 1 rfl ?_
      refine r_aload_n hC dX12_image_62 rfl 0 rfl ?_
      refine r_getR hC clX12 0 13 9 rfl rfl rfl (hC.n rfl) rfl lf_X12_38 dX12_image_63 ?_
      refine r_iload_n hC dX12_image_66 rfl 1 rfl ?_
      refine r_gd (fun g19 => ?_)
      refine r_iald hC 9 8 rfl rfl g19 dX12_image_67 ?_
      refine r_nmI (fun v20 => ?_)
      refine r_gd (fun g21 => ?_)
      refine r_iast hC 22 8 rfl rfl g21 dX12_image_68 ?_
      refine r_nmS (fun σ22 => ?_)
      refine r_aload_n hC dX12_image_69 rfl 0 rfl ?_
      refine r_getR hC clX12 0 52 23 rfl rfl rfl (hC.n rfl) rfl lf_X12_81 dX12_image_70 ?_
      refine r_iload_n hC dX12_image_73 rfl 1 rfl ?_
      refine r_aload_n hC dX12_image_74 rfl 0 rfl ?_
      refine r_getR hC clX12 0 14 10 rfl rfl rfl (hC.n rfl) rfl lf_X12_41 dX12_image_75 ?_
      refine r_iload_n hC dX12_image_78 rfl 1 rfl ?_
      refine r_gd (fun g23 => ?_)
      refine r_iald hC 10 8 rfl rfl g23 dX12_image_79 ?_
      refine r_nmI (fun v24 => ?_)
      refine r_gd (fun g25 => ?_)
      refine r_iast hC 23 8 rfl rfl g25 dX12_image_80 ?_
      refine r_nmS (fun σ26 => ?_)
      refine r_iinc (v := x10 + 1) (lv' := [(1, .int (x10 + 1)), (0, .ref (wA w 0))]) hC dX12_image_81 1 rfl rfl (by decide) rfl ?_
      refine r_goto hC 39 dX12_image_84 (by decide) ?_
      exact r_lv [1, 0] rfl (ih (x10 + 1) σ26)
set_option maxHeartbeats 4000000 in
set_option maxRecDepth 100000 in
theorem w_X12_image_l89 {X : Mc} {w : Wd} (hC : Cok X w (Aw w (xs_ X).heap.size) yX12_image.cls cX12_image 2 1 22 shM rM 29) (hret : (xmeth X).sig.returnType = some .int) (σ12 : St)   (K30 : St → Option (Int32 × St)) (hK30 : ∀ (σ29 : St), RF X w (Aw w (xs_ X).heap.size) 2 (QI X w) (K30 σ29) 115 [(0, .ref (wA w 0))] [] σ29) : ∀ (n : Nat) (x27 : Int32) (σ28 : St), RF X w (Aw w (xs_ X).heap.size) 2 (QI X w) (f_X12_image_l89 K30 n x27 σ28) 89 [(0, .ref (wA w 0)), (1, .int x27)] [] σ28 := by
  intro n
  induction n with
  | zero => intro x27 σ28; rw [f_X12_image_l89]; exact r_none
  | succ n ih =>
    intro x27 σ28
    rw [f_X12_image_l89]
    refine r_iload_n hC dX12_image_89 rfl 1 rfl ?_
    refine r_aload_n hC dX12_image_90 rfl 0 rfl ?_
    refine r_getI hC clX12 0 11 rfl rfl (hC.n rfl) rfl lf_X12_122 dX12_image_91 ?_
    refine r_nmI (fun v31 => ?_)
    refine r_icmp_ge hC 115 dX12_image_94 (by decide) (fun c32 => ?_) (fun c32 => ?_)
    · exact r_lv [0] rfl (hK30 σ28)
    · refine r_aload_n hC dX12_image_97 rfl 0 rfl ?_
      refine r_getR hC clX12 0 53 24 rfl rfl rfl (hC.n rfl) rfl lf_X12_84 dX12_image_98 ?_
      refine r_iload_n hC dX12_image_101 rfl 1 rfl ?_
      refine r_aload_n hC dX12_image_102 rfl 0 rfl ?_
      refine r_getR hC clX12 0 9 6 rfl rfl rfl (hC.n rfl) rfl lf_X12_29 dX12_image_103 ?_
      refine r_iload_n hC dX12_image_106 rfl 1 rfl ?_
      refine r_gd (fun g33 => ?_)
      refine r_iald hC 6 16 rfl rfl g33 dX12_image_107 ?_
      refine r_nmI (fun v34 => ?_)
      refine r_gd (fun g35 => ?_)
      refine r_iast hC 24 16 rfl rfl g35 dX12_image_108 ?_
      refine r_nmS (fun σ36 => ?_)
      refine r_iinc (v := x27 + 1) (lv' := [(1, .int (x27 + 1)), (0, .ref (wA w 0))]) hC dX12_image_109 1 rfl rfl (by decide) rfl ?_
      refine r_goto hC 89 dX12_image_112 (by decide) ?_
      exact r_lv [1, 0] rfl (ih (x27 + 1) σ36)
set_option maxHeartbeats 4000000 in
set_option maxRecDepth 100000 in
theorem c_X12_image {l : Launch} {w : Wd} (hW : HWd w shM rM 29) (σ : St)   : ∀ res, f_X12_image σ = some res → MtI l yX12_image cX12_image 2 .int 1 22 w [.ref (wA w 0)] σ res := by
  refine mt_I (by decide) rfl hW (fun X hl0 hC hret => ?_)
  show RF X w (Aw w (xs_ X).heap.size) 2 (QI X w) (f_X12_image σ) 0 [(0, .ref (wA w 0))] [] σ
  unfold f_X12_image
  refine r_aload_n hC dX12_image_0 rfl 0 rfl ?_
  refine r_iconst (v := 1) hC dX12_image_1 (by decide) ?_
  refine r_putZ hC clX12 0 54 (Or.inr rfl) rfl rfl rfl (hC.n rfl) rfl rfl lf_X12_427 dX12_image_2 ?_
  refine r_nmS (fun σ1 => ?_)
  refine r_aload_n hC dX12_image_5 rfl 0 rfl ?_
  refine r_aload_n hC dX12_image_6 rfl 0 rfl ?_
  refine r_getI hC clX12 0 11 rfl rfl (hC.n rfl) rfl lf_X12_122 dX12_image_7 ?_
  refine r_nmI (fun v2 => ?_)
  refine r_putI hC clX12 0 55 rfl rfl rfl (hC.n rfl) rfl rfl lf_X12_430 dX12_image_10 ?_
  refine r_nmS (fun σ3 => ?_)
  refine r_aload_n hC dX12_image_13 rfl 0 rfl ?_
  refine r_aload_n hC dX12_image_14 rfl 0 rfl ?_
  refine r_getI hC clX12 0 15 rfl rfl (hC.n rfl) rfl lf_X12_117 dX12_image_15 ?_
  refine r_nmI (fun v4 => ?_)
  refine r_putI hC clX12 0 56 rfl rfl rfl (hC.n rfl) rfl rfl lf_X12_433 dX12_image_18 ?_
  refine r_nmS (fun σ5 => ?_)
  refine r_aload_n hC dX12_image_21 rfl 0 rfl ?_
  refine r_aload_n hC dX12_image_22 rfl 0 rfl ?_
  refine r_getI hC clX12 0 16 rfl rfl (hC.n rfl) rfl lf_X12_156 dX12_image_23 ?_
  refine r_nmI (fun v6 => ?_)
  refine r_putI hC clX12 0 57 rfl rfl rfl (hC.n rfl) rfl rfl lf_X12_436 dX12_image_26 ?_
  refine r_nmS (fun σ7 => ?_)
  refine r_aload_n hC dX12_image_29 rfl 0 rfl ?_
  refine r_aload_n hC dX12_image_30 rfl 0 rfl ?_
  refine r_getI hC clX12 0 4 rfl rfl (hC.n rfl) rfl lf_X12_315 dX12_image_31 ?_
  refine r_nmI (fun v8 => ?_)
  refine r_putI hC clX12 0 58 rfl rfl rfl (hC.n rfl) rfl rfl lf_X12_439 dX12_image_34 ?_
  refine r_nmS (fun σ9 => ?_)
  refine r_iconst (v := 0) hC dX12_image_37 (by decide) ?_
  refine r_istore_n (lv' := [(1, .int 0), (0, .ref (wA w 0))]) hC dX12_image_38 rfl (by decide) rfl ?_
  refine r_lv [1, 0] rfl ?_
  refine w_X12_image_l39 hC hret σ9 _ ?_ FU 0 σ9
  · intro σ12
    refine r_iconst (v := 0) hC dX12_image_87 (by decide) ?_
    refine r_istore_n (lv' := [(1, .int 0), (0, .ref (wA w 0))]) hC dX12_image_88 rfl (by decide) rfl ?_
    refine r_lv [1, 0] rfl ?_
    refine w_X12_image_l89 hC hret σ12 _ ?_ FU 0 σ12
    · intro σ29
      refine r_aload_n hC dX12_image_115 rfl 0 rfl ?_
      refine r_callVP hC (b := 0) (ci := 12) (st := []) [] rfl (hC.n rfl) rfl rfl (c_X12_sitting hC.w σ29) yk_X12_sitting lm_X12_442 rfl ⟨rfl, rfl⟩ rfl dX12_image_116 (fun v37 => ?_)
      exact r_iret hC hret rfl dX12_image_119
set_option maxHeartbeats 4000000 in
set_option maxRecDepth 100000 in
theorem w_X12_back_l36 {X : Mc} {w : Wd} (hC : Cok X w (Aw w (xs_ X).heap.size) yX12_back.cls cX12_back 2 1 22 shM rM 29) (hret : (xmeth X).sig.returnType = some .int) (σ8 : St)   (K12 : St → Option (Int32 × St)) (hK12 : ∀ (σ11 : St), RF X w (Aw w (xs_ X).heap.size) 2 (QI X w) (K12 σ11) 84 [(0, .ref (wA w 0))] [] σ11) : ∀ (n : Nat) (x9 : Int32) (σ10 : St), RF X w (Aw w (xs_ X).heap.size) 2 (QI X w) (f_X12_back_l36 K12 n x9 σ10) 36 [(0, .ref (wA w 0)), (1, .int x9)] [] σ10 := by
  intro n
  induction n with
  | zero => intro x9 σ10; rw [f_X12_back_l36]; exact r_none
  | succ n ih =>
    intro x9 σ10
    rw [f_X12_back_l36]
    refine r_iload_n hC dX12_back_36 rfl 1 rfl ?_
    refine r_bipush (v := 8) hC dX12_back_37 (by decide) ?_
    refine r_icmp_ge hC 84 dX12_back_39 (by decide) (fun c13 => ?_) (fun c13 => ?_)
    · exact r_lv [0] rfl (hK12 σ10)
    · refine r_aload_n hC dX12_back_42 rfl 0 rfl ?_
      refine r_getR hC clX12 0 12 8 rfl rfl rfl (hC.n rfl) rfl lf_X12_35 dX12_back_43 ?_
      refine r_iload_n hC dX12_back_46 rfl 1 rfl ?_
      refine r_aload_n hC dX12_back_47 rfl 0 rfl ?_
      refine r_getR hC clX12 0 50 21 rfl rfl rfl (hC.n rfl) rfl lf_X12_75 dX12_back_48 ?_
      refine r_iload_n hC dX12_back_51 rfl 1 rfl ?_
      refine r_gd (fun g14 => ?_)
      refine r_iald hC 21 8 rfl rfl g14 dX12_back_52 ?_
      refine r_nmI (fun v15 => ?_)
      refine r_gd (fun g16 => ?_)
      refine r_iast hC 8 8 rfl rfl g16 dX12_back_53 ?_
      refine r_nmS (fun σ17 => ?_)
      refine r_aload_n hC dX12_back_54 rfl 0 rfl ?_
      refine r_getR hC clX12 0 13 9 rfl rfl rfl (hC.n rfl) rfl lf_X12_38 dX12_back_55 ?_
      refine r_iload_n hC dX12_back_58 rfl 1 rfl ?_
      refine r_aload_n hC dX12_back_59 rfl 0 rfl ?_
      refine r_getR hC clX12 0 51 22 rfl rfl rfl (hC.n rfl) rfl lf_X12_78 dX12_back_60 ?_
      refine r_iload_n hC dX12_back_63 rfl 1 rfl ?_
      refine r_gd (fun g18 => ?_)
      refine r_iald hC 22 8 rfl rfl g18 dX12_back_64 ?_
      refine r_nmI (fun v19 => ?_)
      refine r_gd (fun g20 => ?_)
      refine r_iast hC 9 8 rfl rfl g20 dX12_back_65 ?_
      refine r_nmS (fun σ21 => ?_)
      refine r_aload_n hC dX12_back_66 rfl 0 rfl ?_
      refine r_getR hC clX12 0 14 10 rfl rfl rfl (hC.n rfl) rfl lf_X12_41 dX12_back_67 ?_
      refine r_iload_n hC dX12_back_70 rfl 1 rfl ?_
      refine r_aload_n hC dX12_back_71 rfl 0 rfl ?_
      refine r_getR hC clX12 0 52 23 rfl rfl rfl (hC.n rfl) rfl lf_X12_81 dX12_back_72 ?_
      refine r_iload_n hC dX12_back_75 rfl 1 rfl ?_
      refine r_gd (fun g22 => ?_)
      refine r_iald hC 23 8 rfl rfl g22 dX12_back_76 ?_
      refine r_nmI (fun v23 => ?_)
      refine r_gd (fun g24 => ?_)
      refine r_iast hC 10 8 rfl rfl g24 dX12_back_77 ?_
      refine r_nmS (fun σ25 => ?_)
      refine r_iinc (v := x9 + 1) (lv' := [(1, .int (x9 + 1)), (0, .ref (wA w 0))]) hC dX12_back_78 1 rfl rfl (by decide) rfl ?_
      refine r_goto hC 36 dX12_back_81 (by decide) ?_
      exact r_lv [1, 0] rfl (ih (x9 + 1) σ25)
set_option maxHeartbeats 4000000 in
set_option maxRecDepth 100000 in
theorem w_X12_back_l86 {X : Mc} {w : Wd} (hC : Cok X w (Aw w (xs_ X).heap.size) yX12_back.cls cX12_back 2 1 22 shM rM 29) (hret : (xmeth X).sig.returnType = some .int) (σ11 : St)   (K29 : St → Option (Int32 × St)) (hK29 : ∀ (σ28 : St), RF X w (Aw w (xs_ X).heap.size) 2 (QI X w) (K29 σ28) 112 [(0, .ref (wA w 0))] [] σ28) : ∀ (n : Nat) (x26 : Int32) (σ27 : St), RF X w (Aw w (xs_ X).heap.size) 2 (QI X w) (f_X12_back_l86 K29 n x26 σ27) 86 [(0, .ref (wA w 0)), (1, .int x26)] [] σ27 := by
  intro n
  induction n with
  | zero => intro x26 σ27; rw [f_X12_back_l86]; exact r_none
  | succ n ih =>
    intro x26 σ27
    rw [f_X12_back_l86]
    refine r_iload_n hC dX12_back_86 rfl 1 rfl ?_
    refine r_aload_n hC dX12_back_87 rfl 0 rfl ?_
    refine r_getI hC clX12 0 55 rfl rfl (hC.n rfl) rfl lf_X12_430 dX12_back_88 ?_
    refine r_nmI (fun v30 => ?_)
    refine r_icmp_ge hC 112 dX12_back_91 (by decide) (fun c31 => ?_) (fun c31 => ?_)
    · exact r_lv [0] rfl (hK29 σ27)
    · refine r_aload_n hC dX12_back_94 rfl 0 rfl ?_
      refine r_getR hC clX12 0 9 6 rfl rfl rfl (hC.n rfl) rfl lf_X12_29 dX12_back_95 ?_
      refine r_iload_n hC dX12_back_98 rfl 1 rfl ?_
      refine r_aload_n hC dX12_back_99 rfl 0 rfl ?_
      refine r_getR hC clX12 0 53 24 rfl rfl rfl (hC.n rfl) rfl lf_X12_84 dX12_back_100 ?_
      refine r_iload_n hC dX12_back_103 rfl 1 rfl ?_
      refine r_gd (fun g32 => ?_)
      refine r_iald hC 24 16 rfl rfl g32 dX12_back_104 ?_
      refine r_nmI (fun v33 => ?_)
      refine r_gd (fun g34 => ?_)
      refine r_iast hC 6 16 rfl rfl g34 dX12_back_105 ?_
      refine r_nmS (fun σ35 => ?_)
      refine r_iinc (v := x26 + 1) (lv' := [(1, .int (x26 + 1)), (0, .ref (wA w 0))]) hC dX12_back_106 1 rfl rfl (by decide) rfl ?_
      refine r_goto hC 86 dX12_back_109 (by decide) ?_
      exact r_lv [1, 0] rfl (ih (x26 + 1) σ35)
set_option maxHeartbeats 4000000 in
set_option maxRecDepth 100000 in
theorem c_X12_back {l : Launch} {w : Wd} (hW : HWd w shM rM 29) (σ : St)   : ∀ res, f_X12_back σ = some res → MtI l yX12_back cX12_back 2 .int 1 22 w [.ref (wA w 0)] σ res := by
  refine mt_I (by decide) rfl hW (fun X hl0 hC hret => ?_)
  show RF X w (Aw w (xs_ X).heap.size) 2 (QI X w) (f_X12_back σ) 0 [(0, .ref (wA w 0))] [] σ
  unfold f_X12_back
  refine r_aload_n hC dX12_back_0 rfl 0 rfl ?_
  refine r_getZ hC clX12 0 54 rfl rfl (hC.n rfl) rfl lf_X12_427 dX12_back_1 ?_
  refine r_nmI (fun v1 => ?_)
  refine r_if_ne hC 10 dX12_back_4 (by decide) (fun c2 => ?_) (fun c2 => ?_)
  · refine r_aload_n hC dX12_back_10 rfl 0 rfl ?_
    refine r_aload_n hC dX12_back_11 rfl 0 rfl ?_
    refine r_getI hC clX12 0 56 rfl rfl (hC.n rfl) rfl lf_X12_433 dX12_back_12 ?_
    refine r_nmI (fun v3 => ?_)
    refine r_putI hC clX12 0 15 rfl rfl rfl (hC.n rfl) rfl rfl lf_X12_117 dX12_back_15 ?_
    refine r_nmS (fun σ4 => ?_)
    refine r_aload_n hC dX12_back_18 rfl 0 rfl ?_
    refine r_aload_n hC dX12_back_19 rfl 0 rfl ?_
    refine r_getI hC clX12 0 57 rfl rfl (hC.n rfl) rfl lf_X12_436 dX12_back_20 ?_
    refine r_nmI (fun v5 => ?_)
    refine r_putI hC clX12 0 16 rfl rfl rfl (hC.n rfl) rfl rfl lf_X12_156 dX12_back_23 ?_
    refine r_nmS (fun σ6 => ?_)
    refine r_aload_n hC dX12_back_26 rfl 0 rfl ?_
    refine r_aload_n hC dX12_back_27 rfl 0 rfl ?_
    refine r_getI hC clX12 0 58 rfl rfl (hC.n rfl) rfl lf_X12_439 dX12_back_28 ?_
    refine r_nmI (fun v7 => ?_)
    refine r_putI hC clX12 0 4 rfl rfl rfl (hC.n rfl) rfl rfl lf_X12_315 dX12_back_31 ?_
    refine r_nmS (fun σ8 => ?_)
    refine r_iconst (v := 0) hC dX12_back_34 (by decide) ?_
    refine r_istore_n (lv' := [(1, .int 0), (0, .ref (wA w 0))]) hC dX12_back_35 rfl (by decide) rfl ?_
    refine r_lv [1, 0] rfl ?_
    refine w_X12_back_l36 hC hret σ8 _ ?_ FU 0 σ8
    · intro σ11
      refine r_iconst (v := 0) hC dX12_back_84 (by decide) ?_
      refine r_istore_n (lv' := [(1, .int 0), (0, .ref (wA w 0))]) hC dX12_back_85 rfl (by decide) rfl ?_
      refine r_lv [1, 0] rfl ?_
      refine w_X12_back_l86 hC hret σ11 _ ?_ FU 0 σ11
      · intro σ28
        refine r_aload_n hC dX12_back_112 rfl 0 rfl ?_
        refine r_callVP hC (b := 0) (ci := 12) (st := []) [] rfl (hC.n rfl) rfl rfl (c_X12_sitting hC.w σ28) yk_X12_sitting lm_X12_442 rfl ⟨rfl, rfl⟩ rfl dX12_back_113 (fun v36 => ?_)
        exact r_iret hC hret rfl dX12_back_116
  · refine r_bipush (v := (-3)) hC dX12_back_7 (by decide) ?_
    exact r_iret hC hret rfl dX12_back_9
set_option maxHeartbeats 4000000 in
set_option maxRecDepth 100000 in
theorem c_X12_count {l : Launch} {w : Wd} (hW : HWd w shM rM 29) (σ : St) (a2 : Int32)  : ∀ res, f_X12_count σ a2 = some res → MtI l yX12_count cX12_count 2 .int 1 22 w [.ref (wA w 0), .int a2] σ (res, σ) := by
  refine mt_P (by decide) rfl hW (fun X hl0 hC hret => ?_)
  show RF X w (Aw w (xs_ X).heap.size) 2 (fun r => QI X w (r, σ)) (f_X12_count σ a2) 0 [(0, .ref (wA w 0)), (1, .int a2)] [] σ
  unfold f_X12_count
  refine r_iload_n hC dX12_count_0 rfl 1 rfl ?_
  refine r_tab1 (off := 51) hC 52 0 dX12_count_1 (by decide) (by decide) (by decide) (by decide) ?_ (fun c2 => ?_)
  · refine r_aload_n hC dX12_count_52 rfl 0 rfl ?_
    refine r_getI hC clX12 0 11 rfl rfl (hC.n rfl) rfl lf_X12_122 dX12_count_53 ?_
    refine r_nmI (fun v1 => ?_)
    exact r_iretP hC hret rfl dX12_count_56
  · refine r_tab1 (off := 56) hC 57 1 dX12_count_1 (by decide) (by decide) (by decide) (by decide) ?_ (fun c4 => ?_)
    · refine r_aload_n hC dX12_count_57 rfl 0 rfl ?_
      refine r_callVP hC (b := 0) (ci := 12) (st := []) [] rfl (hC.n rfl) rfl rfl (c_X12_sitting hC.w σ) yk_X12_sitting lm_X12_442 rfl ⟨rfl, rfl⟩ rfl dX12_count_58 (fun v3 => ?_)
      exact r_iretP hC hret rfl dX12_count_61
    · refine r_tab1 (off := 61) hC 62 2 dX12_count_1 (by decide) (by decide) (by decide) (by decide) ?_ (fun c6 => ?_)
      · refine r_aload_n hC dX12_count_62 rfl 0 rfl ?_
        refine r_getI hC clX12 0 33 rfl rfl (hC.n rfl) rfl lf_X12_318 dX12_count_63 ?_
        refine r_nmI (fun v5 => ?_)
        exact r_iretP hC hret rfl dX12_count_66
      · refine r_tab1 (off := 66) hC 67 3 dX12_count_1 (by decide) (by decide) (by decide) (by decide) ?_ (fun c8 => ?_)
        · refine r_aload_n hC dX12_count_67 rfl 0 rfl ?_
          refine r_getI hC clX12 0 3 rfl rfl (hC.n rfl) rfl lf_X12_114 dX12_count_68 ?_
          refine r_nmI (fun v7 => ?_)
          exact r_iretP hC hret rfl dX12_count_71
        · refine r_tab1 (off := 71) hC 72 4 dX12_count_1 (by decide) (by decide) (by decide) (by decide) ?_ (fun c10 => ?_)
          · refine r_aload_n hC dX12_count_72 rfl 0 rfl ?_
            refine r_getI hC clX12 0 6 rfl rfl (hC.n rfl) rfl lf_X12_176 dX12_count_73 ?_
            refine r_nmI (fun v9 => ?_)
            exact r_iretP hC hret rfl dX12_count_76
          · refine r_tab1 (off := 76) hC 77 5 dX12_count_1 (by decide) (by decide) (by decide) (by decide) ?_ (fun c12 => ?_)
            · refine r_aload_n hC dX12_count_77 rfl 0 rfl ?_
              refine r_getI hC clX12 0 4 rfl rfl (hC.n rfl) rfl lf_X12_315 dX12_count_78 ?_
              refine r_nmI (fun v11 => ?_)
              exact r_iretP hC hret rfl dX12_count_81
            · refine r_tab1 (off := 81) hC 82 6 dX12_count_1 (by decide) (by decide) (by decide) (by decide) ?_ (fun c14 => ?_)
              · refine r_aload_n hC dX12_count_82 rfl 0 rfl ?_
                refine r_getI hC clX12 0 46 rfl rfl (hC.n rfl) rfl lf_X12_396 dX12_count_83 ?_
                refine r_nmI (fun v13 => ?_)
                exact r_iretP hC hret rfl dX12_count_86
              · refine r_tab1 (off := 86) hC 87 7 dX12_count_1 (by decide) (by decide) (by decide) (by decide) ?_ (fun c16 => ?_)
                · refine r_aload_n hC dX12_count_87 rfl 0 rfl ?_
                  refine r_getI hC clX12 0 49 rfl rfl (hC.n rfl) rfl lf_X12_413 dX12_count_88 ?_
                  refine r_nmI (fun v15 => ?_)
                  exact r_iretP hC hret rfl dX12_count_91
                · refine r_tab1 (off := 91) hC 92 8 dX12_count_1 (by decide) (by decide) (by decide) (by decide) ?_ (fun c18 => ?_)
                  · refine r_aload_n hC dX12_count_92 rfl 0 rfl ?_
                    refine r_callVP hC (b := 0) (ci := 12) (st := []) [] rfl (hC.n rfl) rfl rfl (c_X12_allWeights hC.w σ) yk_X12_allWeights lm_X12_362 rfl ⟨rfl, rfl⟩ rfl dX12_count_93 (fun v17 => ?_)
                    exact r_iretP hC hret rfl dX12_count_96
                  · refine r_tabD hC 97 dX12_count_1 (by have e0 := ne_toInt (a := 0) (by decide) c2; have e1 := ne_toInt (a := 1) (by decide) c4; have e2 := ne_toInt (a := 2) (by decide) c6; have e3 := ne_toInt (a := 3) (by decide) c8; have e4 := ne_toInt (a := 4) (by decide) c10; have e5 := ne_toInt (a := 5) (by decide) c12; have e6 := ne_toInt (a := 6) (by decide) c14; have e7 := ne_toInt (a := 7) (by decide) c16; have e8 := ne_toInt (a := 8) (by decide) c18; omega) (by decide) ?_
                    refine r_bipush (v := (-2)) hC dX12_count_97 (by decide) ?_
                    exact r_iretP hC hret rfl dX12_count_99
set_option maxHeartbeats 4000000 in
set_option maxRecDepth 100000 in
theorem w_X12_sheet_l77 {X : Mc} {w : Wd} (hC : Cok X w (Aw w (xs_ X).heap.size) yX12_sheet.cls cX12_sheet 5 2 45 shM rM 29) (hret : (xmeth X).sig.returnType = some .int) (a2 : Int32) (a3 : Int32) (a4 : Int32) (σ14 : St)     : ∀ (n : Nat) (x15 : Int32) (σ16 : St), RF X w (Aw w (xs_ X).heap.size) 5 (QI X w) (f_X12_sheet_l77 a2 a3 a4 n x15 σ16) 77 [(0, .ref (wA w 0)), (1, .int a2), (2, .int a3), (3, .int a4), (4, .int x15)] [] σ16 := by
  intro n
  induction n with
  | zero => intro x15 σ16; rw [f_X12_sheet_l77]; exact r_none
  | succ n ih =>
    intro x15 σ16
    rw [f_X12_sheet_l77]
    refine r_iload hC dX12_sheet_77 4 rfl ?_
    refine r_iload_n hC dX12_sheet_79 rfl 3 rfl ?_
    refine r_icmp_ge hC 106 dX12_sheet_80 (by decide) (fun c17 => ?_) (fun c17 => ?_)
    · refine r_iconst (v := 1) hC dX12_sheet_106 (by decide) ?_
      exact r_iret hC hret rfl dX12_sheet_107
    · refine r_iload_n hC dX12_sheet_83 rfl 2 rfl ?_
      refine r_if_lt hC 106 dX12_sheet_84 (by decide) (fun c18 => ?_) (fun c18 => ?_)
      · refine r_iconst (v := 1) hC dX12_sheet_106 (by decide) ?_
        exact r_iret hC hret rfl dX12_sheet_107
      · refine r_aload_n hC dX12_sheet_87 rfl 0 rfl ?_
        refine r_getR hC clX12 0 62 28 rfl rfl rfl (hC.n rfl) rfl lf_X12_97 dX12_sheet_88 ?_
        refine r_bipush (v := 40) hC dX12_sheet_91 (by decide) ?_
        refine r_iload_n hC dX12_sheet_93 rfl 1 rfl ?_
        refine r_imul hC dX12_sheet_94 ?_
        refine r_iload hC dX12_sheet_95 4 rfl ?_
        refine r_iadd hC dX12_sheet_97 ?_
        refine r_iconst (v := 0) hC dX12_sheet_98 (by decide) ?_
        refine r_gd (fun g19 => ?_)
        refine r_iast hC 28 160 rfl rfl g19 dX12_sheet_99 ?_
        refine r_nmS (fun σ20 => ?_)
        refine r_iinc (v := x15 + 1) (lv' := [(4, .int (x15 + 1)), (0, .ref (wA w 0)), (1, .int a2), (2, .int a3), (3, .int a4)]) hC dX12_sheet_100 4 rfl rfl (by decide) rfl ?_
        refine r_goto hC 77 dX12_sheet_103 (by decide) ?_
        exact r_lv [1, 2, 3, 4, 0] rfl (ih (x15 + 1) σ20)
set_option maxHeartbeats 4000000 in
set_option maxRecDepth 100000 in
theorem c_X12_sheet {l : Launch} {w : Wd} (hW : HWd w shM rM 29) (σ : St) (a2 : Int32) (a3 : Int32) (a4 : Int32)  : ∀ res, f_X12_sheet σ a2 a3 a4 = some res → MtI l yX12_sheet cX12_sheet 5 .int 2 45 w [.ref (wA w 0), .int a2, .int a3, .int a4] σ res := by
  refine mt_I (by decide) rfl hW (fun X hl0 hC hret => ?_)
  show RF X w (Aw w (xs_ X).heap.size) 5 (QI X w) (f_X12_sheet σ a2 a3 a4) 0 [(0, .ref (wA w 0)), (1, .int a2), (2, .int a3), (3, .int a4)] [] σ
  unfold f_X12_sheet
  refine r_iload_n hC dX12_sheet_0 rfl 1 rfl ?_
  refine r_callSP hC (st := []) [.int a2] (c_X12_isSheet hC.w σ a2) yk_X12_isSheet lm_X12_410 rfl ⟨rfl, rfl⟩ rfl dX12_sheet_1 (fun v1 => ?_)
  refine r_if_eq hC 31 dX12_sheet_4 (by decide) (fun c2 => ?_) (fun c2 => ?_)
  · refine r_bipush (v := (-2)) hC dX12_sheet_31 (by decide) ?_
    exact r_iret hC hret rfl dX12_sheet_33
  · refine r_iload_n hC dX12_sheet_7 rfl 2 rfl ?_
    refine r_i2l hC dX12_sheet_8 ?_
    refine r_ldc2 (v := (-1)) hC lc_X12_209 dX12_sheet_9 ?_
    refine r_ldc2 (v := 2) hC lc_X12_161 dX12_sheet_12 ?_
    refine r_callSP hC (st := []) [.long (Int32.toInt64 a3), .long (-1), .long 2] (c_X12_in hC.w σ (Int32.toInt64 a3) (-1) 2) yk_X12_in lm_X12_125 rfl ⟨rfl, rfl⟩ rfl dX12_sheet_15 (fun v3 => ?_)
    refine r_if_eq hC 31 dX12_sheet_18 (by decide) (fun c4 => ?_) (fun c4 => ?_)
    · refine r_bipush (v := (-2)) hC dX12_sheet_31 (by decide) ?_
      exact r_iret hC hret rfl dX12_sheet_33
    · refine r_iload_n hC dX12_sheet_21 rfl 2 rfl ?_
      refine r_jn (T := fun (j5 : Option (Int32 × St)) => RF X w (Aw w (xs_ X).heap.size) 5 (QI X w) j5 34 [(0, .ref (wA w 0)), (1, .int a2), (2, .int a3), (3, .int a4)] [] σ) ?_ (fun j5 hj5 => ?_)
      · refine r_iload_n hC dX12_sheet_34 rfl 2 rfl ?_
        refine r_jn (T := fun (j6 : Option (Int32 × St)) => RF X w (Aw w (xs_ X).heap.size) 5 (QI X w) j6 45 [(0, .ref (wA w 0)), (1, .int a2), (2, .int a3), (3, .int a4)] [] σ) ?_ (fun j6 hj6 => ?_)
        · refine r_aload_n hC dX12_sheet_45 rfl 0 rfl ?_
          refine r_getR hC clX12 0 59 25 rfl rfl rfl (hC.n rfl) rfl lf_X12_87 dX12_sheet_46 ?_
          refine r_iload_n hC dX12_sheet_49 rfl 1 rfl ?_
          refine r_iload_n hC dX12_sheet_50 rfl 2 rfl ?_
          refine r_jn (T := fun (j8 : Int32 → Option (Int32 × St)) => ∀ (t7 : Int32), RF X w (Aw w (xs_ X).heap.size) 5 (QI X w) (j8 t7) 59 [(0, .ref (wA w 0)), (1, .int a2), (2, .int a3), (3, .int a4)] [.int t7, .int a2, .ref (wA w 25)] σ) ?_ (fun j8 hj8 => ?_)
          · intro t7
            refine r_gd (fun g9 => ?_)
            refine r_zast hC 25 4 rfl rfl g9 dX12_sheet_59 ?_
            refine r_nmS (fun σ10 => ?_)
            refine r_aload_n hC dX12_sheet_60 rfl 0 rfl ?_
            refine r_getR hC clX12 0 60 26 rfl rfl rfl (hC.n rfl) rfl lf_X12_91 dX12_sheet_61 ?_
            refine r_iload_n hC dX12_sheet_64 rfl 1 rfl ?_
            refine r_iload_n hC dX12_sheet_65 rfl 2 rfl ?_
            refine r_gd (fun g11 => ?_)
            refine r_iast hC 26 4 rfl rfl g11 dX12_sheet_66 ?_
            refine r_nmS (fun σ12 => ?_)
            refine r_aload_n hC dX12_sheet_67 rfl 0 rfl ?_
            refine r_getR hC clX12 0 61 27 rfl rfl rfl (hC.n rfl) rfl lf_X12_94 dX12_sheet_68 ?_
            refine r_iload_n hC dX12_sheet_71 rfl 1 rfl ?_
            refine r_iload_n hC dX12_sheet_72 rfl 3 rfl ?_
            refine r_gd (fun g13 => ?_)
            refine r_iast hC 27 4 rfl rfl g13 dX12_sheet_73 ?_
            refine r_nmS (fun σ14 => ?_)
            refine r_iconst (v := 0) hC dX12_sheet_74 (by decide) ?_
            refine r_istore (lv' := [(4, .int 0), (0, .ref (wA w 0)), (1, .int a2), (2, .int a3), (3, .int a4)]) hC dX12_sheet_75 (by decide) rfl ?_
            refine r_lv [1, 2, 3, 4, 0] rfl ?_
            exact w_X12_sheet_l77 hC hret a2 a3 a4 σ14 FU 0 σ14
          · refine r_if_lt hC 58 dX12_sheet_51 (by decide) (fun c21 => ?_) (fun c21 => ?_)
            · refine r_iconst (v := 0) hC dX12_sheet_58 (by decide) ?_
              exact r_lv [0, 1, 2, 3] rfl (hj8 0)
            · refine r_iconst (v := 1) hC dX12_sheet_54 (by decide) ?_
              refine r_goto hC 59 dX12_sheet_55 (by decide) ?_
              exact r_lv [0, 1, 2, 3] rfl (hj8 1)
        · refine r_if_lt hC 45 dX12_sheet_35 (by decide) (fun c22 => ?_) (fun c22 => ?_)
          · exact r_lv [0, 1, 2, 3] rfl hj6
          · refine r_iload_n hC dX12_sheet_38 rfl 3 rfl ?_
            refine r_if_ge hC 45 dX12_sheet_39 (by decide) (fun c23 => ?_) (fun c23 => ?_)
            · exact r_lv [0, 1, 2, 3] rfl hj6
            · refine r_bipush (v := (-14)) hC dX12_sheet_42 (by decide) ?_
              exact r_iret hC hret rfl dX12_sheet_44
      · refine r_if_lt hC 34 dX12_sheet_22 (by decide) (fun c24 => ?_) (fun c24 => ?_)
        · exact r_lv [0, 1, 2, 3] rfl hj5
        · refine r_iload_n hC dX12_sheet_25 rfl 3 rfl ?_
          refine r_bipush (v := 40) hC dX12_sheet_26 (by decide) ?_
          refine r_icmp_le hC 34 dX12_sheet_28 (by decide) (fun c25 => ?_) (fun c25 => ?_)
          · exact r_lv [0, 1, 2, 3] rfl hj5
          · refine r_bipush (v := (-2)) hC dX12_sheet_31 (by decide) ?_
            exact r_iret hC hret rfl dX12_sheet_33
set_option maxHeartbeats 4000000 in
set_option maxRecDepth 100000 in
theorem c_X12_cell {l : Launch} {w : Wd} (hW : HWd w shM rM 29) (σ : St) (a2 : Int32) (a3 : Int32) (a4 : Int32)  : ∀ res, f_X12_cell σ a2 a3 a4 = some res → MtI l yX12_cell cX12_cell 4 .int 2 45 w [.ref (wA w 0), .int a2, .int a3, .int a4] σ res := by
  refine mt_I (by decide) rfl hW (fun X hl0 hC hret => ?_)
  show RF X w (Aw w (xs_ X).heap.size) 4 (QI X w) (f_X12_cell σ a2 a3 a4) 0 [(0, .ref (wA w 0)), (1, .int a2), (2, .int a3), (3, .int a4)] [] σ
  unfold f_X12_cell
  refine r_iload_n hC dX12_cell_0 rfl 1 rfl ?_
  refine r_callSP hC (st := []) [.int a2] (c_X12_isSheet hC.w σ a2) yk_X12_isSheet lm_X12_410 rfl ⟨rfl, rfl⟩ rfl dX12_cell_1 (fun v1 => ?_)
  refine r_if_ne hC 10 dX12_cell_4 (by decide) (fun c2 => ?_) (fun c2 => ?_)
  · refine r_aload_n hC dX12_cell_10 rfl 0 rfl ?_
    refine r_getR hC clX12 0 59 25 rfl rfl rfl (hC.n rfl) rfl lf_X12_87 dX12_cell_11 ?_
    refine r_iload_n hC dX12_cell_14 rfl 1 rfl ?_
    refine r_gd (fun g3 => ?_)
    refine r_zald hC 25 4 rfl rfl g3 dX12_cell_15 ?_
    refine r_nmI (fun v4 => ?_)
    refine r_if_ne hC 22 dX12_cell_16 (by decide) (fun c5 => ?_) (fun c5 => ?_)
    · refine r_iload_n hC dX12_cell_22 rfl 2 rfl ?_
      refine r_i2l hC dX12_cell_23 ?_
      refine r_lconst (v := 0) hC dX12_cell_24 (by decide) ?_
      refine r_aload_n hC dX12_cell_25 rfl 0 rfl ?_
      refine r_getR hC clX12 0 61 27 rfl rfl rfl (hC.n rfl) rfl lf_X12_94 dX12_cell_26 ?_
      refine r_iload_n hC dX12_cell_29 rfl 1 rfl ?_
      refine r_gd (fun g6 => ?_)
      refine r_iald hC 27 4 rfl rfl g6 dX12_cell_30 ?_
      refine r_nmI (fun v7 => ?_)
      refine r_iconst (v := 1) hC dX12_cell_31 (by decide) ?_
      refine r_isub hC dX12_cell_32 ?_
      refine r_i2l hC dX12_cell_33 ?_
      refine r_callSP hC (st := []) [.long (Int32.toInt64 a3), .long 0, .long (Int32.toInt64 (v7 - 1))] (c_X12_in hC.w σ (Int32.toInt64 a3) 0 (Int32.toInt64 (v7 - 1))) yk_X12_in lm_X12_125 rfl ⟨rfl, rfl⟩ rfl dX12_cell_34 (fun v8 => ?_)
      refine r_if_ne hC 43 dX12_cell_37 (by decide) (fun c9 => ?_) (fun c9 => ?_)
      · refine r_aload_n hC dX12_cell_43 rfl 0 rfl ?_
        refine r_getR hC clX12 0 62 28 rfl rfl rfl (hC.n rfl) rfl lf_X12_97 dX12_cell_44 ?_
        refine r_bipush (v := 40) hC dX12_cell_47 (by decide) ?_
        refine r_iload_n hC dX12_cell_49 rfl 1 rfl ?_
        refine r_imul hC dX12_cell_50 ?_
        refine r_iload_n hC dX12_cell_51 rfl 2 rfl ?_
        refine r_iadd hC dX12_cell_52 ?_
        refine r_aload_n hC dX12_cell_53 rfl 0 rfl ?_
        refine r_getR hC clX12 0 60 26 rfl rfl rfl (hC.n rfl) rfl lf_X12_91 dX12_cell_54 ?_
        refine r_iload_n hC dX12_cell_57 rfl 1 rfl ?_
        refine r_gd (fun g10 => ?_)
        refine r_iald hC 26 4 rfl rfl g10 dX12_cell_58 ?_
        refine r_nmI (fun v11 => ?_)
        refine r_jn (T := fun (j13 : Int32 → Option (Int32 × St)) => ∀ (t12 : Int32), RF X w (Aw w (xs_ X).heap.size) 4 (QI X w) (j13 t12) 83 [] [.int t12, .int ((40 * a2) + a3), .ref (wA w 28)] σ) ?_ (fun j13 hj13 => ?_)
        · intro t12
          refine r_gd (fun g14 => ?_)
          refine r_iast hC 28 160 rfl rfl g14 dX12_cell_83 ?_
          refine r_nmS (fun σ15 => ?_)
          refine r_iconst (v := 1) hC dX12_cell_84 (by decide) ?_
          exact r_iret hC hret rfl dX12_cell_85
        · refine r_if_ne hC 67 dX12_cell_59 (by decide) (fun c16 => ?_) (fun c16 => ?_)
          · refine r_aload_n hC dX12_cell_67 rfl 0 rfl ?_
            refine r_getR hC clX12 0 60 26 rfl rfl rfl (hC.n rfl) rfl lf_X12_91 dX12_cell_68 ?_
            refine r_iload_n hC dX12_cell_71 rfl 1 rfl ?_
            refine r_gd (fun g17 => ?_)
            refine r_iald hC 26 4 rfl rfl g17 dX12_cell_72 ?_
            refine r_nmI (fun v18 => ?_)
            refine r_iconst (v := 1) hC dX12_cell_73 (by decide) ?_
            refine r_icmp_ne hC 82 dX12_cell_74 (by decide) (fun c19 => ?_) (fun c19 => ?_)
            · refine r_iload_n hC dX12_cell_82 rfl 3 rfl ?_
              exact r_lv [] rfl (hj13 a4)
            · refine r_iload_n hC dX12_cell_77 rfl 3 rfl ?_
              refine r_i2s hC dX12_cell_78 ?_
              refine r_goto hC 83 dX12_cell_79 (by decide) ?_
              exact r_lv [] rfl (hj13 (Int16.toInt32 (Int32.toInt16 a4)))
          · refine r_iload_n hC dX12_cell_62 rfl 3 rfl ?_
            refine r_i2b hC dX12_cell_63 ?_
            refine r_goto hC 83 dX12_cell_64 (by decide) ?_
            exact r_lv [] rfl (hj13 (Int8.toInt32 (Int32.toInt8 a4)))
      · refine r_bipush (v := (-12)) hC dX12_cell_40 (by decide) ?_
        exact r_iret hC hret rfl dX12_cell_42
    · refine r_bipush (v := (-11)) hC dX12_cell_19 (by decide) ?_
      exact r_iret hC hret rfl dX12_cell_21
  · refine r_bipush (v := (-2)) hC dX12_cell_7 (by decide) ?_
    exact r_iret hC hret rfl dX12_cell_9
set_option maxHeartbeats 4000000 in
set_option maxRecDepth 100000 in
theorem w_X12_copy_l121 {X : Mc} {w : Wd} (hC : Cok X w (Aw w (xs_ X).heap.size) yX12_copy.cls cX12_copy 9 2 45 shM rM 29) (hret : (xmeth X).sig.returnType = some .int) (a2 : Int32) (a3 : Int32) (a4 : Int32) (a5 : Int32) (a6 : Int32) (t25 : Int32) (σ : St)     : ∀ (n : Nat) (x27 : Int32) (σ28 : St), RF X w (Aw w (xs_ X).heap.size) 9 (QI X w) (f_X12_copy_l121 a2 a3 a4 a5 a6 t25 n x27 σ28) 121 [(0, .ref (wA w 0)), (1, .int a2), (2, .int a3), (3, .int a4), (4, .int a5), (5, .int a6), (6, .int t25), (7, .int x27)] [] σ28 := by
  intro n
  induction n with
  | zero => intro x27 σ28; rw [f_X12_copy_l121]; exact r_none
  | succ n ih =>
    intro x27 σ28
    rw [f_X12_copy_l121]
    refine r_iload hC dX12_copy_121 7 rfl ?_
    refine r_iload hC dX12_copy_123 5 rfl ?_
    refine r_icmp_ge hC 182 dX12_copy_125 (by decide) (fun c29 => ?_) (fun c29 => ?_)
    · refine r_iload hC dX12_copy_182 5 rfl ?_
      exact r_iret hC hret rfl dX12_copy_184
    · refine r_iload hC dX12_copy_128 6 rfl ?_
      refine r_jn (T := fun (j31 : Int32 → Option (Int32 × St)) => ∀ (t30 : Int32), RF X w (Aw w (xs_ X).heap.size) 9 (QI X w) (j31 t30) 145 [(0, .ref (wA w 0)), (1, .int a2), (2, .int a3), (3, .int a4), (4, .int a5), (5, .int a6), (6, .int t25), (7, .int x27)] [.int t30] σ28) ?_ (fun j31 hj31 => ?_)
      · intro t30
        refine r_istore (lv' := [(8, .int t30), (0, .ref (wA w 0)), (1, .int a2), (2, .int a3), (3, .int a4), (4, .int a5), (5, .int a6), (6, .int t25), (7, .int x27)]) hC dX12_copy_145 (by decide) rfl ?_
        refine r_aload_n hC dX12_copy_147 rfl 1 rfl ?_
        refine r_getR hC clX12 0 62 28 rfl rfl rfl (hC.n rfl) rfl lf_X12_97 dX12_copy_148 ?_
        refine r_bipush (v := 40) hC dX12_copy_151 (by decide) ?_
        refine r_iload_n hC dX12_copy_153 rfl 4 rfl ?_
        refine r_imul hC dX12_copy_154 ?_
        refine r_iload hC dX12_copy_155 5 rfl ?_
        refine r_iadd hC dX12_copy_157 ?_
        refine r_iload hC dX12_copy_158 0 rfl ?_
        refine r_iadd hC dX12_copy_160 ?_
        refine r_aload_n hC dX12_copy_161 rfl 1 rfl ?_
        refine r_getR hC clX12 0 62 28 rfl rfl rfl (hC.n rfl) rfl lf_X12_97 dX12_copy_162 ?_
        refine r_bipush (v := 40) hC dX12_copy_165 (by decide) ?_
        refine r_iload_n hC dX12_copy_167 rfl 2 rfl ?_
        refine r_imul hC dX12_copy_168 ?_
        refine r_iload_n hC dX12_copy_169 rfl 3 rfl ?_
        refine r_iadd hC dX12_copy_170 ?_
        refine r_iload hC dX12_copy_171 0 rfl ?_
        refine r_iadd hC dX12_copy_173 ?_
        refine r_nmI (fun v32 => ?_)
        refine r_gd (fun g33 => ?_)
        refine r_iald hC 28 160 rfl rfl g33 dX12_copy_174 ?_
        refine r_nmI (fun v34 => ?_)
        refine r_gd (fun g35 => ?_)
        refine r_iast hC 28 160 rfl rfl g35 dX12_copy_175 ?_
        refine r_nmS (fun σ36 => ?_)
        refine r_iinc (v := x27 + 1) (lv' := [(7, .int (x27 + 1)), (8, .int t30), (0, .ref (wA w 0)), (1, .int a2), (2, .int a3), (3, .int a4), (4, .int a5), (5, .int a6), (6, .int t25)]) hC dX12_copy_176 8 rfl rfl (by decide) rfl ?_
        refine r_goto hC 121 dX12_copy_179 (by decide) ?_
        exact r_lv [2, 3, 4, 5, 6, 7, 8, 0] rfl (ih (x27 + 1) σ36)
      · refine r_if_eq hC 143 dX12_copy_130 (by decide) (fun c37 => ?_) (fun c37 => ?_)
        · refine r_iload hC dX12_copy_143 7 rfl ?_
          exact r_lv [0, 1, 2, 3, 4, 5, 6, 7] rfl (hj31 x27)
        · refine r_iload hC dX12_copy_133 5 rfl ?_
          refine r_iconst (v := 1) hC dX12_copy_135 (by decide) ?_
          refine r_isub hC dX12_copy_136 ?_
          refine r_iload hC dX12_copy_137 7 rfl ?_
          refine r_isub hC dX12_copy_139 ?_
          refine r_goto hC 145 dX12_copy_140 (by decide) ?_
          exact r_lv [0, 1, 2, 3, 4, 5, 6, 7] rfl (hj31 ((a6 - 1) - x27))
set_option maxHeartbeats 4000000 in
set_option maxRecDepth 100000 in
theorem c_X12_copy {l : Launch} {w : Wd} (hW : HWd w shM rM 29) (σ : St) (a2 : Int32) (a3 : Int32) (a4 : Int32) (a5 : Int32) (a6 : Int32)  : ∀ res, f_X12_copy σ a2 a3 a4 a5 a6 = some res → MtI l yX12_copy cX12_copy 9 .int 2 45 w [.ref (wA w 0), .int a2, .int a3, .int a4, .int a5, .int a6] σ res := by
  refine mt_I (by decide) rfl hW (fun X hl0 hC hret => ?_)
  show RF X w (Aw w (xs_ X).heap.size) 9 (QI X w) (f_X12_copy σ a2 a3 a4 a5 a6) 0 [(0, .ref (wA w 0)), (1, .int a2), (2, .int a3), (3, .int a4), (4, .int a5), (5, .int a6)] [] σ
  unfold f_X12_copy
  refine r_iload_n hC dX12_copy_0 rfl 1 rfl ?_
  refine r_callSP hC (st := []) [.int a2] (c_X12_isSheet hC.w σ a2) yk_X12_isSheet lm_X12_410 rfl ⟨rfl, rfl⟩ rfl dX12_copy_1 (fun v1 => ?_)
  refine r_if_eq hC 14 dX12_copy_4 (by decide) (fun c2 => ?_) (fun c2 => ?_)
  · refine r_bipush (v := (-2)) hC dX12_copy_14 (by decide) ?_
    exact r_iret hC hret rfl dX12_copy_16
  · refine r_iload_n hC dX12_copy_7 rfl 3 rfl ?_
    refine r_callSP hC (st := []) [.int a4] (c_X12_isSheet hC.w σ a4) yk_X12_isSheet lm_X12_410 rfl ⟨rfl, rfl⟩ rfl dX12_copy_8 (fun v3 => ?_)
    refine r_if_ne hC 17 dX12_copy_11 (by decide) (fun c4 => ?_) (fun c4 => ?_)
    · refine r_aload_n hC dX12_copy_17 rfl 0 rfl ?_
      refine r_getR hC clX12 0 59 25 rfl rfl rfl (hC.n rfl) rfl lf_X12_87 dX12_copy_18 ?_
      refine r_iload_n hC dX12_copy_21 rfl 1 rfl ?_
      refine r_gd (fun g5 => ?_)
      refine r_zald hC 25 4 rfl rfl g5 dX12_copy_22 ?_
      refine r_nmI (fun v6 => ?_)
      refine r_if_eq hC 35 dX12_copy_23 (by decide) (fun c7 => ?_) (fun c7 => ?_)
      · refine r_bipush (v := (-11)) hC dX12_copy_35 (by decide) ?_
        exact r_iret hC hret rfl dX12_copy_37
      · refine r_aload_n hC dX12_copy_26 rfl 0 rfl ?_
        refine r_getR hC clX12 0 59 25 rfl rfl rfl (hC.n rfl) rfl lf_X12_87 dX12_copy_27 ?_
        refine r_iload_n hC dX12_copy_30 rfl 3 rfl ?_
        refine r_gd (fun g8 => ?_)
        refine r_zald hC 25 4 rfl rfl g8 dX12_copy_31 ?_
        refine r_nmI (fun v9 => ?_)
        refine r_if_ne hC 38 dX12_copy_32 (by decide) (fun c10 => ?_) (fun c10 => ?_)
        · refine r_aload_n hC dX12_copy_38 rfl 0 rfl ?_
          refine r_getR hC clX12 0 60 26 rfl rfl rfl (hC.n rfl) rfl lf_X12_91 dX12_copy_39 ?_
          refine r_iload_n hC dX12_copy_42 rfl 1 rfl ?_
          refine r_gd (fun g11 => ?_)
          refine r_iald hC 26 4 rfl rfl g11 dX12_copy_43 ?_
          refine r_nmI (fun v12 => ?_)
          refine r_aload_n hC dX12_copy_44 rfl 0 rfl ?_
          refine r_getR hC clX12 0 60 26 rfl rfl rfl (hC.n rfl) rfl lf_X12_91 dX12_copy_45 ?_
          refine r_iload_n hC dX12_copy_48 rfl 3 rfl ?_
          refine r_gd (fun g13 => ?_)
          refine r_iald hC 26 4 rfl rfl g13 dX12_copy_49 ?_
          refine r_nmI (fun v14 => ?_)
          refine r_icmp_eq hC 56 dX12_copy_50 (by decide) (fun c15 => ?_) (fun c15 => ?_)
          · refine r_iload hC dX12_copy_56 5 rfl ?_
            refine r_if_lt hC 97 dX12_copy_58 (by decide) (fun c16 => ?_) (fun c16 => ?_)
            · refine r_bipush (v := (-12)) hC dX12_copy_97 (by decide) ?_
              exact r_iret hC hret rfl dX12_copy_99
            · refine r_iload_n hC dX12_copy_61 rfl 2 rfl ?_
              refine r_if_lt hC 97 dX12_copy_62 (by decide) (fun c17 => ?_) (fun c17 => ?_)
              · refine r_bipush (v := (-12)) hC dX12_copy_97 (by decide) ?_
                exact r_iret hC hret rfl dX12_copy_99
              · refine r_iload hC dX12_copy_65 4 rfl ?_
                refine r_if_lt hC 97 dX12_copy_67 (by decide) (fun c18 => ?_) (fun c18 => ?_)
                · refine r_bipush (v := (-12)) hC dX12_copy_97 (by decide) ?_
                  exact r_iret hC hret rfl dX12_copy_99
                · refine r_iload_n hC dX12_copy_70 rfl 2 rfl ?_
                  refine r_aload_n hC dX12_copy_71 rfl 0 rfl ?_
                  refine r_getR hC clX12 0 61 27 rfl rfl rfl (hC.n rfl) rfl lf_X12_94 dX12_copy_72 ?_
                  refine r_iload_n hC dX12_copy_75 rfl 1 rfl ?_
                  refine r_gd (fun g19 => ?_)
                  refine r_iald hC 27 4 rfl rfl g19 dX12_copy_76 ?_
                  refine r_nmI (fun v20 => ?_)
                  refine r_iload hC dX12_copy_77 5 rfl ?_
                  refine r_isub hC dX12_copy_79 ?_
                  refine r_icmp_gt hC 97 dX12_copy_80 (by decide) (fun c21 => ?_) (fun c21 => ?_)
                  · refine r_bipush (v := (-12)) hC dX12_copy_97 (by decide) ?_
                    exact r_iret hC hret rfl dX12_copy_99
                  · refine r_iload hC dX12_copy_83 4 rfl ?_
                    refine r_aload_n hC dX12_copy_85 rfl 0 rfl ?_
                    refine r_getR hC clX12 0 61 27 rfl rfl rfl (hC.n rfl) rfl lf_X12_94 dX12_copy_86 ?_
                    refine r_iload_n hC dX12_copy_89 rfl 3 rfl ?_
                    refine r_gd (fun g22 => ?_)
                    refine r_iald hC 27 4 rfl rfl g22 dX12_copy_90 ?_
                    refine r_nmI (fun v23 => ?_)
                    refine r_iload hC dX12_copy_91 5 rfl ?_
                    refine r_isub hC dX12_copy_93 ?_
                    refine r_icmp_le hC 100 dX12_copy_94 (by decide) (fun c24 => ?_) (fun c24 => ?_)
                    · refine r_iload_n hC dX12_copy_100 rfl 1 rfl ?_
                      refine r_iload_n hC dX12_copy_101 rfl 3 rfl ?_
                      refine r_jn (T := fun (j26 : Int32 → Option (Int32 × St)) => ∀ (t25 : Int32), RF X w (Aw w (xs_ X).heap.size) 9 (QI X w) (j26 t25) 116 [(0, .ref (wA w 0)), (1, .int a2), (2, .int a3), (3, .int a4), (4, .int a5), (5, .int a6)] [.int t25] σ) ?_ (fun j26 hj26 => ?_)
                      · intro t25
                        refine r_istore (lv' := [(6, .int t25), (0, .ref (wA w 0)), (1, .int a2), (2, .int a3), (3, .int a4), (4, .int a5), (5, .int a6)]) hC dX12_copy_116 (by decide) rfl ?_
                        refine r_iconst (v := 0) hC dX12_copy_118 (by decide) ?_
                        refine r_istore (lv' := [(7, .int 0), (6, .int t25), (0, .ref (wA w 0)), (1, .int a2), (2, .int a3), (3, .int a4), (4, .int a5), (5, .int a6)]) hC dX12_copy_119 (by decide) rfl ?_
                        refine r_lv [2, 3, 4, 5, 6, 7, 1, 0] rfl ?_
                        exact w_X12_copy_l121 hC hret a2 a3 a4 a5 a6 t25 σ FU 0 σ
                      · refine r_jn (T := fun (j38 : Option (Int32 × St)) => RF X w (Aw w (xs_ X).heap.size) 9 (QI X w) j38 115 [(0, .ref (wA w 0)), (1, .int a2), (2, .int a3), (3, .int a4), (4, .int a5), (5, .int a6)] [] σ) ?_ (fun j38 hj38 => ?_)
                        · refine r_iconst (v := 0) hC dX12_copy_115 (by decide) ?_
                          exact r_lv [0, 1, 2, 3, 4, 5] rfl (hj26 0)
                        · refine r_icmp_ne hC 115 dX12_copy_102 (by decide) (fun c39 => ?_) (fun c39 => ?_)
                          · exact r_lv [0, 1, 2, 3, 4, 5] rfl hj38
                          · refine r_iload_n hC dX12_copy_105 rfl 2 rfl ?_
                            refine r_iload hC dX12_copy_106 4 rfl ?_
                            refine r_icmp_ge hC 115 dX12_copy_108 (by decide) (fun c40 => ?_) (fun c40 => ?_)
                            · exact r_lv [0, 1, 2, 3, 4, 5] rfl hj38
                            · refine r_iconst (v := 1) hC dX12_copy_111 (by decide) ?_
                              refine r_goto hC 116 dX12_copy_112 (by decide) ?_
                              exact r_lv [0, 1, 2, 3, 4, 5] rfl (hj26 1)
                    · refine r_bipush (v := (-12)) hC dX12_copy_97 (by decide) ?_
                      exact r_iret hC hret rfl dX12_copy_99
          · refine r_bipush (v := (-13)) hC dX12_copy_53 (by decide) ?_
            exact r_iret hC hret rfl dX12_copy_55
        · refine r_bipush (v := (-11)) hC dX12_copy_35 (by decide) ?_
          exact r_iret hC hret rfl dX12_copy_37
    · refine r_bipush (v := (-2)) hC dX12_copy_14 (by decide) ?_
      exact r_iret hC hret rfl dX12_copy_16
set_option maxHeartbeats 4000000 in
set_option maxRecDepth 100000 in
theorem w_X12_pieces_l75 {X : Mc} {w : Wd} (hC : Cok X w (Aw w (xs_ X).heap.size) yX12_pieces.cls cX12_pieces 8 3 70 shM rM 29) (hret : (xmeth X).sig.returnType = some .int) (a2 : Int32) (a4 : Int32) (a5 : Int32) (σ : St)     : ∀ (n : Nat) (x13 : Int32) (x14 : Int32) (σ15 : St), RF X w (Aw w (xs_ X).heap.size) 8 (QI X w) (f_X12_pieces_l75 a2 a4 a5 n x13 x14 σ15) 75 [(0, .ref (wA w 0)), (1, .int a2), (3, .int a4), (4, .int a5), (5, .int x13), (6, .int x14)] [] σ15 := by
  intro n
  induction n with
  | zero => intro x13 x14 σ15; rw [f_X12_pieces_l75]; exact r_none
  | succ n ih =>
    intro x13 x14 σ15
    rw [f_X12_pieces_l75]
    refine r_iload hC dX12_pieces_75 5 rfl ?_
    refine r_iload hC dX12_pieces_77 3 rfl ?_
    refine r_icmp_ge hC 176 dX12_pieces_79 (by decide) (fun c16 => ?_) (fun c16 => ?_)
    · refine r_iload hC dX12_pieces_176 4 rfl ?_
      exact r_iret hC hret rfl dX12_pieces_178
    · refine r_iload_n hC dX12_pieces_82 rfl 2 rfl ?_
      refine r_if_lt hC 103 dX12_pieces_83 (by decide) (fun c17 => ?_) (fun c17 => ?_)
      · refine r_bipush (v := (-12)) hC dX12_pieces_103 (by decide) ?_
        exact r_iret hC hret rfl dX12_pieces_105
      · refine r_iload_n hC dX12_pieces_86 rfl 2 rfl ?_
        refine r_aload_n hC dX12_pieces_87 rfl 0 rfl ?_
        refine r_getR hC clX12 0 61 27 rfl rfl rfl (hC.n rfl) rfl lf_X12_94 dX12_pieces_88 ?_
        refine r_iload_n hC dX12_pieces_91 rfl 1 rfl ?_
        refine r_gd (fun g18 => ?_)
        refine r_iald hC 27 4 rfl rfl g18 dX12_pieces_92 ?_
        refine r_nmI (fun v19 => ?_)
        refine r_iconst (v := 4) hC dX12_pieces_93 (by decide) ?_
        refine r_iload hC dX12_pieces_94 5 rfl ?_
        refine r_imul hC dX12_pieces_96 ?_
        refine r_isub hC dX12_pieces_97 ?_
        refine r_iconst (v := 4) hC dX12_pieces_98 (by decide) ?_
        refine r_isub hC dX12_pieces_99 ?_
        refine r_icmp_le hC 106 dX12_pieces_100 (by decide) (fun c20 => ?_) (fun c20 => ?_)
        · refine r_bipush (v := 40) hC dX12_pieces_106 (by decide) ?_
          refine r_iload_n hC dX12_pieces_108 rfl 1 rfl ?_
          refine r_imul hC dX12_pieces_109 ?_
          refine r_iload_n hC dX12_pieces_110 rfl 2 rfl ?_
          refine r_iadd hC dX12_pieces_111 ?_
          refine r_iconst (v := 4) hC dX12_pieces_112 (by decide) ?_
          refine r_iload hC dX12_pieces_113 5 rfl ?_
          refine r_imul hC dX12_pieces_115 ?_
          refine r_iadd hC dX12_pieces_116 ?_
          refine r_nmI (fun v21 => ?_)
          refine r_istore (lv' := [(7, .int v21), (0, .ref (wA w 0)), (1, .int a2), (3, .int a4), (4, .int a5), (5, .int x13), (6, .int x14)]) hC dX12_pieces_117 (by decide) rfl ?_
          refine r_iload hC dX12_pieces_119 5 rfl ?_
          refine r_aload_n hC dX12_pieces_121 rfl 1 rfl ?_
          refine r_aload_n hC dX12_pieces_122 rfl 1 rfl ?_
          refine r_getR hC clX12 0 62 28 rfl rfl rfl (hC.n rfl) rfl lf_X12_97 dX12_pieces_123 ?_
          refine r_iload hC dX12_pieces_126 0 rfl ?_
          refine r_gd (fun g22 => ?_)
          refine r_iald hC 28 160 rfl rfl g22 dX12_pieces_128 ?_
          refine r_nmI (fun v23 => ?_)
          refine r_aload_n hC dX12_pieces_129 rfl 1 rfl ?_
          refine r_getR hC clX12 0 62 28 rfl rfl rfl (hC.n rfl) rfl lf_X12_97 dX12_pieces_130 ?_
          refine r_iload hC dX12_pieces_133 0 rfl ?_
          refine r_iconst (v := 1) hC dX12_pieces_135 (by decide) ?_
          refine r_iadd hC dX12_pieces_136 ?_
          refine r_nmI (fun v24 => ?_)
          refine r_gd (fun g25 => ?_)
          refine r_iald hC 28 160 rfl rfl g25 dX12_pieces_137 ?_
          refine r_nmI (fun v26 => ?_)
          refine r_aload_n hC dX12_pieces_138 rfl 1 rfl ?_
          refine r_getR hC clX12 0 62 28 rfl rfl rfl (hC.n rfl) rfl lf_X12_97 dX12_pieces_139 ?_
          refine r_iload hC dX12_pieces_142 0 rfl ?_
          refine r_iconst (v := 2) hC dX12_pieces_144 (by decide) ?_
          refine r_iadd hC dX12_pieces_145 ?_
          refine r_nmI (fun v27 => ?_)
          refine r_gd (fun g28 => ?_)
          refine r_iald hC 28 160 rfl rfl g28 dX12_pieces_146 ?_
          refine r_nmI (fun v29 => ?_)
          refine r_aload_n hC dX12_pieces_147 rfl 1 rfl ?_
          refine r_getR hC clX12 0 62 28 rfl rfl rfl (hC.n rfl) rfl lf_X12_97 dX12_pieces_148 ?_
          refine r_iload hC dX12_pieces_151 0 rfl ?_
          refine r_iconst (v := 3) hC dX12_pieces_153 (by decide) ?_
          refine r_iadd hC dX12_pieces_154 ?_
          refine r_nmI (fun v30 => ?_)
          refine r_gd (fun g31 => ?_)
          refine r_iald hC 28 160 rfl rfl g31 dX12_pieces_155 ?_
          refine r_nmI (fun v32 => ?_)
          refine r_callVI hC (b := 0) (ci := 12) (st := [.int x13]) [.int v23, .int v26, .int v29, .int v32] rfl (hC.n rfl) rfl rfl (c_X12_piece hC.w σ15 v23 v26 v29 v32) yk_X12_piece lm_X12_447 rfl ⟨rfl, rfl⟩ rfl dX12_pieces_156 (fun v33 σ34 => ?_)
          refine r_jn (T := fun (j36 : Int32 → Option (Int32 × St)) => ∀ (t35 : Int32), RF X w (Aw w (xs_ X).heap.size) 8 (QI X w) (j36 t35) 167 [(0, .ref (wA w 0)), (1, .int a2), (3, .int a4), (4, .int a5), (6, .int x14)] [.int t35, .int x13] σ34) ?_ (fun j36 hj36 => ?_)
          · intro t35
            refine r_iadd hC dX12_pieces_167 ?_
            refine r_nmI (fun v37 => ?_)
            refine r_istore (lv' := [(5, .int v37), (0, .ref (wA w 0)), (1, .int a2), (3, .int a4), (4, .int a5), (6, .int x14)]) hC dX12_pieces_168 (by decide) rfl ?_
            refine r_iinc (v := x14 + 1) (lv' := [(6, .int (x14 + 1)), (5, .int v37), (0, .ref (wA w 0)), (1, .int a2), (3, .int a4), (4, .int a5)]) hC dX12_pieces_170 5 rfl rfl (by decide) rfl ?_
            refine r_goto hC 75 dX12_pieces_173 (by decide) ?_
            exact r_lv [2, 3, 4, 5, 1, 0] rfl (ih v37 (x14 + 1) σ34)
          · refine r_if_lt hC 166 dX12_pieces_159 (by decide) (fun c38 => ?_) (fun c38 => ?_)
            · refine r_iconst (v := 0) hC dX12_pieces_166 (by decide) ?_
              exact r_lv [1, 2, 3, 4, 6] rfl (hj36 0)
            · refine r_iconst (v := 1) hC dX12_pieces_162 (by decide) ?_
              refine r_goto hC 167 dX12_pieces_163 (by decide) ?_
              exact r_lv [1, 2, 3, 4, 6] rfl (hj36 1)
        · refine r_bipush (v := (-12)) hC dX12_pieces_103 (by decide) ?_
          exact r_iret hC hret rfl dX12_pieces_105
set_option maxHeartbeats 4000000 in
set_option maxRecDepth 100000 in
theorem c_X12_pieces {l : Launch} {w : Wd} (hW : HWd w shM rM 29) (σ : St) (a2 : Int32) (a3 : Int32) (a4 : Int32) (a5 : Int32)  : ∀ res, f_X12_pieces σ a2 a3 a4 a5 = some res → MtI l yX12_pieces cX12_pieces 8 .int 3 70 w [.ref (wA w 0), .int a2, .int a3, .int a4, .int a5] σ res := by
  refine mt_I (by decide) rfl hW (fun X hl0 hC hret => ?_)
  show RF X w (Aw w (xs_ X).heap.size) 8 (QI X w) (f_X12_pieces σ a2 a3 a4 a5) 0 [(0, .ref (wA w 0)), (1, .int a2), (2, .int a3), (3, .int a4), (4, .int a5)] [] σ
  unfold f_X12_pieces
  refine r_iload_n hC dX12_pieces_0 rfl 1 rfl ?_
  refine r_callSP hC (st := []) [.int a2] (c_X12_isSheet hC.w σ a2) yk_X12_isSheet lm_X12_410 rfl ⟨rfl, rfl⟩ rfl dX12_pieces_1 (fun v1 => ?_)
  refine r_if_eq hC 32 dX12_pieces_4 (by decide) (fun c2 => ?_) (fun c2 => ?_)
  · refine r_bipush (v := (-2)) hC dX12_pieces_32 (by decide) ?_
    exact r_iret hC hret rfl dX12_pieces_34
  · refine r_iload_n hC dX12_pieces_7 rfl 2 rfl ?_
    refine r_i2l hC dX12_pieces_8 ?_
    refine r_lconst (v := 0) hC dX12_pieces_9 (by decide) ?_
    refine r_ldc2 (v := 2) hC lc_X12_161 dX12_pieces_10 ?_
    refine r_callSP hC (st := []) [.long (Int32.toInt64 a3), .long 0, .long 2] (c_X12_in hC.w σ (Int32.toInt64 a3) 0 2) yk_X12_in lm_X12_125 rfl ⟨rfl, rfl⟩ rfl dX12_pieces_13 (fun v3 => ?_)
    refine r_if_eq hC 32 dX12_pieces_16 (by decide) (fun c4 => ?_) (fun c4 => ?_)
    · refine r_bipush (v := (-2)) hC dX12_pieces_32 (by decide) ?_
      exact r_iret hC hret rfl dX12_pieces_34
    · refine r_iload hC dX12_pieces_19 4 rfl ?_
      refine r_i2l hC dX12_pieces_21 ?_
      refine r_lconst (v := 0) hC dX12_pieces_22 (by decide) ?_
      refine r_ldc2 (v := 10) hC lc_X12_215 dX12_pieces_23 ?_
      refine r_callSP hC (st := []) [.long (Int32.toInt64 a5), .long 0, .long 10] (c_X12_in hC.w σ (Int32.toInt64 a5) 0 10) yk_X12_in lm_X12_125 rfl ⟨rfl, rfl⟩ rfl dX12_pieces_26 (fun v5 => ?_)
      refine r_if_ne hC 35 dX12_pieces_29 (by decide) (fun c6 => ?_) (fun c6 => ?_)
      · refine r_aload_n hC dX12_pieces_35 rfl 0 rfl ?_
        refine r_getR hC clX12 0 59 25 rfl rfl rfl (hC.n rfl) rfl lf_X12_87 dX12_pieces_36 ?_
        refine r_iload_n hC dX12_pieces_39 rfl 1 rfl ?_
        refine r_gd (fun g7 => ?_)
        refine r_zald hC 25 4 rfl rfl g7 dX12_pieces_40 ?_
        refine r_nmI (fun v8 => ?_)
        refine r_jn (T := fun (j9 : Option (Int32 × St)) => RF X w (Aw w (xs_ X).heap.size) 8 (QI X w) j9 57 [(0, .ref (wA w 0)), (1, .int a2), (3, .int a4), (4, .int a5)] [] σ) ?_ (fun j9 hj9 => ?_)
        · refine r_aload_n hC dX12_pieces_57 rfl 0 rfl ?_
          refine r_getR hC clX12 0 59 25 rfl rfl rfl (hC.n rfl) rfl lf_X12_87 dX12_pieces_58 ?_
          refine r_iload_n hC dX12_pieces_61 rfl 1 rfl ?_
          refine r_gd (fun g10 => ?_)
          refine r_zald hC 25 4 rfl rfl g10 dX12_pieces_62 ?_
          refine r_nmI (fun v11 => ?_)
          refine r_if_ne hC 69 dX12_pieces_63 (by decide) (fun c12 => ?_) (fun c12 => ?_)
          · refine r_iconst (v := 0) hC dX12_pieces_69 (by decide) ?_
            refine r_istore (lv' := [(5, .int 0), (0, .ref (wA w 0)), (1, .int a2), (3, .int a4), (4, .int a5)]) hC dX12_pieces_70 (by decide) rfl ?_
            refine r_iconst (v := 0) hC dX12_pieces_72 (by decide) ?_
            refine r_istore (lv' := [(6, .int 0), (5, .int 0), (0, .ref (wA w 0)), (1, .int a2), (3, .int a4), (4, .int a5)]) hC dX12_pieces_73 (by decide) rfl ?_
            refine r_lv [2, 3, 4, 5, 1, 0] rfl ?_
            exact w_X12_pieces_l75 hC hret a2 a4 a5 σ FU 0 0 σ
          · refine r_bipush (v := (-11)) hC dX12_pieces_66 (by decide) ?_
            exact r_iret hC hret rfl dX12_pieces_68
        · refine r_if_eq hC 57 dX12_pieces_41 (by decide) (fun c39 => ?_) (fun c39 => ?_)
          · exact r_lv [0, 1, 3, 4] rfl hj9
          · refine r_aload_n hC dX12_pieces_44 rfl 0 rfl ?_
            refine r_getR hC clX12 0 60 26 rfl rfl rfl (hC.n rfl) rfl lf_X12_91 dX12_pieces_45 ?_
            refine r_iload_n hC dX12_pieces_48 rfl 1 rfl ?_
            refine r_gd (fun g40 => ?_)
            refine r_iald hC 26 4 rfl rfl g40 dX12_pieces_49 ?_
            refine r_nmI (fun v41 => ?_)
            refine r_iload_n hC dX12_pieces_50 rfl 2 rfl ?_
            refine r_icmp_eq hC 57 dX12_pieces_51 (by decide) (fun c42 => ?_) (fun c42 => ?_)
            · exact r_lv [0, 1, 3, 4] rfl hj9
            · refine r_bipush (v := (-13)) hC dX12_pieces_54 (by decide) ?_
              exact r_iret hC hret rfl dX12_pieces_56
      · refine r_bipush (v := (-2)) hC dX12_pieces_32 (by decide) ?_
        exact r_iret hC hret rfl dX12_pieces_34
set_option maxHeartbeats 4000000 in
set_option maxRecDepth 100000 in
theorem c_X12_over {l : Launch} {w : Wd} (hW : HWd w shM rM 29) (σ : St) (a1 : Int32)  : ∀ res, f_X12_over a1 = some res → MtI l yX12_over cX12_over 1 .int 0 0 w [.int a1] σ (res, σ) := by
  refine mt_P (by decide) rfl hW (fun X hl0 hC hret => ?_)
  show RF X w (Aw w (xs_ X).heap.size) 1 (fun r => QI X w (r, σ)) (f_X12_over a1) 0 [(0, .int a1)] [] σ
  unfold f_X12_over
  refine r_iload_n hC dX12_over_0 rfl 0 rfl ?_
  refine r_if_ne hC 8 dX12_over_1 (by decide) (fun c1 => ?_) (fun c1 => ?_)
  · refine r_iload_n hC dX12_over_8 rfl 0 rfl ?_
    refine r_iconst (v := 4) hC dX12_over_9 (by decide) ?_
    refine r_icmp_ne hC 17 dX12_over_10 (by decide) (fun c2 => ?_) (fun c2 => ?_)
    · refine r_iload_n hC dX12_over_17 rfl 0 rfl ?_
      refine r_iconst (v := 5) hC dX12_over_18 (by decide) ?_
      refine r_icmp_ne hC 26 dX12_over_19 (by decide) (fun c3 => ?_) (fun c3 => ?_)
      · refine r_iconst (v := 0) hC dX12_over_26 (by decide) ?_
        exact r_iretP hC hret rfl dX12_over_27
      · refine r_iconst (v := 1) hC dX12_over_22 (by decide) ?_
        refine r_goto hC 27 dX12_over_23 (by decide) ?_
        exact r_iretP hC hret rfl dX12_over_27
    · refine r_iconst (v := 3) hC dX12_over_13 (by decide) ?_
      refine r_goto hC 27 dX12_over_14 (by decide) ?_
      exact r_iretP hC hret rfl dX12_over_27
  · refine r_iconst (v := (-1)) hC dX12_over_4 (by decide) ?_
    refine r_goto hC 27 dX12_over_5 (by decide) ?_
    exact r_iretP hC hret rfl dX12_over_27
set_option maxHeartbeats 4000000 in
set_option maxRecDepth 100000 in
theorem w_X12_taken_l58 {X : Mc} {w : Wd} (hC : Cok X w (Aw w (xs_ X).heap.size) yX12_taken.cls cX12_taken 5 2 46 shM rM 29) (hret : (xmeth X).sig.returnType = some .int) (a4 : Int32) (σ : St) (a3 : Int32)   (K14 : Int32 → Option Int32) (hK14 : ∀ (x13 : Int32), RF X w (Aw w (xs_ X).heap.size) 5 (fun r => QI X w (r, σ)) (K14 x13) 80 [(2, .int a3), (3, .int a4), (4, .int x13)] [] σ) : ∀ (n : Nat) (x12 : Int32), RF X w (Aw w (xs_ X).heap.size) 5 (fun r => QI X w (r, σ)) (f_X12_taken_l58 a4 K14 n x12) 58 [(2, .int a3), (3, .int a4), (4, .int x12)] [] σ := by
  intro n
  induction n with
  | zero => intro x12; rw [f_X12_taken_l58]; exact r_none
  | succ n ih =>
    intro x12
    rw [f_X12_taken_l58]
    refine r_iload hC dX12_taken_58 2 rfl ?_
    refine r_iconst (v := (-1)) hC dX12_taken_60 (by decide) ?_
    refine r_icmp_eq hC 80 dX12_taken_61 (by decide) (fun c15 => ?_) (fun c15 => ?_)
    · exact r_lv [0, 1, 2] rfl (hK14 x12)
    · refine r_iload hC dX12_taken_64 2 rfl ?_
      refine r_iload_n hC dX12_taken_66 rfl 1 rfl ?_
      refine r_icmp_eq hC 80 dX12_taken_67 (by decide) (fun c16 => ?_) (fun c16 => ?_)
      · exact r_lv [0, 1, 2] rfl (hK14 x12)
      · refine r_iload hC dX12_taken_70 2 rfl ?_
        refine r_callSP hC (st := []) [.int x12] (c_X12_over hC.w σ x12) yk_X12_over lm_X12_451 rfl ⟨rfl, rfl⟩ rfl dX12_taken_72 (fun v17 => ?_)
        refine r_istore (lv' := [(4, .int v17), (2, .int a3), (3, .int a4)]) hC dX12_taken_75 (by decide) rfl ?_
        refine r_goto hC 58 dX12_taken_77 (by decide) ?_
        exact r_lv [1, 2, 0] rfl (ih v17)
set_option maxHeartbeats 4000000 in
set_option maxRecDepth 100000 in
theorem c_X12_taken {l : Launch} {w : Wd} (hW : HWd w shM rM 29) (σ : St) (a2 : Int32) (a3 : Int32) (a4 : Int32)  : ∀ res, f_X12_taken σ a2 a3 a4 = some res → MtI l yX12_taken cX12_taken 5 .int 2 46 w [.ref (wA w 0), .int a2, .int a3, .int a4] σ (res, σ) := by
  refine mt_P (by decide) rfl hW (fun X hl0 hC hret => ?_)
  show RF X w (Aw w (xs_ X).heap.size) 5 (fun r => QI X w (r, σ)) (f_X12_taken σ a2 a3 a4) 0 [(0, .ref (wA w 0)), (1, .int a2), (2, .int a3), (3, .int a4)] [] σ
  unfold f_X12_taken
  refine r_iload_n hC dX12_taken_0 rfl 3 rfl ?_
  refine r_i2l hC dX12_taken_1 ?_
  refine r_lconst (v := 0) hC dX12_taken_2 (by decide) ?_
  refine r_ldc2 (v := 5) hC lc_X12_159 dX12_taken_3 ?_
  refine r_callSP hC (st := []) [.long (Int32.toInt64 a4), .long 0, .long 5] (c_X12_in hC.w σ (Int32.toInt64 a4) 0 5) yk_X12_in lm_X12_125 rfl ⟨rfl, rfl⟩ rfl dX12_taken_6 (fun v1 => ?_)
  refine r_if_ne hC 15 dX12_taken_9 (by decide) (fun c2 => ?_) (fun c2 => ?_)
  · refine r_aload_n hC dX12_taken_15 rfl 0 rfl ?_
    refine r_iload_n hC dX12_taken_16 rfl 1 rfl ?_
    refine r_callVP hC (b := 0) (ci := 12) (st := []) [.int a2] rfl (hC.n rfl) rfl rfl (c_X12_isPlan hC.w σ a2) yk_X12_isPlan lm_X12_330 rfl ⟨rfl, rfl⟩ rfl dX12_taken_17 (fun v3 => ?_)
    refine r_if_eq hC 41 dX12_taken_20 (by decide) (fun c4 => ?_) (fun c4 => ?_)
    · refine r_bipush (v := (-11)) hC dX12_taken_41 (by decide) ?_
      exact r_iretP hC hret rfl dX12_taken_43
    · refine r_iload_n hC dX12_taken_23 rfl 2 rfl ?_
      refine r_i2l hC dX12_taken_24 ?_
      refine r_lconst (v := 0) hC dX12_taken_25 (by decide) ?_
      refine r_aload_n hC dX12_taken_26 rfl 0 rfl ?_
      refine r_getR hC clX12 0 31 11 rfl rfl rfl (hC.n rfl) rfl lf_X12_44 dX12_taken_27 ?_
      refine r_iload_n hC dX12_taken_30 rfl 1 rfl ?_
      refine r_gd (fun g5 => ?_)
      refine r_iald hC 11 8 rfl rfl g5 dX12_taken_31 ?_
      refine r_nmI (fun v6 => ?_)
      refine r_iconst (v := 1) hC dX12_taken_32 (by decide) ?_
      refine r_isub hC dX12_taken_33 ?_
      refine r_i2l hC dX12_taken_34 ?_
      refine r_callSP hC (st := []) [.long (Int32.toInt64 a3), .long 0, .long (Int32.toInt64 (v6 - 1))] (c_X12_in hC.w σ (Int32.toInt64 a3) 0 (Int32.toInt64 (v6 - 1))) yk_X12_in lm_X12_125 rfl ⟨rfl, rfl⟩ rfl dX12_taken_35 (fun v7 => ?_)
      refine r_if_ne hC 44 dX12_taken_38 (by decide) (fun c8 => ?_) (fun c8 => ?_)
      · refine r_aload_n hC dX12_taken_44 rfl 0 rfl ?_
        refine r_getR hC clX12 0 32 12 rfl rfl rfl (hC.n rfl) rfl lf_X12_47 dX12_taken_45 ?_
        refine r_sipush (v := 200) hC dX12_taken_48 (by decide) ?_
        refine r_iload_n hC dX12_taken_51 rfl 1 rfl ?_
        refine r_imul hC dX12_taken_52 ?_
        refine r_iload_n hC dX12_taken_53 rfl 2 rfl ?_
        refine r_iadd hC dX12_taken_54 ?_
        refine r_nmI (fun v9 => ?_)
        refine r_gd (fun g10 => ?_)
        refine r_iald hC 12 1600 rfl rfl g10 dX12_taken_55 ?_
        refine r_nmI (fun v11 => ?_)
        refine r_istore (lv' := [(4, .int v11), (0, .ref (wA w 0)), (1, .int a2), (2, .int a3), (3, .int a4)]) hC dX12_taken_56 (by decide) rfl ?_
        refine r_lv [3, 4, 0] rfl ?_
        refine w_X12_taken_l58 hC hret a4 σ a3 _ ?_ FU v11
        · intro x13
          refine r_iload hC dX12_taken_80 2 rfl ?_
          refine r_iload_n hC dX12_taken_82 rfl 1 rfl ?_
          refine r_icmp_ne hC 90 dX12_taken_83 (by decide) (fun c18 => ?_) (fun c18 => ?_)
          · refine r_bipush (v := (-13)) hC dX12_taken_90 (by decide) ?_
            exact r_iretP hC hret rfl dX12_taken_92
          · refine r_iload_n hC dX12_taken_86 rfl 0 rfl ?_
            refine r_goto hC 92 dX12_taken_87 (by decide) ?_
            exact r_iretP hC hret rfl dX12_taken_92
      · refine r_bipush (v := (-11)) hC dX12_taken_41 (by decide) ?_
        exact r_iretP hC hret rfl dX12_taken_43
  · refine r_bipush (v := (-2)) hC dX12_taken_12 (by decide) ?_
    exact r_iretP hC hret rfl dX12_taken_14
