theorem lf_J0_38 : Cond.fieldLink RJ0 38 "java/lang/String" "COMPACT_STRINGS" "Z" ∈ gw := gw_t2 220 rfl rfl
theorem lf_J0_15 : Cond.fieldLink RJ0 15 "java/lang/String" "coder" "B" ∈ gw := gw_t7 57 rfl rfl
theorem lf_J0_9 : Cond.fieldLink RJ0 9 "java/lang/String" "value" "[B" ∈ gw := gw_t7 56 rfl rfl
theorem lm_J0_335 : Cond.methodLink RJ0 335 yJ0_coder_7d493 ∈ gw := gw_t2 216 rfl rfl
theorem yk_J0_coder_7d493 : YV yJ0_coder_7d493 cJ0_coder_7d493 1 (some .byte) 0 := ⟨gw_t2 219 rfl rfl, gw_t2 217 rfl rfl, gw_t2 218 rfl rfl, gw_t1 15 rfl rfl, by decide +kernel⟩
theorem lm_J1_88 : Cond.methodLink RJ1 88 yJ1_canEncode_9a6ad ∈ gw := gw_t3 40 rfl rfl
theorem yk_J1_canEncode_9a6ad : YS yJ1_canEncode_9a6ad cJ1_canEncode_9a6ad 1 (some .boolean) 1 := ⟨gw_t3 42 rfl rfl, gw_t3 41 rfl rfl, gw_t1 16 rfl rfl, by decide +kernel⟩
theorem lm_J1_92 : Cond.methodLink RJ1 92 Lib.Math.max.name ∈ gw := gw_t3 43 rfl rfl
theorem ws_mmax : Cond.static Lib.Math.max.name ∈ gw := gw_t2 169 rfl rfl
theorem wi_math : Cond.initialized "java/lang/Math" ∈ gw := gw_t1 14 rfl rfl
theorem wc_mmax : Cond.code Lib.Math.max.name Lib.Math.max.code 2 (some .int) ∈ gw := gw_t2 170 rfl rfl
theorem lm_J1_38 : Cond.methodLink RJ1 38 Lib.Math.min.name ∈ gw := gw_t3 44 rfl rfl
theorem ws_mmin : Cond.static Lib.Math.min.name ∈ gw := gw_t3 45 rfl rfl
theorem wc_mmin : Cond.code Lib.Math.min.name Lib.Math.min.code 2 (some .int) ∈ gw := gw_t3 46 rfl rfl
theorem lm_J1_95 : Cond.methodLink RJ1 95 yJ1_indexOfChar_4cfef ∈ gw := gw_t3 47 rfl rfl
theorem yk_J1_indexOfChar_4cfef : YS yJ1_indexOfChar_4cfef cJ1_indexOfChar_4cfef 6 (some .int) 4 := ⟨gw_t3 49 rfl rfl, gw_t3 48 rfl rfl, gw_t1 16 rfl rfl, by decide +kernel⟩
theorem lm_J0_492 : Cond.methodLink RJ0 492 yJ0_isLatin1_aae02 ∈ gw := gw_t2 226 rfl rfl
theorem yk_J0_isLatin1_aae02 : YV yJ0_isLatin1_aae02 cJ0_isLatin1_aae02 1 (some .boolean) 0 := ⟨gw_t2 229 rfl rfl, gw_t2 227 rfl rfl, gw_t2 228 rfl rfl, gw_t1 15 rfl rfl, by decide +kernel⟩
theorem lm_J0_505 : Cond.methodLink RJ0 505 yJ0_length_8abf5 ∈ gw := gw_t3 36 rfl rfl
theorem yk_J0_length_8abf5 : YV yJ0_length_8abf5 cJ0_length_8abf5 1 (some .int) 0 := ⟨gw_t2 215 rfl rfl, gw_t2 213 rfl rfl, gw_t2 214 rfl rfl, gw_t1 15 rfl rfl, by decide +kernel⟩
theorem lm_J0_637 : Cond.methodLink RJ0 637 yJ1_indexOf_4cfef ∈ gw := gw_t3 37 rfl rfl
theorem yk_J1_indexOf_4cfef : YS yJ1_indexOf_4cfef cJ1_indexOf_4cfef 4 (some .int) 4 := ⟨gw_t3 39 rfl rfl, gw_t3 38 rfl rfl, gw_t1 16 rfl rfl, by decide +kernel⟩
theorem lm_J0_633 : Cond.methodLink RJ0 633 yJ0_indexOf_7cf53 ∈ gw := gw_t3 32 rfl rfl
theorem yk_J0_indexOf_7cf53 : YV yJ0_indexOf_7cf53 cJ0_indexOf_7cf53 3 (some .int) 2 := ⟨gw_t3 35 rfl rfl, gw_t3 33 rfl rfl, gw_t3 34 rfl rfl, gw_t1 15 rfl rfl, by decide +kernel⟩
theorem dJ0_isLatin1_aae02_0 : decode cJ0_isLatin1_aae02 0 = .ok (.getstatic 38, 3) := by decide +kernel
theorem dJ0_isLatin1_aae02_3 : decode cJ0_isLatin1_aae02 3 = .ok (.ifCond .eq 14, 3) := by decide +kernel
theorem dJ0_isLatin1_aae02_6 : decode cJ0_isLatin1_aae02 6 = .ok (.aload_n 0, 1) := by decide +kernel
theorem dJ0_isLatin1_aae02_7 : decode cJ0_isLatin1_aae02 7 = .ok (.getfield 15, 3) := by decide +kernel
theorem dJ0_isLatin1_aae02_10 : decode cJ0_isLatin1_aae02 10 = .ok (.ifCond .ne 7, 3) := by decide +kernel
theorem dJ0_isLatin1_aae02_13 : decode cJ0_isLatin1_aae02 13 = .ok (.iconst 1, 1) := by decide +kernel
theorem dJ0_isLatin1_aae02_14 : decode cJ0_isLatin1_aae02 14 = .ok (.goto 4, 3) := by decide +kernel
theorem dJ0_isLatin1_aae02_17 : decode cJ0_isLatin1_aae02 17 = .ok (.iconst 0, 1) := by decide +kernel
theorem dJ0_isLatin1_aae02_18 : decode cJ0_isLatin1_aae02 18 = .ok (.ireturn, 1) := by decide +kernel
theorem dJ0_coder_7d493_0 : decode cJ0_coder_7d493 0 = .ok (.getstatic 38, 3) := by decide +kernel
theorem dJ0_coder_7d493_3 : decode cJ0_coder_7d493 3 = .ok (.ifCond .eq 10, 3) := by decide +kernel
theorem dJ0_coder_7d493_6 : decode cJ0_coder_7d493 6 = .ok (.aload_n 0, 1) := by decide +kernel
theorem dJ0_coder_7d493_7 : decode cJ0_coder_7d493 7 = .ok (.getfield 15, 3) := by decide +kernel
theorem dJ0_coder_7d493_10 : decode cJ0_coder_7d493 10 = .ok (.goto 4, 3) := by decide +kernel
theorem dJ0_coder_7d493_13 : decode cJ0_coder_7d493 13 = .ok (.iconst 1, 1) := by decide +kernel
theorem dJ0_coder_7d493_14 : decode cJ0_coder_7d493 14 = .ok (.ireturn, 1) := by decide +kernel
theorem dJ0_length_8abf5_0 : decode cJ0_length_8abf5 0 = .ok (.aload_n 0, 1) := by decide +kernel
theorem dJ0_length_8abf5_1 : decode cJ0_length_8abf5 1 = .ok (.getfield 9, 3) := by decide +kernel
theorem dJ0_length_8abf5_4 : decode cJ0_length_8abf5 4 = .ok (.arraylength, 1) := by decide +kernel
theorem dJ0_length_8abf5_5 : decode cJ0_length_8abf5 5 = .ok (.aload_n 0, 1) := by decide +kernel
theorem dJ0_length_8abf5_6 : decode cJ0_length_8abf5 6 = .ok (.invokevirtual 335, 3) := by decide +kernel
theorem dJ0_length_8abf5_9 : decode cJ0_length_8abf5 9 = .ok (.ishr, 1) := by decide +kernel
theorem dJ0_length_8abf5_10 : decode cJ0_length_8abf5 10 = .ok (.ireturn, 1) := by decide +kernel
theorem dJ1_canEncode_9a6ad_0 : decode cJ1_canEncode_9a6ad 0 = .ok (.iload_n 0, 1) := by decide +kernel
theorem dJ1_canEncode_9a6ad_1 : decode cJ1_canEncode_9a6ad 1 = .ok (.ifCond .lt 14, 3) := by decide +kernel
theorem dJ1_canEncode_9a6ad_4 : decode cJ1_canEncode_9a6ad 4 = .ok (.iload_n 0, 1) := by decide +kernel
theorem dJ1_canEncode_9a6ad_5 : decode cJ1_canEncode_9a6ad 5 = .ok (.sipush 255, 3) := by decide +kernel
theorem dJ1_canEncode_9a6ad_8 : decode cJ1_canEncode_9a6ad 8 = .ok (.if_icmp .gt 7, 3) := by decide +kernel
theorem dJ1_canEncode_9a6ad_11 : decode cJ1_canEncode_9a6ad 11 = .ok (.iconst 1, 1) := by decide +kernel
theorem dJ1_canEncode_9a6ad_12 : decode cJ1_canEncode_9a6ad 12 = .ok (.goto 4, 3) := by decide +kernel
theorem dJ1_canEncode_9a6ad_15 : decode cJ1_canEncode_9a6ad 15 = .ok (.iconst 0, 1) := by decide +kernel
theorem dJ1_canEncode_9a6ad_16 : decode cJ1_canEncode_9a6ad 16 = .ok (.ireturn, 1) := by decide +kernel
theorem dJ1_indexOfChar_4cfef_0 : decode cJ1_indexOfChar_4cfef 0 = .ok (.iload_n 1, 1) := by decide +kernel
theorem dJ1_indexOfChar_4cfef_1 : decode cJ1_indexOfChar_4cfef 1 = .ok (.i2b, 1) := by decide +kernel
theorem dJ1_indexOfChar_4cfef_2 : decode cJ1_indexOfChar_4cfef 2 = .ok (.istore 4, 2) := by decide +kernel
theorem dJ1_indexOfChar_4cfef_4 : decode cJ1_indexOfChar_4cfef 4 = .ok (.iload_n 2, 1) := by decide +kernel
theorem dJ1_indexOfChar_4cfef_5 : decode cJ1_indexOfChar_4cfef 5 = .ok (.istore 5, 2) := by decide +kernel
theorem dJ1_indexOfChar_4cfef_7 : decode cJ1_indexOfChar_4cfef 7 = .ok (.iload 5, 2) := by decide +kernel
theorem dJ1_indexOfChar_4cfef_9 : decode cJ1_indexOfChar_4cfef 9 = .ok (.iload_n 3, 1) := by decide +kernel
theorem dJ1_indexOfChar_4cfef_10 : decode cJ1_indexOfChar_4cfef 10 = .ok (.if_icmp .ge 21, 3) := by decide +kernel
theorem dJ1_indexOfChar_4cfef_13 : decode cJ1_indexOfChar_4cfef 13 = .ok (.aload_n 0, 1) := by decide +kernel
theorem dJ1_indexOfChar_4cfef_14 : decode cJ1_indexOfChar_4cfef 14 = .ok (.iload 5, 2) := by decide +kernel
theorem dJ1_indexOfChar_4cfef_16 : decode cJ1_indexOfChar_4cfef 16 = .ok (.baload, 1) := by decide +kernel
theorem dJ1_indexOfChar_4cfef_17 : decode cJ1_indexOfChar_4cfef 17 = .ok (.iload 4, 2) := by decide +kernel
theorem dJ1_indexOfChar_4cfef_19 : decode cJ1_indexOfChar_4cfef 19 = .ok (.if_icmp .ne 6, 3) := by decide +kernel
theorem dJ1_indexOfChar_4cfef_22 : decode cJ1_indexOfChar_4cfef 22 = .ok (.iload 5, 2) := by decide +kernel
theorem dJ1_indexOfChar_4cfef_24 : decode cJ1_indexOfChar_4cfef 24 = .ok (.ireturn, 1) := by decide +kernel
theorem dJ1_indexOfChar_4cfef_25 : decode cJ1_indexOfChar_4cfef 25 = .ok (.iinc 5 1, 3) := by decide +kernel
theorem dJ1_indexOfChar_4cfef_28 : decode cJ1_indexOfChar_4cfef 28 = .ok (.goto (-21), 3) := by decide +kernel
theorem dJ1_indexOfChar_4cfef_31 : decode cJ1_indexOfChar_4cfef 31 = .ok (.iconst (-1), 1) := by decide +kernel
theorem dJ1_indexOfChar_4cfef_32 : decode cJ1_indexOfChar_4cfef 32 = .ok (.ireturn, 1) := by decide +kernel
theorem dJ1_indexOf_4cfef_0 : decode cJ1_indexOf_4cfef 0 = .ok (.iload_n 1, 1) := by decide +kernel
theorem dJ1_indexOf_4cfef_1 : decode cJ1_indexOf_4cfef 1 = .ok (.invokestatic 88, 3) := by decide +kernel
theorem dJ1_indexOf_4cfef_4 : decode cJ1_indexOf_4cfef 4 = .ok (.ifCond .ne 5, 3) := by decide +kernel
theorem dJ1_indexOf_4cfef_7 : decode cJ1_indexOf_4cfef 7 = .ok (.iconst (-1), 1) := by decide +kernel
theorem dJ1_indexOf_4cfef_8 : decode cJ1_indexOf_4cfef 8 = .ok (.ireturn, 1) := by decide +kernel
theorem dJ1_indexOf_4cfef_9 : decode cJ1_indexOf_4cfef 9 = .ok (.iload_n 2, 1) := by decide +kernel
theorem dJ1_indexOf_4cfef_10 : decode cJ1_indexOf_4cfef 10 = .ok (.iconst 0, 1) := by decide +kernel
theorem dJ1_indexOf_4cfef_11 : decode cJ1_indexOf_4cfef 11 = .ok (.invokestatic 92, 3) := by decide +kernel
theorem dJ1_indexOf_4cfef_14 : decode cJ1_indexOf_4cfef 14 = .ok (.istore_n 2, 1) := by decide +kernel
theorem dJ1_indexOf_4cfef_15 : decode cJ1_indexOf_4cfef 15 = .ok (.iload_n 3, 1) := by decide +kernel
theorem dJ1_indexOf_4cfef_16 : decode cJ1_indexOf_4cfef 16 = .ok (.aload_n 0, 1) := by decide +kernel
theorem dJ1_indexOf_4cfef_17 : decode cJ1_indexOf_4cfef 17 = .ok (.arraylength, 1) := by decide +kernel
theorem dJ1_indexOf_4cfef_18 : decode cJ1_indexOf_4cfef 18 = .ok (.invokestatic 38, 3) := by decide +kernel
theorem dJ1_indexOf_4cfef_21 : decode cJ1_indexOf_4cfef 21 = .ok (.istore_n 3, 1) := by decide +kernel
theorem dJ1_indexOf_4cfef_22 : decode cJ1_indexOf_4cfef 22 = .ok (.iload_n 2, 1) := by decide +kernel
theorem dJ1_indexOf_4cfef_23 : decode cJ1_indexOf_4cfef 23 = .ok (.iload_n 3, 1) := by decide +kernel
theorem dJ1_indexOf_4cfef_24 : decode cJ1_indexOf_4cfef 24 = .ok (.if_icmp .lt 5, 3) := by decide +kernel
theorem dJ1_indexOf_4cfef_27 : decode cJ1_indexOf_4cfef 27 = .ok (.iconst (-1), 1) := by decide +kernel
theorem dJ1_indexOf_4cfef_28 : decode cJ1_indexOf_4cfef 28 = .ok (.ireturn, 1) := by decide +kernel
theorem dJ1_indexOf_4cfef_29 : decode cJ1_indexOf_4cfef 29 = .ok (.aload_n 0, 1) := by decide +kernel
theorem dJ1_indexOf_4cfef_30 : decode cJ1_indexOf_4cfef 30 = .ok (.iload_n 1, 1) := by decide +kernel
theorem dJ1_indexOf_4cfef_31 : decode cJ1_indexOf_4cfef 31 = .ok (.iload_n 2, 1) := by decide +kernel
theorem dJ1_indexOf_4cfef_32 : decode cJ1_indexOf_4cfef 32 = .ok (.iload_n 3, 1) := by decide +kernel
theorem dJ1_indexOf_4cfef_33 : decode cJ1_indexOf_4cfef 33 = .ok (.invokestatic 95, 3) := by decide +kernel
theorem dJ1_indexOf_4cfef_36 : decode cJ1_indexOf_4cfef 36 = .ok (.ireturn, 1) := by decide +kernel
theorem dJ0_indexOf_7cf53_0 : decode cJ0_indexOf_7cf53 0 = .ok (.aload_n 0, 1) := by decide +kernel
theorem dJ0_indexOf_7cf53_1 : decode cJ0_indexOf_7cf53 1 = .ok (.invokevirtual 492, 3) := by decide +kernel
theorem dJ0_indexOf_7cf53_4 : decode cJ0_indexOf_7cf53 4 = .ok (.ifCond .eq 19, 3) := by decide +kernel
theorem dJ0_indexOf_7cf53_7 : decode cJ0_indexOf_7cf53 7 = .ok (.aload_n 0, 1) := by decide +kernel
theorem dJ0_indexOf_7cf53_8 : decode cJ0_indexOf_7cf53 8 = .ok (.getfield 9, 3) := by decide +kernel
theorem dJ0_indexOf_7cf53_11 : decode cJ0_indexOf_7cf53 11 = .ok (.iload_n 1, 1) := by decide +kernel
theorem dJ0_indexOf_7cf53_12 : decode cJ0_indexOf_7cf53 12 = .ok (.iload_n 2, 1) := by decide +kernel
theorem dJ0_indexOf_7cf53_13 : decode cJ0_indexOf_7cf53 13 = .ok (.aload_n 0, 1) := by decide +kernel
theorem dJ0_indexOf_7cf53_14 : decode cJ0_indexOf_7cf53 14 = .ok (.invokevirtual 505, 3) := by decide +kernel
theorem dJ0_indexOf_7cf53_17 : decode cJ0_indexOf_7cf53 17 = .ok (.invokestatic 637, 3) := by decide +kernel
theorem dJ0_indexOf_7cf53_20 : decode cJ0_indexOf_7cf53 20 = .ok (.goto 16, 3) := by decide +kernel
theorem dJ0_indexOf_7cf53_23 : decode cJ0_indexOf_7cf53 23 = .ok (.aload_n 0, 1) := by decide +kernel
theorem dJ0_indexOf_7cf53_24 : decode cJ0_indexOf_7cf53 24 = .ok (.getfield 9, 3) := by decide +kernel
theorem dJ0_indexOf_7cf53_27 : decode cJ0_indexOf_7cf53 27 = .ok (.iload_n 1, 1) := by decide +kernel
theorem dJ0_indexOf_7cf53_28 : decode cJ0_indexOf_7cf53 28 = .ok (.iload_n 2, 1) := by decide +kernel
theorem dJ0_indexOf_7cf53_29 : decode cJ0_indexOf_7cf53 29 = .ok (.aload_n 0, 1) := by decide +kernel
theorem dJ0_indexOf_7cf53_30 : decode cJ0_indexOf_7cf53 30 = .ok (.invokevirtual 505, 3) := by decide +kernel
theorem dJ0_indexOf_7cf53_33 : decode cJ0_indexOf_7cf53 33 = .ok (.invokestatic 640, 3) := by decide +kernel
theorem dJ0_indexOf_7cf53_36 : decode cJ0_indexOf_7cf53 36 = .ok (.ireturn, 1) := by decide +kernel
theorem dJ0_indexOf_0f7a4_0 : decode cJ0_indexOf_0f7a4 0 = .ok (.aload_n 0, 1) := by decide +kernel
theorem dJ0_indexOf_0f7a4_1 : decode cJ0_indexOf_0f7a4 1 = .ok (.iload_n 1, 1) := by decide +kernel
theorem dJ0_indexOf_0f7a4_2 : decode cJ0_indexOf_0f7a4 2 = .ok (.iconst 0, 1) := by decide +kernel
theorem dJ0_indexOf_0f7a4_3 : decode cJ0_indexOf_0f7a4 3 = .ok (.invokevirtual 633, 3) := by decide +kernel
theorem dJ0_indexOf_0f7a4_6 : decode cJ0_indexOf_0f7a4 6 = .ok (.ireturn, 1) := by decide +kernel
set_option maxHeartbeats 4000000 in
set_option maxRecDepth 100000 in
theorem c_J0_isLatin1_aae02 {l : Launch} {w : Wd} (hW : HWd w shX rX 66) (σ : St) (si : Nat) (hsi : si < 3) : ∀ res, f_J0_isLatin1_aae02 si = some res → MtI l yJ0_isLatin1_aae02 cJ0_isLatin1_aae02 1 .boolean 0 0 w [.ref (wK w si)] σ (res, σ) := by
  refine mt_P (by decide) rfl hW (fun X hl0 hC hret => ?_)
  show RF X w (Aw w (xs_ X).heap.size) 1 (fun r => QI X w (r, σ)) (f_J0_isLatin1_aae02 si) 0 [(0, .ref (wK w si))] [] σ
  unfold f_J0_isLatin1_aae02
  refine r_gets1 hC lf_J0_38 dJ0_isLatin1_aae02_0 ?_
  refine r_if_eq hC 17 dJ0_isLatin1_aae02_3 (by decide) (fun c1 => ?_) (fun c1 => ?_)
  · exact r_none
  · refine r_aload_n hC dJ0_isLatin1_aae02_6 rfl 0 rfl ?_
    refine r_strC hC si hsi lf_J0_15 dJ0_isLatin1_aae02_7 ?_
    refine r_if_ne hC 17 dJ0_isLatin1_aae02_10 (by decide) (fun c2 => ?_) (fun c2 => ?_)
    · exact r_none
    · refine r_iconst (v := 1) hC dJ0_isLatin1_aae02_13 (by decide) ?_
      refine r_goto hC 18 dJ0_isLatin1_aae02_14 (by decide) ?_
      exact r_iretP hC hret rfl dJ0_isLatin1_aae02_18
set_option maxHeartbeats 4000000 in
set_option maxRecDepth 100000 in
theorem c_J0_coder_7d493 {l : Launch} {w : Wd} (hW : HWd w shX rX 66) (σ : St) (si : Nat) (hsi : si < 3) : ∀ res, f_J0_coder_7d493 si = some res → MtI l yJ0_coder_7d493 cJ0_coder_7d493 1 .byte 0 0 w [.ref (wK w si)] σ (res, σ) := by
  refine mt_P (by decide) rfl hW (fun X hl0 hC hret => ?_)
  show RF X w (Aw w (xs_ X).heap.size) 1 (fun r => QI X w (r, σ)) (f_J0_coder_7d493 si) 0 [(0, .ref (wK w si))] [] σ
  unfold f_J0_coder_7d493
  refine r_gets1 hC lf_J0_38 dJ0_coder_7d493_0 ?_
  refine r_if_eq hC 13 dJ0_coder_7d493_3 (by decide) (fun c1 => ?_) (fun c1 => ?_)
  · exact r_none
  · refine r_aload_n hC dJ0_coder_7d493_6 rfl 0 rfl ?_
    refine r_strC hC si hsi lf_J0_15 dJ0_coder_7d493_7 ?_
    refine r_goto hC 14 dJ0_coder_7d493_10 (by decide) ?_
    exact r_iretP hC hret rfl dJ0_coder_7d493_14
set_option maxHeartbeats 4000000 in
set_option maxRecDepth 100000 in
theorem c_J0_length_8abf5 {l : Launch} {w : Wd} (hW : HWd w shX rX 66) (σ : St) (si : Nat) (hsi : si < 3) : ∀ res, f_J0_length_8abf5 si = some res → MtI l yJ0_length_8abf5 cJ0_length_8abf5 1 .int 1 20 w [.ref (wK w si)] σ (res, σ) := by
  refine mt_P (by decide) rfl hW (fun X hl0 hC hret => ?_)
  show RF X w (Aw w (xs_ X).heap.size) 1 (fun r => QI X w (r, σ)) (f_J0_length_8abf5 si) 0 [(0, .ref (wK w si))] [] σ
  unfold f_J0_length_8abf5
  refine r_aload_n hC dJ0_length_8abf5_0 rfl 0 rfl ?_
  refine r_strV hC si hsi lf_J0_9 dJ0_length_8abf5_1 ?_
  refine r_strL hC si hsi dJ0_length_8abf5_4 ?_
  refine r_nmI (fun v1 => ?_)
  refine r_aload_n hC dJ0_length_8abf5_5 rfl 0 rfl ?_
  refine r_callTP hC (st := [.int v1]) si hsi [] rfl (c_J0_coder_7d493 hC.w σ si hsi) yk_J0_coder_7d493 lm_J0_335 rfl ⟨rfl, rfl⟩ rfl dJ0_length_8abf5_6 (fun v2 => ?_)
  refine r_ishr hC dJ0_length_8abf5_9 ?_
  exact r_iretP hC hret rfl dJ0_length_8abf5_10
set_option maxHeartbeats 4000000 in
set_option maxRecDepth 100000 in
theorem c_J1_canEncode_9a6ad {l : Launch} {w : Wd} (hW : HWd w shX rX 66) (σ : St) (a1 : Int32)  : ∀ res, f_J1_canEncode_9a6ad a1 = some res → MtI l yJ1_canEncode_9a6ad cJ1_canEncode_9a6ad 1 .boolean 0 0 w [.int a1] σ (res, σ) := by
  refine mt_P (by decide) rfl hW (fun X hl0 hC hret => ?_)
  show RF X w (Aw w (xs_ X).heap.size) 1 (fun r => QI X w (r, σ)) (f_J1_canEncode_9a6ad a1) 0 [(0, .int a1)] [] σ
  unfold f_J1_canEncode_9a6ad
  refine r_iload_n hC dJ1_canEncode_9a6ad_0 rfl 0 rfl ?_
  refine r_if_lt hC 15 dJ1_canEncode_9a6ad_1 (by decide) (fun c1 => ?_) (fun c1 => ?_)
  · refine r_iconst (v := 0) hC dJ1_canEncode_9a6ad_15 (by decide) ?_
    exact r_iretP hC hret rfl dJ1_canEncode_9a6ad_16
  · refine r_iload_n hC dJ1_canEncode_9a6ad_4 rfl 0 rfl ?_
    refine r_sipush (v := 255) hC dJ1_canEncode_9a6ad_5 (by decide) ?_
    refine r_icmp_gt hC 15 dJ1_canEncode_9a6ad_8 (by decide) (fun c2 => ?_) (fun c2 => ?_)
    · refine r_iconst (v := 0) hC dJ1_canEncode_9a6ad_15 (by decide) ?_
      exact r_iretP hC hret rfl dJ1_canEncode_9a6ad_16
    · refine r_iconst (v := 1) hC dJ1_canEncode_9a6ad_11 (by decide) ?_
      refine r_goto hC 16 dJ1_canEncode_9a6ad_12 (by decide) ?_
      exact r_iretP hC hret rfl dJ1_canEncode_9a6ad_16
set_option maxHeartbeats 4000000 in
set_option maxRecDepth 100000 in
theorem w_J1_indexOfChar_4cfef_l7 {X : Mc} {w : Wd} (hC : Cok X w (Aw w (xs_ X).heap.size) yJ1_indexOfChar_4cfef.cls cJ1_indexOfChar_4cfef 6 0 0 shX rX 66) (hret : (xmeth X).sig.returnType = some .int) (si : Nat) (a4 : Int32) (v1 : Int32) (σ : St) (hsi : si < 3)    : ∀ (n : Nat) (x2 : Int32), RF X w (Aw w (xs_ X).heap.size) 6 (fun r => QI X w (r, σ)) (f_J1_indexOfChar_4cfef_l7 si a4 v1 n x2) 7 [(0, .ref (wV w si)), (3, .int a4), (4, .int v1), (5, .int x2)] [] σ := by
  intro n
  induction n with
  | zero => intro x2; rw [f_J1_indexOfChar_4cfef_l7]; exact r_none
  | succ n ih =>
    intro x2
    rw [f_J1_indexOfChar_4cfef_l7]
    refine r_iload hC dJ1_indexOfChar_4cfef_7 3 rfl ?_
    refine r_iload_n hC dJ1_indexOfChar_4cfef_9 rfl 1 rfl ?_
    refine r_icmp_ge hC 31 dJ1_indexOfChar_4cfef_10 (by decide) (fun c3 => ?_) (fun c3 => ?_)
    · refine r_iconst (v := (-1)) hC dJ1_indexOfChar_4cfef_31 (by decide) ?_
      exact r_iretP hC hret rfl dJ1_indexOfChar_4cfef_32
    · refine r_aload_n hC dJ1_indexOfChar_4cfef_13 rfl 0 rfl ?_
      refine r_iload hC dJ1_indexOfChar_4cfef_14 3 rfl ?_
      refine r_gd (fun g4 => ?_)
      refine r_strB hC si hsi g4 dJ1_indexOfChar_4cfef_16 ?_
      refine r_nmI (fun v5 => ?_)
      refine r_iload hC dJ1_indexOfChar_4cfef_17 2 rfl ?_
      refine r_icmp_ne hC 25 dJ1_indexOfChar_4cfef_19 (by decide) (fun c6 => ?_) (fun c6 => ?_)
      · refine r_iinc (v := x2 + 1) (lv' := [(5, .int (x2 + 1)), (0, .ref (wV w si)), (3, .int a4), (4, .int v1)]) hC dJ1_indexOfChar_4cfef_25 3 rfl rfl (by decide) rfl ?_
        refine r_goto hC 7 dJ1_indexOfChar_4cfef_28 (by decide) ?_
        exact r_lv [1, 2, 3, 0] rfl (ih (x2 + 1))
      · refine r_iload hC dJ1_indexOfChar_4cfef_22 3 rfl ?_
        exact r_iretP hC hret rfl dJ1_indexOfChar_4cfef_24
set_option maxHeartbeats 4000000 in
set_option maxRecDepth 100000 in
theorem c_J1_indexOfChar_4cfef {l : Launch} {w : Wd} (hW : HWd w shX rX 66) (σ : St) (si : Nat) (a2 : Int32) (a3 : Int32) (a4 : Int32) (hsi : si < 3) : ∀ res, f_J1_indexOfChar_4cfef si a2 a3 a4 = some res → MtI l yJ1_indexOfChar_4cfef cJ1_indexOfChar_4cfef 6 .int 0 0 w [.ref (wV w si), .int a2, .int a3, .int a4] σ (res, σ) := by
  refine mt_P (by decide) rfl hW (fun X hl0 hC hret => ?_)
  show RF X w (Aw w (xs_ X).heap.size) 6 (fun r => QI X w (r, σ)) (f_J1_indexOfChar_4cfef si a2 a3 a4) 0 [(0, .ref (wV w si)), (1, .int a2), (2, .int a3), (3, .int a4)] [] σ
  unfold f_J1_indexOfChar_4cfef
  refine r_iload_n hC dJ1_indexOfChar_4cfef_0 rfl 1 rfl ?_
  refine r_i2b hC dJ1_indexOfChar_4cfef_1 ?_
  refine r_nmI (fun v1 => ?_)
  refine r_istore (lv' := [(4, .int v1), (0, .ref (wV w si)), (1, .int a2), (2, .int a3), (3, .int a4)]) hC dJ1_indexOfChar_4cfef_2 (by decide) rfl ?_
  refine r_iload_n hC dJ1_indexOfChar_4cfef_4 rfl 3 rfl ?_
  refine r_istore (lv' := [(5, .int a3), (4, .int v1), (0, .ref (wV w si)), (1, .int a2), (2, .int a3), (3, .int a4)]) hC dJ1_indexOfChar_4cfef_5 (by decide) rfl ?_
  refine r_lv [2, 5, 1, 0] rfl ?_
  exact w_J1_indexOfChar_4cfef_l7 hC hret si a4 v1 σ hsi FU a3
set_option maxHeartbeats 4000000 in
set_option maxRecDepth 100000 in
theorem c_J1_indexOf_4cfef {l : Launch} {w : Wd} (hW : HWd w shX rX 66) (σ : St) (si : Nat) (a2 : Int32) (a3 : Int32) (a4 : Int32) (hsi : si < 3) : ∀ res, f_J1_indexOf_4cfef si a2 a3 a4 = some res → MtI l yJ1_indexOf_4cfef cJ1_indexOf_4cfef 4 .int 1 25 w [.ref (wV w si), .int a2, .int a3, .int a4] σ (res, σ) := by
  refine mt_P (by decide) rfl hW (fun X hl0 hC hret => ?_)
  show RF X w (Aw w (xs_ X).heap.size) 4 (fun r => QI X w (r, σ)) (f_J1_indexOf_4cfef si a2 a3 a4) 0 [(0, .ref (wV w si)), (1, .int a2), (2, .int a3), (3, .int a4)] [] σ
  unfold f_J1_indexOf_4cfef
  refine r_iload_n hC dJ1_indexOf_4cfef_0 rfl 1 rfl ?_
  refine r_callSP hC (st := []) [.int a2] (c_J1_canEncode_9a6ad hC.w σ a2) yk_J1_canEncode_9a6ad lm_J1_88 rfl ⟨rfl, rfl⟩ rfl dJ1_indexOf_4cfef_1 (fun v1 => ?_)
  refine r_if_ne hC 9 dJ1_indexOf_4cfef_4 (by decide) (fun c2 => ?_) (fun c2 => ?_)
  · refine r_iload_n hC dJ1_indexOf_4cfef_9 rfl 2 rfl ?_
    refine r_iconst (v := 0) hC dJ1_indexOf_4cfef_10 (by decide) ?_
    refine r_mmax hC (by decide) (Nat.le_of_ble_eq_true rfl) lm_J1_92 ws_mmax wi_math wc_mmax dJ1_indexOf_4cfef_11 ?_
    refine r_nmI (fun v3 => ?_)
    refine r_istore_n (lv' := [(2, .int v3), (0, .ref (wV w si)), (1, .int a2), (3, .int a4)]) hC dJ1_indexOf_4cfef_14 rfl (by decide) rfl ?_
    refine r_iload_n hC dJ1_indexOf_4cfef_15 rfl 3 rfl ?_
    refine r_aload_n hC dJ1_indexOf_4cfef_16 rfl 1 rfl ?_
    refine r_strL hC si hsi dJ1_indexOf_4cfef_17 ?_
    refine r_nmI (fun v4 => ?_)
    refine r_mmin hC (by decide) (Nat.le_of_ble_eq_true rfl) lm_J1_38 ws_mmin wi_math wc_mmin dJ1_indexOf_4cfef_18 ?_
    refine r_nmI (fun v5 => ?_)
    refine r_istore_n (lv' := [(3, .int v5), (2, .int v3), (0, .ref (wV w si)), (1, .int a2)]) hC dJ1_indexOf_4cfef_21 rfl (by decide) rfl ?_
    refine r_iload_n hC dJ1_indexOf_4cfef_22 rfl 1 rfl ?_
    refine r_iload_n hC dJ1_indexOf_4cfef_23 rfl 0 rfl ?_
    refine r_icmp_lt hC 29 dJ1_indexOf_4cfef_24 (by decide) (fun c6 => ?_) (fun c6 => ?_)
    · refine r_aload_n hC dJ1_indexOf_4cfef_29 rfl 2 rfl ?_
      refine r_iload_n hC dJ1_indexOf_4cfef_30 rfl 3 rfl ?_
      refine r_iload_n hC dJ1_indexOf_4cfef_31 rfl 1 rfl ?_
      refine r_iload_n hC dJ1_indexOf_4cfef_32 rfl 0 rfl ?_
      refine r_callSP hC (st := []) [.ref (wV w si), .int a2, .int v3, .int v5] (c_J1_indexOfChar_4cfef hC.w σ si a2 v3 v5 hsi) yk_J1_indexOfChar_4cfef lm_J1_95 rfl ⟨rfl, rfl⟩ rfl dJ1_indexOf_4cfef_33 (fun v7 => ?_)
      exact r_iretP hC hret rfl dJ1_indexOf_4cfef_36
    · refine r_iconst (v := (-1)) hC dJ1_indexOf_4cfef_27 (by decide) ?_
      exact r_iretP hC hret rfl dJ1_indexOf_4cfef_28
  · refine r_iconst (v := (-1)) hC dJ1_indexOf_4cfef_7 (by decide) ?_
    exact r_iretP hC hret rfl dJ1_indexOf_4cfef_8
set_option maxHeartbeats 4000000 in
set_option maxRecDepth 100000 in
theorem c_J0_indexOf_7cf53 {l : Launch} {w : Wd} (hW : HWd w shX rX 66) (σ : St) (si : Nat) (a2 : Int32) (a3 : Int32) (hsi : si < 3) : ∀ res, f_J0_indexOf_7cf53 si a2 a3 = some res → MtI l yJ0_indexOf_7cf53 cJ0_indexOf_7cf53 3 .int 5 116 w [.ref (wK w si), .int a2, .int a3] σ (res, σ) := by
  refine mt_P (by decide) rfl hW (fun X hl0 hC hret => ?_)
  show RF X w (Aw w (xs_ X).heap.size) 3 (fun r => QI X w (r, σ)) (f_J0_indexOf_7cf53 si a2 a3) 0 [(0, .ref (wK w si)), (1, .int a2), (2, .int a3)] [] σ
  unfold f_J0_indexOf_7cf53
  refine r_aload_n hC dJ0_indexOf_7cf53_0 rfl 0 rfl ?_
  refine r_callTP hC (st := []) si hsi [] rfl (c_J0_isLatin1_aae02 hC.w σ si hsi) yk_J0_isLatin1_aae02 lm_J0_492 rfl ⟨rfl, rfl⟩ rfl dJ0_indexOf_7cf53_1 (fun v1 => ?_)
  refine r_if_eq hC 23 dJ0_indexOf_7cf53_4 (by decide) (fun c2 => ?_) (fun c2 => ?_)
  · exact r_none
  · refine r_aload_n hC dJ0_indexOf_7cf53_7 rfl 0 rfl ?_
    refine r_strV hC si hsi lf_J0_9 dJ0_indexOf_7cf53_8 ?_
    refine r_iload_n hC dJ0_indexOf_7cf53_11 rfl 1 rfl ?_
    refine r_iload_n hC dJ0_indexOf_7cf53_12 rfl 2 rfl ?_
    refine r_aload_n hC dJ0_indexOf_7cf53_13 rfl 0 rfl ?_
    refine r_callTP hC (st := [.int a3, .int a2, .ref (wV w si)]) si hsi [] rfl (c_J0_length_8abf5 hC.w σ si hsi) yk_J0_length_8abf5 lm_J0_505 rfl ⟨rfl, rfl⟩ rfl dJ0_indexOf_7cf53_14 (fun v3 => ?_)
    refine r_callSP hC (st := []) [.ref (wV w si), .int a2, .int a3, .int v3] (c_J1_indexOf_4cfef hC.w σ si a2 a3 v3 hsi) yk_J1_indexOf_4cfef lm_J0_637 rfl ⟨rfl, rfl⟩ rfl dJ0_indexOf_7cf53_17 (fun v4 => ?_)
    refine r_goto hC 36 dJ0_indexOf_7cf53_20 (by decide) ?_
    exact r_iretP hC hret rfl dJ0_indexOf_7cf53_36
set_option maxHeartbeats 4000000 in
set_option maxRecDepth 100000 in
theorem c_J0_indexOf_0f7a4 {l : Launch} {w : Wd} (hW : HWd w shX rX 66) (σ : St) (si : Nat) (a2 : Int32) (hsi : si < 3) : ∀ res, f_J0_indexOf_0f7a4 si a2 = some res → MtI l yJ0_indexOf_0f7a4 cJ0_indexOf_0f7a4 2 .int 6 138 w [.ref (wK w si), .int a2] σ (res, σ) := by
  refine mt_P (by decide) rfl hW (fun X hl0 hC hret => ?_)
  show RF X w (Aw w (xs_ X).heap.size) 2 (fun r => QI X w (r, σ)) (f_J0_indexOf_0f7a4 si a2) 0 [(0, .ref (wK w si)), (1, .int a2)] [] σ
  unfold f_J0_indexOf_0f7a4
  refine r_aload_n hC dJ0_indexOf_0f7a4_0 rfl 0 rfl ?_
  refine r_iload_n hC dJ0_indexOf_0f7a4_1 rfl 1 rfl ?_
  refine r_iconst (v := 0) hC dJ0_indexOf_0f7a4_2 (by decide) ?_
  refine r_callTP hC (st := []) si hsi [.int a2, .int 0] rfl (c_J0_indexOf_7cf53 hC.w σ si a2 0 hsi) yk_J0_indexOf_7cf53 lm_J0_633 rfl ⟨rfl, rfl⟩ rfl dJ0_indexOf_0f7a4_3 (fun v1 => ?_)
  exact r_iretP hC hret rfl dJ0_indexOf_0f7a4_6
