theorem yk_J3_checkIndex_8e157 : YS yJ3_checkIndex_8e157 cJ3_checkIndex_8e157 3 (some .int) 3 := ⟨gw_t3 0 rfl rfl, gw_t2 239 rfl rfl, gw_t1 17 rfl rfl, by decide +kernel⟩
theorem yk_J0_checkIndex_df160 : YS yJ0_checkIndex_df160 cJ0_checkIndex_df160 2 none 2 := ⟨gw_t2 235 rfl rfl, gw_t2 234 rfl rfl, gw_t1 15 rfl rfl, by decide +kernel⟩
theorem yk_J1_charAt_3b067 : YS yJ1_charAt_3b067 cJ1_charAt_3b067 2 (some .char) 2 := ⟨gw_t2 232 rfl rfl, gw_t2 231 rfl rfl, gw_t1 16 rfl rfl, by decide +kernel⟩
theorem yk_J0_charAt_5068e : YV yJ0_charAt_5068e cJ0_charAt_5068e 2 (some .char) 1 := ⟨gw_t2 225 rfl rfl, gw_t2 223 rfl rfl, gw_t2 224 rfl rfl, gw_t1 15 rfl rfl, by decide +kernel⟩
theorem lm_J0_1059 : Cond.methodLink RJ0 1059 yJ3_checkIndex_8e157 ∈ gw := gw_t2 238 rfl rfl
theorem lm_J1_9 : Cond.methodLink RJ1 9 yJ0_checkIndex_df160 ∈ gw := gw_t2 233 rfl rfl
theorem lm_J0_495 : Cond.methodLink RJ0 495 yJ1_charAt_3b067 ∈ gw := gw_t2 230 rfl rfl
theorem lf_J0_1053 : Cond.fieldLink RJ0 1053 "jdk/internal/util/Preconditions" "SIOOBE_FORMATTER" "Ljava/util/function/BiFunction;" ∈ gw := gw_t2 236 rfl rfl
theorem dJ3_checkIndex_8e157_0 : decode cJ3_checkIndex_8e157 0 = .ok (.iload_n 0, 1) := by decide +kernel
theorem dJ3_checkIndex_8e157_1 : decode cJ3_checkIndex_8e157 1 = .ok (.ifCond .lt 8, 3) := by decide +kernel
theorem dJ3_checkIndex_8e157_4 : decode cJ3_checkIndex_8e157 4 = .ok (.iload_n 0, 1) := by decide +kernel
theorem dJ3_checkIndex_8e157_5 : decode cJ3_checkIndex_8e157 5 = .ok (.iload_n 1, 1) := by decide +kernel
theorem dJ3_checkIndex_8e157_6 : decode cJ3_checkIndex_8e157 6 = .ok (.if_icmp .lt 10, 3) := by decide +kernel
theorem dJ3_checkIndex_8e157_9 : decode cJ3_checkIndex_8e157 9 = .ok (.aload_n 2, 1) := by decide +kernel
theorem dJ3_checkIndex_8e157_10 : decode cJ3_checkIndex_8e157 10 = .ok (.iload_n 0, 1) := by decide +kernel
theorem dJ3_checkIndex_8e157_11 : decode cJ3_checkIndex_8e157 11 = .ok (.iload_n 1, 1) := by decide +kernel
theorem dJ3_checkIndex_8e157_12 : decode cJ3_checkIndex_8e157 12 = .ok (.invokestatic 95, 3) := by decide +kernel
theorem dJ3_checkIndex_8e157_15 : decode cJ3_checkIndex_8e157 15 = .ok (.athrow, 1) := by decide +kernel
theorem dJ3_checkIndex_8e157_16 : decode cJ3_checkIndex_8e157 16 = .ok (.iload_n 0, 1) := by decide +kernel
theorem dJ3_checkIndex_8e157_17 : decode cJ3_checkIndex_8e157 17 = .ok (.ireturn, 1) := by decide +kernel
theorem dJ0_checkIndex_df160_0 : decode cJ0_checkIndex_df160 0 = .ok (.iload_n 0, 1) := by decide +kernel
theorem dJ0_checkIndex_df160_1 : decode cJ0_checkIndex_df160 1 = .ok (.iload_n 1, 1) := by decide +kernel
theorem dJ0_checkIndex_df160_2 : decode cJ0_checkIndex_df160 2 = .ok (.getstatic 1053, 3) := by decide +kernel
theorem dJ0_checkIndex_df160_5 : decode cJ0_checkIndex_df160 5 = .ok (.invokestatic 1059, 3) := by decide +kernel
theorem dJ0_checkIndex_df160_8 : decode cJ0_checkIndex_df160 8 = .ok (.pop, 1) := by decide +kernel
theorem dJ0_checkIndex_df160_9 : decode cJ0_checkIndex_df160 9 = .ok (.return_, 1) := by decide +kernel
theorem dJ1_charAt_3b067_0 : decode cJ1_charAt_3b067 0 = .ok (.iload_n 1, 1) := by decide +kernel
theorem dJ1_charAt_3b067_1 : decode cJ1_charAt_3b067 1 = .ok (.aload_n 0, 1) := by decide +kernel
theorem dJ1_charAt_3b067_2 : decode cJ1_charAt_3b067 2 = .ok (.arraylength, 1) := by decide +kernel
theorem dJ1_charAt_3b067_3 : decode cJ1_charAt_3b067 3 = .ok (.invokestatic 9, 3) := by decide +kernel
theorem dJ1_charAt_3b067_6 : decode cJ1_charAt_3b067 6 = .ok (.aload_n 0, 1) := by decide +kernel
theorem dJ1_charAt_3b067_7 : decode cJ1_charAt_3b067 7 = .ok (.iload_n 1, 1) := by decide +kernel
theorem dJ1_charAt_3b067_8 : decode cJ1_charAt_3b067 8 = .ok (.baload, 1) := by decide +kernel
theorem dJ1_charAt_3b067_9 : decode cJ1_charAt_3b067 9 = .ok (.sipush 255, 3) := by decide +kernel
theorem dJ1_charAt_3b067_12 : decode cJ1_charAt_3b067 12 = .ok (.iand, 1) := by decide +kernel
theorem dJ1_charAt_3b067_13 : decode cJ1_charAt_3b067 13 = .ok (.i2c, 1) := by decide +kernel
theorem dJ1_charAt_3b067_14 : decode cJ1_charAt_3b067 14 = .ok (.ireturn, 1) := by decide +kernel
theorem dJ0_charAt_5068e_0 : decode cJ0_charAt_5068e 0 = .ok (.aload_n 0, 1) := by decide +kernel
theorem dJ0_charAt_5068e_1 : decode cJ0_charAt_5068e 1 = .ok (.invokevirtual 492, 3) := by decide +kernel
theorem dJ0_charAt_5068e_4 : decode cJ0_charAt_5068e 4 = .ok (.ifCond .eq 12, 3) := by decide +kernel
theorem dJ0_charAt_5068e_7 : decode cJ0_charAt_5068e 7 = .ok (.aload_n 0, 1) := by decide +kernel
theorem dJ0_charAt_5068e_8 : decode cJ0_charAt_5068e 8 = .ok (.getfield 9, 3) := by decide +kernel
theorem dJ0_charAt_5068e_11 : decode cJ0_charAt_5068e 11 = .ok (.iload_n 1, 1) := by decide +kernel
theorem dJ0_charAt_5068e_12 : decode cJ0_charAt_5068e 12 = .ok (.invokestatic 495, 3) := by decide +kernel
theorem dJ0_charAt_5068e_15 : decode cJ0_charAt_5068e 15 = .ok (.ireturn, 1) := by decide +kernel
theorem dJ0_charAt_5068e_16 : decode cJ0_charAt_5068e 16 = .ok (.aload_n 0, 1) := by decide +kernel
theorem dJ0_charAt_5068e_17 : decode cJ0_charAt_5068e 17 = .ok (.getfield 9, 3) := by decide +kernel
theorem dJ0_charAt_5068e_20 : decode cJ0_charAt_5068e 20 = .ok (.iload_n 1, 1) := by decide +kernel
theorem dJ0_charAt_5068e_21 : decode cJ0_charAt_5068e 21 = .ok (.invokestatic 498, 3) := by decide +kernel
theorem dJ0_charAt_5068e_24 : decode cJ0_charAt_5068e 24 = .ok (.ireturn, 1) := by decide +kernel
set_option maxHeartbeats 4000000 in
theorem c_J3_checkIndex {l : Launch} {w : Wd} (hW : HWd w shX rX 66) (σ : St) (a b : Int32) (v : Value) (hv : v = .null ∨ ∃ t, v = .ref t) : ∀ r, f_J3_checkIndex a b = some r → MtI l yJ3_checkIndex_8e157 cJ3_checkIndex_8e157 3 .int 0 0 w [.int a, .int b, v] σ (r, σ) := by
  rcases hv with rfl | ⟨t, rfl⟩
  all_goals
    refine mt_P (by decide) rfl hW (fun X hl0 hC hret => ?_)
    unfold f_J3_checkIndex
    refine r_iload_n hC dJ3_checkIndex_8e157_0 rfl 0 rfl ?_
    refine r_if_lt hC 9 dJ3_checkIndex_8e157_1 (by decide) (fun c1 => r_none) (fun c1 => ?_)
    refine r_iload_n hC dJ3_checkIndex_8e157_4 rfl 0 rfl ?_
    refine r_iload_n hC dJ3_checkIndex_8e157_5 rfl 1 rfl ?_
    refine r_icmp_lt hC 16 dJ3_checkIndex_8e157_6 (by decide) (fun c1 => ?_) (fun c1 => r_none)
    refine r_iload_n hC dJ3_checkIndex_8e157_16 rfl 0 rfl ?_
    exact r_iretP hC hret rfl dJ3_checkIndex_8e157_17
set_option maxHeartbeats 4000000 in
theorem c_J0_checkIndex {l : Launch} {w : Wd} (hW : HWd w shX rX 66) (σ : St) (a b : Int32) : f_J0_checkIndex a b = some () → MtV l yJ0_checkIndex_df160 cJ0_checkIndex_df160 2 1 30 w [.int a, .int b] σ σ := by
  intro h
  have hh : ∃ r, f_J3_checkIndex a b = some r := by
    unfold f_J0_checkIndex at h
    cases hq : f_J3_checkIndex a b with
    | none => rw [hq] at h; cases h
    | some r => exact ⟨r, rfl⟩
  obtain ⟨r, hr⟩ := hh
  refine mt_V (P := bp (f_J3_checkIndex a b) (fun _ => some σ)) (by decide) rfl hW (fun X hl0 hC hret => ?_) σ (by rw [hr]; rfl)
  refine r_iload_n hC dJ0_checkIndex_df160_0 rfl 0 rfl ?_
  refine r_iload_n hC dJ0_checkIndex_df160_1 rfl 1 rfl ?_
  refine r_getsF hC lf_J0_1053 dJ0_checkIndex_df160_2 (fun v hv => ?_)
  refine r_callSP hC (st := []) [.int a, .int b, v] (c_J3_checkIndex hC.w σ a b v hv) yk_J3_checkIndex_8e157 lm_J0_1059 rfl ⟨rfl, rfl⟩ rfl dJ0_checkIndex_df160_5 (fun r => ?_)
  refine r_pop hC dJ0_checkIndex_df160_8 rfl ?_
  exact r_vret hC hret dJ0_checkIndex_df160_9
set_option maxHeartbeats 4000000 in
theorem c_J1_charAt {l : Launch} {w : Wd} (hW : HWd w shX rX 66) (σ : St) (si : Nat) (a : Int32) (hsi : si < 3) : ∀ r, f_J1_charAt si a = some r → MtI l yJ1_charAt_3b067 cJ1_charAt_3b067 2 .char 2 60 w [.ref (wV w si), .int a] σ (r, σ) := by
  refine mt_P (by decide) rfl hW (fun X hl0 hC hret => ?_)
  unfold f_J1_charAt
  refine r_iload_n hC dJ1_charAt_3b067_0 rfl 1 rfl ?_
  refine r_aload_n hC dJ1_charAt_3b067_1 rfl 0 rfl ?_
  refine r_strL hC si hsi dJ1_charAt_3b067_2 ?_
  refine r_nmI (fun v1 => ?_)
  refine r_callSU hC (st := []) [.int a, .int v1] (c_J0_checkIndex hC.w σ a v1) yk_J0_checkIndex_df160 lm_J1_9 rfl ⟨rfl, rfl⟩ rfl dJ1_charAt_3b067_3 ?_
  refine r_gd (fun g => ?_)
  refine r_aload_n hC dJ1_charAt_3b067_6 rfl 0 rfl ?_
  refine r_iload_n hC dJ1_charAt_3b067_7 rfl 1 rfl ?_
  refine r_strB hC si hsi g dJ1_charAt_3b067_8 ?_
  refine r_nmI (fun v2 => ?_)
  refine r_sipush (v := 255) hC dJ1_charAt_3b067_9 (by decide) ?_
  refine r_iand hC dJ1_charAt_3b067_12 ?_
  refine r_i2c hC dJ1_charAt_3b067_13 ?_
  exact r_iretP hC hret (pk_nc _) dJ1_charAt_3b067_14
set_option maxHeartbeats 4000000 in
theorem c_J0_charAt_5068e {l : Launch} {w : Wd} (hW : HWd w shX rX 66) (σ : St) (si : Nat) (a : Int32) (hsi : si < 3) : ∀ r, f_J0_charAt_5068e si a = some r → MtI l yJ0_charAt_5068e cJ0_charAt_5068e 2 .char 4 120 w [.ref (wK w si), .int a] σ (r, σ) := by
  refine mt_P (by decide) rfl hW (fun X hl0 hC hret => ?_)
  unfold f_J0_charAt_5068e
  refine r_aload_n hC dJ0_charAt_5068e_0 rfl 0 rfl ?_
  refine r_callTP hC (st := []) si hsi [] rfl (c_J0_isLatin1_aae02 hC.w σ si hsi) yk_J0_isLatin1_aae02 lm_J0_492 rfl ⟨rfl, rfl⟩ rfl dJ0_charAt_5068e_1 (fun v1 => ?_)
  refine r_if_eq hC 16 dJ0_charAt_5068e_4 (by decide) (fun c1 => r_none) (fun c1 => ?_)
  refine r_aload_n hC dJ0_charAt_5068e_7 rfl 0 rfl ?_
  refine r_strV hC si hsi lf_J0_9 dJ0_charAt_5068e_8 ?_
  refine r_iload_n hC dJ0_charAt_5068e_11 rfl 1 rfl ?_
  refine r_callSP hC (st := []) [.ref (wV w si), .int a] (c_J1_charAt hC.w σ si a hsi) yk_J1_charAt_3b067 lm_J0_495 rfl ⟨rfl, rfl⟩ rfl dJ0_charAt_5068e_12 (fun v2 => ?_)
  refine r_gd (fun g => ?_)
  exact r_iretP hC hret g dJ0_charAt_5068e_15

