def f_X0_seatOf_l2 (σ : St) (a2 : Int32)  : Nat → Int32 → Option Int32
  | 0, _ => none
  | n + 1, x1 => (if 8 ≤ x1 then some (-1) else gd (inb x1 8) (nm (σ.1 7 (Int32.toNatClampNeg x1)) (fun v4 => (if v4 = a2 then some x1 else f_X0_seatOf_l2 σ a2 n (x1 + 1)))))
def f_X0_seatOf (σ : St) (a2 : Int32) : Option Int32 := f_X0_seatOf_l2 σ a2 FU 0
def f_X2_add (σ : St) (a2 : Int32) (a3 : Int32) (a4 : Int32) (a5 : Int32) : Option (Int32 × St) := nm (σ.1 1 4) (fun v1 => (if v1 < 16 then nm (σ.1 1 4) (fun v3 => gd (inb v3 16) (nm (sI σ 2 (Int32.toNatClampNeg v3) a2) (fun σ5 => nm (σ5.1 1 4) (fun v6 => gd (inb v6 16) (nm (sI σ5 3 (Int32.toNatClampNeg v6) a3) (fun σ8 => nm (σ8.1 1 4) (fun v9 => gd (inb v9 16) (nm (sI σ8 4 (Int32.toNatClampNeg v9) a4) (fun σ11 => nm (σ11.1 1 4) (fun v12 => gd (inb v12 16) (nm (sI σ11 5 (Int32.toNatClampNeg v12) a5) (fun σ14 => nm (σ14.1 1 4) (fun v15 => nm (sI σ14 1 4 (v15 + 1)) (fun σ16 => nm (σ16.1 1 4) (fun v17 => some (v17 - 1, σ16)))))))))))))))) else some ((-4), σ)))
def f_X2_has (σ : St) (a2 : Int32) : Option Int32 := (if a2 < 0 then some 0 else nm (σ.1 1 4) (fun v2 => (if v2 ≤ a2 then some 0 else some 1)))
def f_X0_weightOf_l4 (σ : St)  : Nat → Int32 → Int32 → Option Int32
  | 0, _, _ => none
  | n + 1, x1, x2 => (if 8 ≤ x2 then some x1 else gd (inb x2 8) (nm (σ.1 7 (Int32.toNatClampNeg x2)) (fun v5 => bp (f_X2_has σ v5) (fun v6 => jn (fun (x7 : Int32) => f_X0_weightOf_l4 σ n x7 (x2 + 1)) (fun (j8 : Int32 → Option Int32) => (if v6 = 0 then j8 x1 else gd (inb x2 8) (nm (σ.1 7 (Int32.toNatClampNeg x2)) (fun v11 => gd (inb v11 16) (nm (σ.1 2 (Int32.toNatClampNeg v11)) (fun v13 => nm (x1 + v13) (fun v14 => j8 v14)))))))))))
def f_X0_weightOf (σ : St) : Option Int32 := f_X0_weightOf_l4 σ FU 0 0
theorem lf_X0_9 : Cond.fieldLink RX0 9 (TX0 0).1 (TX0 0).2.1 (TX0 0).2.2.1 ∈ gw := gw_t1 69 rfl rfl
theorem lf_X2_24 : Cond.fieldLink RX2 24 (TX2 4).1 (TX2 4).2.1 (TX2 4).2.2.1 ∈ gw := gw_t1 49 rfl rfl
theorem lf_X2_9 : Cond.fieldLink RX2 9 (TX2 0).1 (TX2 0).2.1 (TX2 0).2.2.1 ∈ gw := gw_t1 37 rfl rfl
theorem lf_X2_15 : Cond.fieldLink RX2 15 (TX2 1).1 (TX2 1).2.1 (TX2 1).2.2.1 ∈ gw := gw_t1 40 rfl rfl
theorem lf_X2_18 : Cond.fieldLink RX2 18 (TX2 2).1 (TX2 2).2.1 (TX2 2).2.2.1 ∈ gw := gw_t1 43 rfl rfl
theorem lf_X2_21 : Cond.fieldLink RX2 21 (TX2 3).1 (TX2 3).2.1 (TX2 3).2.2.1 ∈ gw := gw_t1 46 rfl rfl
theorem lm_X0_38 : Cond.methodLink RX0 38 yX2_has ∈ gw := gw_t3 201 rfl rfl
theorem yk_X2_has : YV yX2_has cX2_has 2 (some .boolean) 1 := ⟨gw_t2 130 rfl rfl, gw_t2 128 rfl rfl, gw_t2 129 rfl rfl, gw_t1 2 rfl rfl, by decide +kernel⟩
theorem lf_X0_44 : Cond.fieldLink RX0 44 (TX2 0).1 (TX2 0).2.1 (TX2 0).2.2.1 ∈ gw := gw_t1 39 rfl rfl
theorem dX0_seatOf_0 : decode cX0_seatOf 0 = .ok (.iconst 0, 1) := by decide +kernel
theorem dX0_seatOf_1 : decode cX0_seatOf 1 = .ok (.istore_n 2, 1) := by decide +kernel
theorem dX0_seatOf_2 : decode cX0_seatOf 2 = .ok (.iload_n 2, 1) := by decide +kernel
theorem dX0_seatOf_3 : decode cX0_seatOf 3 = .ok (.bipush 8, 2) := by decide +kernel
theorem dX0_seatOf_5 : decode cX0_seatOf 5 = .ok (.if_icmp .ge 21, 3) := by decide +kernel
theorem dX0_seatOf_8 : decode cX0_seatOf 8 = .ok (.aload_n 0, 1) := by decide +kernel
theorem dX0_seatOf_9 : decode cX0_seatOf 9 = .ok (.getfield 9, 3) := by decide +kernel
theorem dX0_seatOf_12 : decode cX0_seatOf 12 = .ok (.iload_n 2, 1) := by decide +kernel
theorem dX0_seatOf_13 : decode cX0_seatOf 13 = .ok (.iaload, 1) := by decide +kernel
theorem dX0_seatOf_14 : decode cX0_seatOf 14 = .ok (.iload_n 1, 1) := by decide +kernel
theorem dX0_seatOf_15 : decode cX0_seatOf 15 = .ok (.if_icmp .ne 5, 3) := by decide +kernel
theorem dX0_seatOf_18 : decode cX0_seatOf 18 = .ok (.iload_n 2, 1) := by decide +kernel
theorem dX0_seatOf_19 : decode cX0_seatOf 19 = .ok (.ireturn, 1) := by decide +kernel
theorem dX0_seatOf_20 : decode cX0_seatOf 20 = .ok (.iinc 2 1, 3) := by decide +kernel
theorem dX0_seatOf_23 : decode cX0_seatOf 23 = .ok (.goto (-21), 3) := by decide +kernel
theorem dX0_seatOf_26 : decode cX0_seatOf 26 = .ok (.iconst (-1), 1) := by decide +kernel
theorem dX0_seatOf_27 : decode cX0_seatOf 27 = .ok (.ireturn, 1) := by decide +kernel
theorem dX2_add_0 : decode cX2_add 0 = .ok (.aload_n 0, 1) := by decide +kernel
theorem dX2_add_1 : decode cX2_add 1 = .ok (.getfield 24, 3) := by decide +kernel
theorem dX2_add_4 : decode cX2_add 4 = .ok (.bipush 16, 2) := by decide +kernel
theorem dX2_add_6 : decode cX2_add 6 = .ok (.if_icmp .lt 6, 3) := by decide +kernel
theorem dX2_add_9 : decode cX2_add 9 = .ok (.bipush (-4), 2) := by decide +kernel
theorem dX2_add_11 : decode cX2_add 11 = .ok (.ireturn, 1) := by decide +kernel
theorem dX2_add_12 : decode cX2_add 12 = .ok (.aload_n 0, 1) := by decide +kernel
theorem dX2_add_13 : decode cX2_add 13 = .ok (.getfield 9, 3) := by decide +kernel
theorem dX2_add_16 : decode cX2_add 16 = .ok (.aload_n 0, 1) := by decide +kernel
theorem dX2_add_17 : decode cX2_add 17 = .ok (.getfield 24, 3) := by decide +kernel
theorem dX2_add_20 : decode cX2_add 20 = .ok (.iload_n 1, 1) := by decide +kernel
theorem dX2_add_21 : decode cX2_add 21 = .ok (.iastore, 1) := by decide +kernel
theorem dX2_add_22 : decode cX2_add 22 = .ok (.aload_n 0, 1) := by decide +kernel
theorem dX2_add_23 : decode cX2_add 23 = .ok (.getfield 15, 3) := by decide +kernel
theorem dX2_add_26 : decode cX2_add 26 = .ok (.aload_n 0, 1) := by decide +kernel
theorem dX2_add_27 : decode cX2_add 27 = .ok (.getfield 24, 3) := by decide +kernel
theorem dX2_add_30 : decode cX2_add 30 = .ok (.iload_n 2, 1) := by decide +kernel
theorem dX2_add_31 : decode cX2_add 31 = .ok (.iastore, 1) := by decide +kernel
theorem dX2_add_32 : decode cX2_add 32 = .ok (.aload_n 0, 1) := by decide +kernel
theorem dX2_add_33 : decode cX2_add 33 = .ok (.getfield 18, 3) := by decide +kernel
theorem dX2_add_36 : decode cX2_add 36 = .ok (.aload_n 0, 1) := by decide +kernel
theorem dX2_add_37 : decode cX2_add 37 = .ok (.getfield 24, 3) := by decide +kernel
theorem dX2_add_40 : decode cX2_add 40 = .ok (.iload_n 3, 1) := by decide +kernel
theorem dX2_add_41 : decode cX2_add 41 = .ok (.iastore, 1) := by decide +kernel
theorem dX2_add_42 : decode cX2_add 42 = .ok (.aload_n 0, 1) := by decide +kernel
theorem dX2_add_43 : decode cX2_add 43 = .ok (.getfield 21, 3) := by decide +kernel
theorem dX2_add_46 : decode cX2_add 46 = .ok (.aload_n 0, 1) := by decide +kernel
theorem dX2_add_47 : decode cX2_add 47 = .ok (.getfield 24, 3) := by decide +kernel
theorem dX2_add_50 : decode cX2_add 50 = .ok (.iload 4, 2) := by decide +kernel
theorem dX2_add_52 : decode cX2_add 52 = .ok (.iastore, 1) := by decide +kernel
theorem dX2_add_53 : decode cX2_add 53 = .ok (.aload_n 0, 1) := by decide +kernel
theorem dX2_add_54 : decode cX2_add 54 = .ok (.dup, 1) := by decide +kernel
theorem dX2_add_55 : decode cX2_add 55 = .ok (.getfield 24, 3) := by decide +kernel
theorem dX2_add_58 : decode cX2_add 58 = .ok (.iconst 1, 1) := by decide +kernel
theorem dX2_add_59 : decode cX2_add 59 = .ok (.iadd, 1) := by decide +kernel
theorem dX2_add_60 : decode cX2_add 60 = .ok (.putfield 24, 3) := by decide +kernel
theorem dX2_add_63 : decode cX2_add 63 = .ok (.aload_n 0, 1) := by decide +kernel
theorem dX2_add_64 : decode cX2_add 64 = .ok (.getfield 24, 3) := by decide +kernel
theorem dX2_add_67 : decode cX2_add 67 = .ok (.iconst 1, 1) := by decide +kernel
theorem dX2_add_68 : decode cX2_add 68 = .ok (.isub, 1) := by decide +kernel
theorem dX2_add_69 : decode cX2_add 69 = .ok (.ireturn, 1) := by decide +kernel
theorem dX2_has_0 : decode cX2_has 0 = .ok (.iload_n 1, 1) := by decide +kernel
theorem dX2_has_1 : decode cX2_has 1 = .ok (.ifCond .lt 15, 3) := by decide +kernel
theorem dX2_has_4 : decode cX2_has 4 = .ok (.iload_n 1, 1) := by decide +kernel
theorem dX2_has_5 : decode cX2_has 5 = .ok (.aload_n 0, 1) := by decide +kernel
theorem dX2_has_6 : decode cX2_has 6 = .ok (.getfield 24, 3) := by decide +kernel
theorem dX2_has_9 : decode cX2_has 9 = .ok (.if_icmp .ge 7, 3) := by decide +kernel
theorem dX2_has_12 : decode cX2_has 12 = .ok (.iconst 1, 1) := by decide +kernel
theorem dX2_has_13 : decode cX2_has 13 = .ok (.goto 4, 3) := by decide +kernel
theorem dX2_has_16 : decode cX2_has 16 = .ok (.iconst 0, 1) := by decide +kernel
theorem dX2_has_17 : decode cX2_has 17 = .ok (.ireturn, 1) := by decide +kernel
theorem dX0_weightOf_0 : decode cX0_weightOf 0 = .ok (.iconst 0, 1) := by decide +kernel
theorem dX0_weightOf_1 : decode cX0_weightOf 1 = .ok (.istore_n 2, 1) := by decide +kernel
theorem dX0_weightOf_2 : decode cX0_weightOf 2 = .ok (.iconst 0, 1) := by decide +kernel
theorem dX0_weightOf_3 : decode cX0_weightOf 3 = .ok (.istore_n 3, 1) := by decide +kernel
theorem dX0_weightOf_4 : decode cX0_weightOf 4 = .ok (.iload_n 3, 1) := by decide +kernel
theorem dX0_weightOf_5 : decode cX0_weightOf 5 = .ok (.bipush 8, 2) := by decide +kernel
theorem dX0_weightOf_7 : decode cX0_weightOf 7 = .ok (.if_icmp .ge 36, 3) := by decide +kernel
theorem dX0_weightOf_10 : decode cX0_weightOf 10 = .ok (.aload_n 1, 1) := by decide +kernel
theorem dX0_weightOf_11 : decode cX0_weightOf 11 = .ok (.aload_n 0, 1) := by decide +kernel
theorem dX0_weightOf_12 : decode cX0_weightOf 12 = .ok (.getfield 9, 3) := by decide +kernel
theorem dX0_weightOf_15 : decode cX0_weightOf 15 = .ok (.iload_n 3, 1) := by decide +kernel
theorem dX0_weightOf_16 : decode cX0_weightOf 16 = .ok (.iaload, 1) := by decide +kernel
theorem dX0_weightOf_17 : decode cX0_weightOf 17 = .ok (.invokevirtual 38, 3) := by decide +kernel
theorem dX0_weightOf_20 : decode cX0_weightOf 20 = .ok (.ifCond .eq 17, 3) := by decide +kernel
theorem dX0_weightOf_23 : decode cX0_weightOf 23 = .ok (.iload_n 2, 1) := by decide +kernel
theorem dX0_weightOf_24 : decode cX0_weightOf 24 = .ok (.aload_n 1, 1) := by decide +kernel
theorem dX0_weightOf_25 : decode cX0_weightOf 25 = .ok (.getfield 44, 3) := by decide +kernel
theorem dX0_weightOf_28 : decode cX0_weightOf 28 = .ok (.aload_n 0, 1) := by decide +kernel
theorem dX0_weightOf_29 : decode cX0_weightOf 29 = .ok (.getfield 9, 3) := by decide +kernel
theorem dX0_weightOf_32 : decode cX0_weightOf 32 = .ok (.iload_n 3, 1) := by decide +kernel
theorem dX0_weightOf_33 : decode cX0_weightOf 33 = .ok (.iaload, 1) := by decide +kernel
theorem dX0_weightOf_34 : decode cX0_weightOf 34 = .ok (.iaload, 1) := by decide +kernel
theorem dX0_weightOf_35 : decode cX0_weightOf 35 = .ok (.iadd, 1) := by decide +kernel
theorem dX0_weightOf_36 : decode cX0_weightOf 36 = .ok (.istore_n 2, 1) := by decide +kernel
theorem dX0_weightOf_37 : decode cX0_weightOf 37 = .ok (.iinc 3 1, 3) := by decide +kernel
theorem dX0_weightOf_40 : decode cX0_weightOf 40 = .ok (.goto (-36), 3) := by decide +kernel
theorem dX0_weightOf_43 : decode cX0_weightOf 43 = .ok (.iload_n 2, 1) := by decide +kernel
theorem dX0_weightOf_44 : decode cX0_weightOf 44 = .ok (.ireturn, 1) := by decide +kernel
set_option maxHeartbeats 4000000 in
set_option maxRecDepth 100000 in
theorem w_X0_seatOf_l2 {X : Mc} {w : Wd} (hC : Cok X w (Aw w (xs_ X).heap.size) yX0_seatOf.cls cX0_seatOf 3 0 0 shX rX 66) (hret : (xmeth X).sig.returnType = some .int) (σ : St) (a2 : Int32)     : ∀ (n : Nat) (x1 : Int32), RF X w (Aw w (xs_ X).heap.size) 3 (fun r => QI X w (r, σ)) (f_X0_seatOf_l2 σ a2 n x1) 2 [(0, .ref (wA w 6)), (1, .int a2), (2, .int x1)] [] σ := by
  intro n
  induction n with
  | zero => intro x1; rw [f_X0_seatOf_l2]; exact r_none
  | succ n ih =>
    intro x1
    rw [f_X0_seatOf_l2]
    refine r_iload_n hC dX0_seatOf_2 rfl 2 rfl ?_
    refine r_bipush (v := 8) hC dX0_seatOf_3 (by decide) ?_
    refine r_icmp_ge hC 26 dX0_seatOf_5 (by decide) (fun c2 => ?_) (fun c2 => ?_)
    · refine r_iconst (v := (-1)) hC dX0_seatOf_26 (by decide) ?_
      exact r_iretP hC hret rfl dX0_seatOf_27
    · refine r_aload_n hC dX0_seatOf_8 rfl 0 rfl ?_
      refine r_getR hC clX0 6 0 7 rfl rfl rfl (hC.n rfl) rfl lf_X0_9 dX0_seatOf_9 ?_
      refine r_iload_n hC dX0_seatOf_12 rfl 2 rfl ?_
      refine r_gd (fun g3 => ?_)
      refine r_iald hC 7 8 rfl rfl g3 dX0_seatOf_13 ?_
      refine r_nmI (fun v4 => ?_)
      refine r_iload_n hC dX0_seatOf_14 rfl 1 rfl ?_
      refine r_icmp_ne hC 20 dX0_seatOf_15 (by decide) (fun c5 => ?_) (fun c5 => ?_)
      · refine r_iinc (v := x1 + 1) (lv' := [(2, .int (x1 + 1)), (0, .ref (wA w 6)), (1, .int a2)]) hC dX0_seatOf_20 2 rfl rfl (by decide) rfl ?_
        refine r_goto hC 2 dX0_seatOf_23 (by decide) ?_
        exact r_lv [1, 2, 0] rfl (ih (x1 + 1))
      · refine r_iload_n hC dX0_seatOf_18 rfl 2 rfl ?_
        exact r_iretP hC hret rfl dX0_seatOf_19
set_option maxHeartbeats 4000000 in
set_option maxRecDepth 100000 in
theorem c_X0_seatOf {l : Launch} {w : Wd} (hW : HWd w shX rX 66) (σ : St) (a2 : Int32)  : ∀ res, f_X0_seatOf σ a2 = some res → MtI l yX0_seatOf cX0_seatOf 3 .int 0 0 w [.ref (wA w 6), .int a2] σ (res, σ) := by
  refine mt_P (by decide) rfl hW (fun X hl0 hC hret => ?_)
  show RF X w (Aw w (xs_ X).heap.size) 3 (fun r => QI X w (r, σ)) (f_X0_seatOf σ a2) 0 [(0, .ref (wA w 6)), (1, .int a2)] [] σ
  unfold f_X0_seatOf
  refine r_iconst (v := 0) hC dX0_seatOf_0 (by decide) ?_
  refine r_istore_n (lv' := [(2, .int 0), (0, .ref (wA w 6)), (1, .int a2)]) hC dX0_seatOf_1 rfl (by decide) rfl ?_
  refine r_lv [1, 2, 0] rfl ?_
  exact w_X0_seatOf_l2 hC hret σ a2 FU 0
set_option maxHeartbeats 4000000 in
set_option maxRecDepth 100000 in
theorem c_X2_add {l : Launch} {w : Wd} (hW : HWd w shX rX 66) (σ : St) (a2 : Int32) (a3 : Int32) (a4 : Int32) (a5 : Int32)  : ∀ res, f_X2_add σ a2 a3 a4 a5 = some res → MtI l yX2_add cX2_add 5 .int 0 0 w [.ref (wA w 1), .int a2, .int a3, .int a4, .int a5] σ res := by
  refine mt_I (by decide) rfl hW (fun X hl0 hC hret => ?_)
  show RF X w (Aw w (xs_ X).heap.size) 5 (QI X w) (f_X2_add σ a2 a3 a4 a5) 0 [(0, .ref (wA w 1)), (1, .int a2), (2, .int a3), (3, .int a4), (4, .int a5)] [] σ
  unfold f_X2_add
  refine r_aload_n hC dX2_add_0 rfl 0 rfl ?_
  refine r_getI hC clX2 1 4 rfl rfl (hC.n rfl) rfl lf_X2_24 dX2_add_1 ?_
  refine r_nmI (fun v1 => ?_)
  refine r_bipush (v := 16) hC dX2_add_4 (by decide) ?_
  refine r_icmp_lt hC 12 dX2_add_6 (by decide) (fun c2 => ?_) (fun c2 => ?_)
  · refine r_aload_n hC dX2_add_12 rfl 0 rfl ?_
    refine r_getR hC clX2 1 0 2 rfl rfl rfl (hC.n rfl) rfl lf_X2_9 dX2_add_13 ?_
    refine r_aload_n hC dX2_add_16 rfl 0 rfl ?_
    refine r_getI hC clX2 1 4 rfl rfl (hC.n rfl) rfl lf_X2_24 dX2_add_17 ?_
    refine r_nmI (fun v3 => ?_)
    refine r_iload_n hC dX2_add_20 rfl 1 rfl ?_
    refine r_gd (fun g4 => ?_)
    refine r_iast hC 2 16 rfl rfl g4 dX2_add_21 ?_
    refine r_nmS (fun σ5 => ?_)
    refine r_aload_n hC dX2_add_22 rfl 0 rfl ?_
    refine r_getR hC clX2 1 1 3 rfl rfl rfl (hC.n rfl) rfl lf_X2_15 dX2_add_23 ?_
    refine r_aload_n hC dX2_add_26 rfl 0 rfl ?_
    refine r_getI hC clX2 1 4 rfl rfl (hC.n rfl) rfl lf_X2_24 dX2_add_27 ?_
    refine r_nmI (fun v6 => ?_)
    refine r_iload_n hC dX2_add_30 rfl 2 rfl ?_
    refine r_gd (fun g7 => ?_)
    refine r_iast hC 3 16 rfl rfl g7 dX2_add_31 ?_
    refine r_nmS (fun σ8 => ?_)
    refine r_aload_n hC dX2_add_32 rfl 0 rfl ?_
    refine r_getR hC clX2 1 2 4 rfl rfl rfl (hC.n rfl) rfl lf_X2_18 dX2_add_33 ?_
    refine r_aload_n hC dX2_add_36 rfl 0 rfl ?_
    refine r_getI hC clX2 1 4 rfl rfl (hC.n rfl) rfl lf_X2_24 dX2_add_37 ?_
    refine r_nmI (fun v9 => ?_)
    refine r_iload_n hC dX2_add_40 rfl 3 rfl ?_
    refine r_gd (fun g10 => ?_)
    refine r_iast hC 4 16 rfl rfl g10 dX2_add_41 ?_
    refine r_nmS (fun σ11 => ?_)
    refine r_aload_n hC dX2_add_42 rfl 0 rfl ?_
    refine r_getR hC clX2 1 3 5 rfl rfl rfl (hC.n rfl) rfl lf_X2_21 dX2_add_43 ?_
    refine r_aload_n hC dX2_add_46 rfl 0 rfl ?_
    refine r_getI hC clX2 1 4 rfl rfl (hC.n rfl) rfl lf_X2_24 dX2_add_47 ?_
    refine r_nmI (fun v12 => ?_)
    refine r_iload hC dX2_add_50 4 rfl ?_
    refine r_gd (fun g13 => ?_)
    refine r_iast hC 5 16 rfl rfl g13 dX2_add_52 ?_
    refine r_nmS (fun σ14 => ?_)
    refine r_aload_n hC dX2_add_53 rfl 0 rfl ?_
    refine r_dup hC dX2_add_54 rfl ?_
    refine r_getI hC clX2 1 4 rfl rfl (hC.n rfl) rfl lf_X2_24 dX2_add_55 ?_
    refine r_nmI (fun v15 => ?_)
    refine r_iconst (v := 1) hC dX2_add_58 (by decide) ?_
    refine r_iadd hC dX2_add_59 ?_
    refine r_putI hC clX2 1 4 rfl rfl rfl (hC.n rfl) rfl rfl lf_X2_24 dX2_add_60 ?_
    refine r_nmS (fun σ16 => ?_)
    refine r_aload_n hC dX2_add_63 rfl 0 rfl ?_
    refine r_getI hC clX2 1 4 rfl rfl (hC.n rfl) rfl lf_X2_24 dX2_add_64 ?_
    refine r_nmI (fun v17 => ?_)
    refine r_iconst (v := 1) hC dX2_add_67 (by decide) ?_
    refine r_isub hC dX2_add_68 ?_
    exact r_iret hC hret rfl dX2_add_69
  · refine r_bipush (v := (-4)) hC dX2_add_9 (by decide) ?_
    exact r_iret hC hret rfl dX2_add_11
set_option maxHeartbeats 4000000 in
set_option maxRecDepth 100000 in
theorem c_X2_has {l : Launch} {w : Wd} (hW : HWd w shX rX 66) (σ : St) (a2 : Int32)  : ∀ res, f_X2_has σ a2 = some res → MtI l yX2_has cX2_has 2 .boolean 0 0 w [.ref (wA w 1), .int a2] σ (res, σ) := by
  refine mt_P (by decide) rfl hW (fun X hl0 hC hret => ?_)
  show RF X w (Aw w (xs_ X).heap.size) 2 (fun r => QI X w (r, σ)) (f_X2_has σ a2) 0 [(0, .ref (wA w 1)), (1, .int a2)] [] σ
  unfold f_X2_has
  refine r_iload_n hC dX2_has_0 rfl 1 rfl ?_
  refine r_if_lt hC 16 dX2_has_1 (by decide) (fun c1 => ?_) (fun c1 => ?_)
  · refine r_iconst (v := 0) hC dX2_has_16 (by decide) ?_
    exact r_iretP hC hret rfl dX2_has_17
  · refine r_iload_n hC dX2_has_4 rfl 1 rfl ?_
    refine r_aload_n hC dX2_has_5 rfl 0 rfl ?_
    refine r_getI hC clX2 1 4 rfl rfl (hC.n rfl) rfl lf_X2_24 dX2_has_6 ?_
    refine r_nmI (fun v2 => ?_)
    refine r_icmp_ge hC 16 dX2_has_9 (by decide) (fun c3 => ?_) (fun c3 => ?_)
    · refine r_iconst (v := 0) hC dX2_has_16 (by decide) ?_
      exact r_iretP hC hret rfl dX2_has_17
    · refine r_iconst (v := 1) hC dX2_has_12 (by decide) ?_
      refine r_goto hC 17 dX2_has_13 (by decide) ?_
      exact r_iretP hC hret rfl dX2_has_17
set_option maxHeartbeats 4000000 in
set_option maxRecDepth 100000 in
theorem w_X0_weightOf_l4 {X : Mc} {w : Wd} (hC : Cok X w (Aw w (xs_ X).heap.size) yX0_weightOf.cls cX0_weightOf 4 1 21 shX rX 66) (hret : (xmeth X).sig.returnType = some .int) (σ : St)     : ∀ (n : Nat) (x1 : Int32) (x2 : Int32), RF X w (Aw w (xs_ X).heap.size) 4 (fun r => QI X w (r, σ)) (f_X0_weightOf_l4 σ n x1 x2) 4 [(0, .ref (wA w 6)), (1, .ref (wA w 1)), (2, .int x1), (3, .int x2)] [] σ := by
  intro n
  induction n with
  | zero => intro x1 x2; rw [f_X0_weightOf_l4]; exact r_none
  | succ n ih =>
    intro x1 x2
    rw [f_X0_weightOf_l4]
    refine r_iload_n hC dX0_weightOf_4 rfl 3 rfl ?_
    refine r_bipush (v := 8) hC dX0_weightOf_5 (by decide) ?_
    refine r_icmp_ge hC 43 dX0_weightOf_7 (by decide) (fun c3 => ?_) (fun c3 => ?_)
    · refine r_iload_n hC dX0_weightOf_43 rfl 2 rfl ?_
      exact r_iretP hC hret rfl dX0_weightOf_44
    · refine r_aload_n hC dX0_weightOf_10 rfl 1 rfl ?_
      refine r_aload_n hC dX0_weightOf_11 rfl 0 rfl ?_
      refine r_getR hC clX0 6 0 7 rfl rfl rfl (hC.n rfl) rfl lf_X0_9 dX0_weightOf_12 ?_
      refine r_iload_n hC dX0_weightOf_15 rfl 3 rfl ?_
      refine r_gd (fun g4 => ?_)
      refine r_iald hC 7 8 rfl rfl g4 dX0_weightOf_16 ?_
      refine r_nmI (fun v5 => ?_)
      refine r_callVP hC (b := 1) (ci := 2) (st := []) [.int v5] rfl (hC.n rfl) rfl rfl (c_X2_has hC.w σ v5) yk_X2_has lm_X0_38 rfl ⟨rfl, rfl⟩ rfl dX0_weightOf_17 (fun v6 => ?_)
      refine r_jn (T := fun (j8 : Int32 → Option Int32) => ∀ (x7 : Int32), RF X w (Aw w (xs_ X).heap.size) 4 (fun r => QI X w (r, σ)) (j8 x7) 37 [(0, .ref (wA w 6)), (1, .ref (wA w 1)), (2, .int x7), (3, .int x2)] [] σ) ?_ (fun j8 hj8 => ?_)
      · intro x7
        refine r_iinc (v := x2 + 1) (lv' := [(3, .int (x2 + 1)), (0, .ref (wA w 6)), (1, .ref (wA w 1)), (2, .int x7)]) hC dX0_weightOf_37 3 rfl rfl (by decide) rfl ?_
        refine r_goto hC 4 dX0_weightOf_40 (by decide) ?_
        exact r_lv [1, 2, 3, 0] rfl (ih x7 (x2 + 1))
      · refine r_if_eq hC 37 dX0_weightOf_20 (by decide) (fun c9 => ?_) (fun c9 => ?_)
        · exact r_lv [0, 1, 2, 3] rfl (hj8 x1)
        · refine r_iload_n hC dX0_weightOf_23 rfl 2 rfl ?_
          refine r_aload_n hC dX0_weightOf_24 rfl 1 rfl ?_
          refine r_getR hC clX2 1 0 2 rfl rfl rfl (hC.n rfl) rfl lf_X0_44 dX0_weightOf_25 ?_
          refine r_aload_n hC dX0_weightOf_28 rfl 0 rfl ?_
          refine r_getR hC clX0 6 0 7 rfl rfl rfl (hC.n rfl) rfl lf_X0_9 dX0_weightOf_29 ?_
          refine r_iload_n hC dX0_weightOf_32 rfl 3 rfl ?_
          refine r_gd (fun g10 => ?_)
          refine r_iald hC 7 8 rfl rfl g10 dX0_weightOf_33 ?_
          refine r_nmI (fun v11 => ?_)
          refine r_gd (fun g12 => ?_)
          refine r_iald hC 2 16 rfl rfl g12 dX0_weightOf_34 ?_
          refine r_nmI (fun v13 => ?_)
          refine r_iadd hC dX0_weightOf_35 ?_
          refine r_nmI (fun v14 => ?_)
          refine r_istore_n (lv' := [(2, .int v14), (0, .ref (wA w 6)), (1, .ref (wA w 1)), (3, .int x2)]) hC dX0_weightOf_36 rfl (by decide) rfl ?_
          exact r_lv [1, 2, 0, 3] rfl (hj8 v14)
set_option maxHeartbeats 4000000 in
set_option maxRecDepth 100000 in
theorem c_X0_weightOf {l : Launch} {w : Wd} (hW : HWd w shX rX 66) (σ : St)   : ∀ res, f_X0_weightOf σ = some res → MtI l yX0_weightOf cX0_weightOf 4 .int 1 21 w [.ref (wA w 6), .ref (wA w 1)] σ (res, σ) := by
  refine mt_P (by decide) rfl hW (fun X hl0 hC hret => ?_)
  show RF X w (Aw w (xs_ X).heap.size) 4 (fun r => QI X w (r, σ)) (f_X0_weightOf σ) 0 [(0, .ref (wA w 6)), (1, .ref (wA w 1))] [] σ
  unfold f_X0_weightOf
  refine r_iconst (v := 0) hC dX0_weightOf_0 (by decide) ?_
  refine r_istore_n (lv' := [(2, .int 0), (0, .ref (wA w 6)), (1, .ref (wA w 1))]) hC dX0_weightOf_1 rfl (by decide) rfl ?_
  refine r_iconst (v := 0) hC dX0_weightOf_2 (by decide) ?_
  refine r_istore_n (lv' := [(3, .int 0), (2, .int 0), (0, .ref (wA w 6)), (1, .ref (wA w 1))]) hC dX0_weightOf_3 rfl (by decide) rfl ?_
  refine r_lv [2, 3, 1, 0] rfl ?_
  exact w_X0_weightOf_l4 hC hret σ FU 0 0
