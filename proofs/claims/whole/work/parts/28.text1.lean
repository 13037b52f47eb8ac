theorem lm_J7_304 : Cond.methodLink RJ7 304 Lib.Math.min.name ∈ gw := gw_t3 135 rfl rfl
theorem lm_J7_150 : Cond.methodLink RJ7 150 arraycopyName ∈ gw := gw_t3 136 rfl rfl
theorem dJ7_copyOf_59c91_0 : decode cJ7_copyOf_59c91 0 = .ok (.iload_n 1, 1) := by decide +kernel
theorem dJ7_copyOf_59c91_1 : decode cJ7_copyOf_59c91 1 = .ok (.aload_n 0, 1) := by decide +kernel
theorem dJ7_copyOf_59c91_2 : decode cJ7_copyOf_59c91 2 = .ok (.arraylength, 1) := by decide +kernel
theorem dJ7_copyOf_59c91_3 : decode cJ7_copyOf_59c91 3 = .ok (.if_icmp .ne 11, 3) := by decide +kernel
theorem dJ7_copyOf_59c91_6 : decode cJ7_copyOf_59c91 6 = .ok (.aload_n 0, 1) := by decide +kernel
theorem dJ7_copyOf_59c91_7 : decode cJ7_copyOf_59c91 7 = .ok (.invokevirtual 316, 3) := by decide +kernel
theorem dJ7_copyOf_59c91_10 : decode cJ7_copyOf_59c91 10 = .ok (.checkcast 317, 3) := by decide +kernel
theorem dJ7_copyOf_59c91_13 : decode cJ7_copyOf_59c91 13 = .ok (.areturn, 1) := by decide +kernel
theorem dJ7_copyOf_59c91_14 : decode cJ7_copyOf_59c91 14 = .ok (.iload_n 1, 1) := by decide +kernel
theorem dJ7_copyOf_59c91_15 : decode cJ7_copyOf_59c91 15 = .ok (.newarray .int, 2) := by decide +kernel
theorem dJ7_copyOf_59c91_17 : decode cJ7_copyOf_59c91 17 = .ok (.astore_n 2, 1) := by decide +kernel
theorem dJ7_copyOf_59c91_18 : decode cJ7_copyOf_59c91 18 = .ok (.aload_n 0, 1) := by decide +kernel
theorem dJ7_copyOf_59c91_19 : decode cJ7_copyOf_59c91 19 = .ok (.iconst 0, 1) := by decide +kernel
theorem dJ7_copyOf_59c91_20 : decode cJ7_copyOf_59c91 20 = .ok (.aload_n 2, 1) := by decide +kernel
theorem dJ7_copyOf_59c91_21 : decode cJ7_copyOf_59c91 21 = .ok (.iconst 0, 1) := by decide +kernel
theorem dJ7_copyOf_59c91_22 : decode cJ7_copyOf_59c91 22 = .ok (.aload_n 0, 1) := by decide +kernel
theorem dJ7_copyOf_59c91_23 : decode cJ7_copyOf_59c91 23 = .ok (.arraylength, 1) := by decide +kernel
theorem dJ7_copyOf_59c91_24 : decode cJ7_copyOf_59c91 24 = .ok (.iload_n 1, 1) := by decide +kernel
theorem dJ7_copyOf_59c91_25 : decode cJ7_copyOf_59c91 25 = .ok (.invokestatic 304, 3) := by decide +kernel
theorem dJ7_copyOf_59c91_28 : decode cJ7_copyOf_59c91 28 = .ok (.invokestatic 150, 3) := by decide +kernel
theorem dJ7_copyOf_59c91_31 : decode cJ7_copyOf_59c91 31 = .ok (.aload_n 2, 1) := by decide +kernel
theorem dJ7_copyOf_59c91_32 : decode cJ7_copyOf_59c91 32 = .ok (.areturn, 1) := by decide +kernel
def PwC0 (D : va_G) (C : Nat → ClassId) (W0 : va_W) (sz : Nat) (U : State) : Prop := U.heap.size = sz ∧ va_P D classes W0 U.heap ∧ va_K D classes (tyC C) U ∧ va_D (fun _ => True) W0
def MtC0 (l : Launch) (y : MethodName) (cc : ByteArray) (nL fr mc ms lo : Nat) (D : va_G) (C : Nat → ClassId) (av : List Value) (W0 : va_W) (W1 : (Nat → Nat → Nat) → va_W) : Prop :=
  ∀ sz, Met l y (.code y cc nL none :: gw) (rmc fr mc ms lo) (va_Pc av (PwC0 D C W0 sz)) (va_Qv (fun _ : Nat → Nat → Nat => True) (BwC D C (va_A W0 sz) W1) (va_A W0 sz)) mc ms (va_A W0 sz)
theorem PwC0_blind {av : List Value} {D : va_G} {C : Nat → ClassId} {W0 : va_W} {sz : Nat} : FrameBlind (va_Pc av (PwC0 D C W0 sz)) := fun a U g mk q => by
  obtain ⟨q0, q1, qP, qK, qD⟩ := q
  exact ⟨q0, q1, qP, va_K.moved (u := U) (U := U.calling g mk a) (Vm.Alike.refl U.vm) qK, qD⟩
set_option maxHeartbeats 4000000 in
set_option maxRecDepth 100000 in
theorem i0_X6_init {l : Launch} {D : va_G} {C : Nat → ClassId} (h0 : Nat) (a1 : Nat) (a2 : Int32) : MtC0 l yX6_init cX6_init 3 1 0 0 12 D C [.ref h0, .ref a1, .int a2] [(h0, .inr (6, [.null, .int 0]))] (cw_X6_init C h0 a1 a2) := by
  intro sz
  refine Met.ofW (cc := cX6_init) (maxL := 3) (ret := none) (by decide) rfl ?_
  intro p e s m args below meth c s₁ B hml hv
  obtain ⟨rfl, hsz, hP, hK, hD0⟩ := hv
  have hx := B.exec
  have hb := B.bytes
  have hr := B.returns
  have hts0 := atoms_spec (ws := .code yX6_init cX6_init 3 none :: gw) B.pre
  have hts : ∀ w ∈ gw, w.before _ s = true := fun w9 h9 => hts0 w9 (List.mem_cons_of_mem _ h9)
  have hown : s.vm.findClass RX6 = some m.cls := findClass_of_methodNamed B.named
  have hlocks := B.notSynchronized
  have hin : meth.name = "<init>" := (name_of_methodNamed B.named B.method).1
  subst hsz
  have hD := hD0.self (sz := s.heap.size)
  generalize hAe : va_A [(h0, .inr (6, [.null, .int 0]))] s.heap.size = A at hD ⊢
  have hA : ∀ q : Nat, s.heap.size ≤ q → A q := fun q h => by rw [← hAe]; exact Or.inr h
  have hS : va_S A s.heap s.heap [] := va_S.rf
  have hl := lv_entry ([.ref h0, .ref a1, .int a2]) (n := 3) (Nat.le_of_ble_eq_true rfl)
  rw [lg_entry_eq]
  generalize (lg_sl ([.ref h0, .ref a1, .int a2]) ++ List.replicate (3 - (lg_sl ([.ref h0, .ref a1, .int a2])).length) Slot.unset).toArray = ls at hl ⊢
  have hl : lv_has ls 3 [(0, .ref h0), (1, .ref a1), (2, .int a2)] := hl
  refine lv_aload_n hx hb dX6_init_0 rfl (lv_at hl 0 rfl) ?_
  refine W.objInit hx hb hown (hts _ lm_X6_3) (hts _ wo_1) (hts _ wo_2) rfl (by rw [hml]; exact hl.1) rfl dX6_init_1 (Nat.le_of_ble_eq_true rfl) (Nat.le_of_ble_eq_true rfl) ?_
  refine W.eq (g2 := F0 m 4 ls []) rfl ?_
  refine lv_aload_n hx hb dX6_init_4 rfl (lv_at hl 0 rfl) ?_
  refine lv_aload_n hx hb dX6_init_5 rfl (lv_at hl 1 rfl) ?_
  refine va_putF (ci := 6) (v := .ref a1) (ty := .array (.int)) (C := RX6) (T := TX6) (N := 2) hx hb hts clX6.ws tyX6 tyX6_ok nmX6 hown hK hP hD hS 0 rfl rfl 0 (by decide) (hts _ lf_X6_9) (fun _ h9 => h9) rfl hin rfl (by decide +kernel) rfl rfl (Nat.le_of_ble_eq_true rfl) dX6_init_6 (fun H locs hP hD hS => ?_)
  have hP : va_P D classes [(h0, .inr (6, [.ref a1, .int 0]))] H := hP
  have hD : va_D A [(h0, .inr (6, [.ref a1, .int 0]))] := hD
  refine lv_aload_n hx hb dX6_init_9 rfl (lv_at hl 0 rfl) ?_
  refine lv_iload_n hx hb dX6_init_10 rfl (lv_at hl 2 rfl) ?_
  refine va_putF (ci := 6) (v := .int a2) (ty := .int) (C := RX6) (T := TX6) (N := 2) hx hb hts clX6.ws tyX6 tyX6_ok nmX6 hown hK hP hD hS 0 rfl rfl 1 (by decide) (hts _ lf_X6_13) (fun _ h9 => h9) rfl hin rfl (by decide +kernel) rfl rfl (Nat.le_of_ble_eq_true rfl) dX6_init_11 (fun H locs hP hD hS => ?_)
  have hP : va_P D classes [(h0, .inr (6, [.ref a1, .int a2]))] H := hP
  have hD : va_D A [(h0, .inr (6, [.ref a1, .int a2]))] := hD
  exact W.vret hx hb hr (fun t ht hW => ⟨⟨(fun k => [(fun i => [].getD i 0)].getD k (fun _ => 0)), rfl, trivial, by rw [ht]; exact hP, va_K.moved hW.alike hK, hD⟩, hS.F ht⟩) hS.2.2 dX6_init_14
theorem app_l {ws xs : va_W} {k : Nat} {q : Nat × va_E} (h : ws[k]? = some q) : (ws ++ xs)[k]? = some q := by
  rw [List.getElem?_append_left ((List.getElem?_eq_some_iff.mp h).1)]; exact h
theorem app_last {ws : va_W} {x : Nat × va_E} : (ws ++ [x])[ws.length]? = some x := by
  rw [List.getElem?_append_right (Nat.le_refl _), Nat.sub_self]; rfl
theorem set_last {ws : va_W} {x y : Nat × va_E} : (ws ++ [x]).set ws.length y = ws ++ [y] := by
  rw [List.set_append_right _ _ (Nat.le_refl _), Nat.sub_self]; rfl
theorem set_l {ws xs : va_W} {k : Nat} {y : Nat × va_E} (h : k < ws.length) : (ws ++ xs).set k y = ws.set k y ++ xs := by
  rw [List.set_append_left _ _ h]
/-- what Arrays.copyOf(steps, n) makes -/
def cpyE (w : Wd) (σ : St) (n : Int32) : va_E := .inl (wC w 0, n.toNatClampNeg, .inl (va_cpy (σ.1 18) (fun _ => 0) 0 0 n.toNatClampNeg))
set_option maxHeartbeats 4000000 in
set_option maxRecDepth 100000 in
theorem c_J7_copyOf {l : Launch} {w : Wd} (hW : HWd w shX rX 66) (σ : St) (n : Int32) (hn0 : ¬ n < 0) (hn : n.toNatClampNeg < 160) : ∀ sz, Met l yJ7_copyOf_59c91 (.code yJ7_copyOf_59c91 cJ7_copyOf_59c91 3 (some (.array .int)) :: gw) (rmc 1 1 160 60) (va_Pc [.ref (wA w 18), .int n] (Pw w σ sz)) (va_Qr (fun _ : Unit => True) (fun _ a t => va_P (wD w) classes (wls w σ ++ [(a, cpyE w σ n)]) t.heap ∧ va_K (wD w) classes (wty w) t ∧ va_D (Aw w sz) (wls w σ ++ [(a, cpyE w σ n)])) (Aw w sz)) 1 160 (Aw w sz) := by
  intro sz
  refine Met.ofW (cc := cJ7_copyOf_59c91) (maxL := 3) (ret := some (.array .int)) (by decide) rfl ?_
  intro p e s m args below meth c s₁ B hml hv
  obtain ⟨rfl, hsz, hP, hK, hD0, hX⟩ := hv
  subst hsz
  have hx := B.exec
  have hb := B.bytes
  have hr := B.returns
  have hts0 := atoms_spec (ws := .code yJ7_copyOf_59c91 cJ7_copyOf_59c91 3 (some (.array .int)) :: gw) B.pre
  have hts : ∀ w ∈ gw, w.before _ s = true := fun w9 h9 => hts0 w9 (List.mem_cons_of_mem _ h9)
  have hown : s.vm.findClass RJ7 = some m.cls := findClass_of_methodNamed B.named
  have hlocks := B.notSynchronized
  have hD : va_D (Aw w s.heap.size) (wls w σ) := Aw_D hD0 σ
  have hA : ∀ q : Nat, s.heap.size ≤ q → Aw w s.heap.size q := fun q h => Or.inr h
  have hS : va_S (Aw w s.heap.size) s.heap s.heap [] := va_S.rf
  have h18 : (wls w σ)[18]? = some (wA w 18, .inl (wC w 0, 160, .inl (σ.1 18))) := (wls_get (hW.n rfl)).trans (by rw [went_1 (hW.sh (k := 18) (q := (1, 160)) rfl)])
  have hl := lv_entry ([.ref (wA w 18), .int n]) (n := 3) (Nat.le_of_ble_eq_true rfl)
  rw [lg_entry_eq]
  generalize (lg_sl ([.ref (wA w 18), .int n]) ++ List.replicate (3 - (lg_sl ([.ref (wA w 18), .int n])).length) Slot.unset).toArray = ls at hl ⊢
  have hl : lv_has ls 3 [(0, .ref (wA w 18)), (1, .int n)] := hl
  have hlt : n < 160 := by
    rw [Int32.lt_iff_toInt_lt]
    have h1 : ¬ n.toInt < 0 := fun h => hn0 (Int32.lt_iff_toInt_lt.mpr h)
    have h2 : n.toInt = (n.toNatClampNeg : Int) := (Int.toNat_of_nonneg (by omega)).symm
    have h3 : (160 : Int32).toInt = 160 := rfl
    omega
  refine lv_iload_n hx hb dJ7_copyOf_59c91_0 rfl (lv_at hl 1 rfl) ?_
  refine lv_aload_n hx hb dJ7_copyOf_59c91_1 rfl (lv_at hl 0 rfl) ?_
  refine va_alen (v := 160) hx hb hK hP 18 0 h18 rfl rfl dJ7_copyOf_59c91_2 ?_
  refine lv_icmp_ne (tgt := 14) hx hb dJ7_copyOf_59c91_3 (by decide) (fun c9 => ?_) (fun c9 => by rw [c9] at hlt; exact absurd hlt (by decide))
  refine lv_iload_n hx hb dJ7_copyOf_59c91_14 rfl (lv_at hl 1 rfl) ?_
  refine e_newI (C := wC w) (N' := n.toNatClampNeg) hx hb hts wa_int hK hP hD hS hA hn0 rfl (by show n.toNatClampNeg * 4 ≤ 536870912; omega) (Nat.le_of_ble_eq_true rfl) (by show 0 + n.toNatClampNeg ≤ 160; omega) dJ7_copyOf_59c91_15 (fun q H hP hD hS => ?_)
  refine lv_astore_n (lv' := [(2, .ref q), (0, .ref (wA w 18)), (1, .int n)]) hx hb dJ7_copyOf_59c91_17 rfl hl (by decide) rfl (fun ls hl => ?_)
  refine lv_aload_n hx hb dJ7_copyOf_59c91_18 rfl (lv_at hl 1 rfl) ?_
  refine lv_iconst (v := 0) hx hb dJ7_copyOf_59c91_19 (by decide) ?_
  refine lv_aload_n hx hb dJ7_copyOf_59c91_20 rfl (lv_at hl 0 rfl) ?_
  refine lv_iconst (v := 0) hx hb dJ7_copyOf_59c91_21 (by decide) ?_
  refine lv_aload_n hx hb dJ7_copyOf_59c91_22 rfl (lv_at hl 1 rfl) ?_
  refine va_alen (v := 160) hx hb hK hP 18 0 (app_l h18) rfl rfl dJ7_copyOf_59c91_23 ?_
  refine lv_iload_n hx hb dJ7_copyOf_59c91_24 rfl (lv_at hl 2 rfl) ?_
  refine va_mmin hx hb (hml.trans hl.1.symm) hown (hts _ lm_J7_304) (hts _ ws_mmin) (hts _ wi_math) (hts _ wc_mmin) (Nat.le_of_ble_eq_true rfl) (Nat.le_of_ble_eq_true rfl) (Nat.le_of_ble_eq_true rfl) (by show 0 + n.toNatClampNeg ≤ 160; omega) dJ7_copyOf_59c91_25 ?_
  rw [if_pos hlt]
  refine va_copyi (ty := .int) hx hb (hml.trans hl.1.symm) hown (hts _ lm_J7_150) (hts _ wn_copy) (hts _ ws_copy) (hts _ wi_sys) hK hP hD hS 18 (wls w σ).length 0 0 (app_l h18) app_last rfl rfl rfl (by decide) (by decide) hn0 (by show 0 + n.toNatClampNeg ≤ 160; omega) (by show 0 + n.toNatClampNeg ≤ n.toNatClampNeg; omega) (fun _ _ => rfl) (Nat.le_of_ble_eq_true rfl) (Nat.le_of_ble_eq_true rfl) dJ7_copyOf_59c91_28 (fun H locs hP hD hS => ?_)
  rw [set_last] at hP hD
  refine lv_aload_n hx hb dJ7_copyOf_59c91_31 rfl (lv_at hl 0 rfl) ?_
  refine W.widen (k := 1) (n := 160) (by omega) (by omega) ?_
  exact W.aret (v := .ref q) hx hb hr (Or.inr ⟨_, rfl⟩) (Or.inr ⟨q, rfl⟩) (fun t ht hW2 => ⟨⟨(), q, rfl, trivial, by rw [ht]; exact hP, va_K.moved hW2.alike hK, hD⟩, hS.F ht⟩) hS.2.2 dJ7_copyOf_59c91_32
