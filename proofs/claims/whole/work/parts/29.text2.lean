theorem lk_X9_32 : Cond.classLink RX9 32 RX6 ∈ gw := gw_t3 124 rfl rfl
theorem lm_X9_47 : Cond.methodLink RX9 47 yJ7_copyOf_59c91 ∈ gw := gw_t3 125 rfl rfl
theorem lm_X9_53 : Cond.methodLink RX9 53 yX6_init ∈ gw := gw_t3 139 rfl rfl
theorem yk_copyOf : YS yJ7_copyOf_59c91 cJ7_copyOf_59c91 3 (some (.array .int)) 2 := ⟨gw_t3 127 rfl rfl, gw_t3 126 rfl rfl, gw_t1 20 rfl rfl, by decide +kernel⟩
theorem dX9_ruleRead_0 : decode cX9_ruleRead 0 = .ok (.new 32, 3) := by decide +kernel
theorem dX9_ruleRead_3 : decode cX9_ruleRead 3 = .ok (.dup, 1) := by decide +kernel
theorem dX9_ruleRead_4 : decode cX9_ruleRead 4 = .ok (.aload_n 0, 1) := by decide +kernel
theorem dX9_ruleRead_5 : decode cX9_ruleRead 5 = .ok (.getfield 9, 3) := by decide +kernel
theorem dX9_ruleRead_8 : decode cX9_ruleRead 8 = .ok (.aload_n 0, 1) := by decide +kernel
theorem dX9_ruleRead_9 : decode cX9_ruleRead 9 = .ok (.getfield 19, 3) := by decide +kernel
theorem dX9_ruleRead_12 : decode cX9_ruleRead 12 = .ok (.invokestatic 47, 3) := by decide +kernel
theorem dX9_ruleRead_15 : decode cX9_ruleRead 15 = .ok (.aload_n 0, 1) := by decide +kernel
theorem dX9_ruleRead_16 : decode cX9_ruleRead 16 = .ok (.getfield 23, 3) := by decide +kernel
theorem dX9_ruleRead_19 : decode cX9_ruleRead 19 = .ok (.invokespecial 53, 3) := by decide +kernel
theorem dX9_ruleRead_22 : decode cX9_ruleRead 22 = .ok (.areturn, 1) := by decide +kernel
theorem h17_ {w : Wd} (hW : HWd w shX rX 66) (σ : St) : (wls w σ)[17]? = some (wA w 17, .inr (9, (List.range (nfd 9)).map (fval w σ 9 17))) := (wls_get (hW.n rfl)).trans (by rw [went_0 (hW.sh (k := 17) (q := (0, 9)) rfl)])
/-- the cells of a rule that was read: its steps, the object -/
def ruleW (w : Wd) (σ : St) (q a : Nat) : va_W := [(q, cpyE w σ (σ.1 17 2)), (a, .inr (6, [.ref q, .int (σ.1 17 3)]))]
set_option maxHeartbeats 4000000 in
set_option maxRecDepth 100000 in
theorem c_X9_ruleRead {l : Launch} {w : Wd} (hW : HWd w shX rX 66) (σ : St) (hn0 : ¬ σ.1 17 2 < 0) (hn : (σ.1 17 2).toNatClampNeg < 160) : ∀ sz, Met l yX9_ruleRead (.code yX9_ruleRead cX9_ruleRead 1 (some (.object RX6)) :: gw) (rmc 2 2 162 90) (va_Pc [.ref (wA w 17)] (Pw w σ sz)) (va_Qr (fun _ : Unit => True) (fun _ a t => ∃ q, va_P (wD w) classes (wls w σ ++ ruleW w σ q a) t.heap ∧ va_K (wD w) classes (wty w) t ∧ va_D (Aw w sz) (wls w σ ++ ruleW w σ q a)) (Aw w sz)) 2 162 (Aw w sz) := by
  intro sz
  refine Met.ofW (cc := cX9_ruleRead) (maxL := 1) (ret := some (.object RX6)) (by decide) rfl ?_
  intro p e s m args below meth c s₁ B hml hv
  obtain ⟨rfl, hsz, hP, hK, hD0, hX⟩ := hv
  subst hsz
  have hx := B.exec
  have hb := B.bytes
  have hr := B.returns
  have hts0 := atoms_spec (ws := .code yX9_ruleRead cX9_ruleRead 1 (some (.object RX6)) :: gw) B.pre
  have hts : ∀ w ∈ gw, w.before _ s = true := fun w9 h9 => hts0 w9 (List.mem_cons_of_mem _ h9)
  have hown : s.vm.findClass RX9 = some m.cls := findClass_of_methodNamed B.named
  have hlocks := B.notSynchronized
  have hD : va_D (Aw w s.heap.size) (wls w σ) := Aw_D hD0 σ
  have hA : ∀ q : Nat, s.heap.size ≤ q → Aw w s.heap.size q := fun q h => Or.inr h
  have hS : va_S (Aw w s.heap.size) s.heap s.heap [] := va_S.rf
  have h17 := h17_ hW σ
  have v1 : ((List.range (nfd 9)).map (fval w σ 9 17))[1]? = some (.ref (wA w 18)) := (map_get _ (by decide)).trans (by rw [fv_2 rfl, hW.rf]; rfl)
  have v2 : ((List.range (nfd 9)).map (fval w σ 9 17))[2]? = some (.int (σ.1 17 2)) := (map_get _ (by decide)).trans (by rw [fv_0 rfl])
  have v3 : ((List.range (nfd 9)).map (fval w σ 9 17))[3]? = some (.int (σ.1 17 3)) := (map_get _ (by decide)).trans (by rw [fv_0 rfl])
  have hl := lv_entry ([.ref (wA w 17)]) (n := 1) (Nat.le_of_ble_eq_true rfl)
  rw [lg_entry_eq]
  generalize (lg_sl ([.ref (wA w 17)]) ++ List.replicate (1 - (lg_sl ([.ref (wA w 17)])).length) Slot.unset).toArray = ls at hl ⊢
  have hl : lv_has ls 1 [(0, .ref (wA w 17))] := hl
  refine va_new (ci := 6) (fs := [.null, .int 0]) (C := RX6) (T := TX6) (N := 2) hx hb hts clX6.ws tyX6 tyX6_ok hown (hts _ lk_X9_32) (hts _ li_X6) (hts _ lini_X6) hK hP hD hS hA rfl (fun j hj => by match j, hj with | 0, _ => exact rfl | 1, _ => exact rfl | n + 2, h9 => exact absurd h9 (by omega)) (Nat.le_of_ble_eq_true rfl) (Nat.le_of_ble_eq_true rfl) dX9_ruleRead_0 (fun q0 H hP hD hS => ?_)
  refine lv_dup hx hb dX9_ruleRead_3 rfl ?_
  refine lv_aload_n hx hb dX9_ruleRead_4 rfl (lv_at hl 0 rfl) ?_
  refine va_get (D := wD w) (ci := 9) (C := RX9) (T := TX9) (N := 7) hx hb hts clX9.ws hown hK hP 17 (app_l h17) rfl 1 (by decide) (hts _ lf_X9_9) (fun _ h9 => h9) v1 dX9_ruleRead_5 ?_
  refine lv_aload_n hx hb dX9_ruleRead_8 rfl (lv_at hl 0 rfl) ?_
  refine va_get (D := wD w) (ci := 9) (C := RX9) (T := TX9) (N := 7) hx hb hts clX9.ws hown hK hP 17 (app_l h17) rfl 2 (by decide) (hts _ lf_X9_19) (fun _ h9 => h9) v2 dX9_ruleRead_9 ?_
  have hq0 : ¬ Aw w H.size q0 := fun h => by
    rcases h with ⟨k, hk, h⟩ | h
    · exact vd_app_ne hD (wls_get hk) (j := 0) rfl h.symm
    · exact absurd (va_app_r hP 0 _ rfl).lt (Nat.not_lt.mpr h)
  obtain ⟨y1, y2, y4, y5⟩ := yk_copyOf
  refine va_callr (va_runS (As := [.ref (wA w 18), .int (σ.1 17 2)]) (rest := [.ref q0, .ref q0]) ⟨hx, hb, hml, hown, hts⟩ (c_J7_copyOf hW σ (σ.1 17 2) hn0 hn H.size) ⟨callB_of 2 hts (gw_cons y1) rfl rfl rfl (hts _ y4) (hts _ lm_X9_47) y5 ⟨Nat.le_of_ble_eq_true rfl, Nat.le_of_ble_eq_true rfl⟩, hts _ y2⟩ ⟨Pw_blind, fun U hU hW2 => ⟨rfl, by rw [hU], by rw [hU]; exact va_app_l hP, va_K.moved hW2.alike hK, hD0, hX.next hS hU hW2 (fun q9 h => Aw_mono hS.1 q9 h)⟩⟩ rfl rfl hl.1 rfl (lv_room (Nat.le_of_ble_eq_true rfl)) dX9_ruleRead_12 ⟨Nat.le_of_ble_eq_true rfl, Nat.le_of_ble_eq_true rfl⟩) hS (fun q9 _ h => Aw_mono hS.1 q9 h) (fun q9 h => Aw_mono hS.1 q9 h) (fun _ a t H1 locs1 ht hvm hw hB hz1 hk1 hS1 => ?_)
  obtain ⟨b1, b2, b3⟩ := hB
  rw [ht] at b1
  have hlt0 : q0 < H.size := (va_app_r hP 0 _ rfl).lt
  have hP2 : va_P (wD w) classes ((wls w σ ++ [(a, cpyE w σ (σ.1 17 2))]) ++ [(q0, .inr (6, [.null, .int 0]))]) H1 := va_P.app b1 (fun k q hk => by
    have := va_app_r hP k q hk
    refine this.kept (hk1 q.1 this.lt ?_)
    cases k with
    | zero => cases hk; exact hq0
    | succ k => cases hk)
  have hD2 : va_D (Aw w s.heap.size) ((wls w σ ++ [(a, cpyE w σ (σ.1 17 2))]) ++ [(q0, .inr (6, [.null, .int 0]))]) := va_D.app (b3.weaken (fun _ _ _ h => Aw_mono hS.1 _ h)) (vd_app_r hD) (fun i j x y hx9 hy9 e9 => by
    have h1 := b3.2 i x hx9
    cases j with
    | zero => cases hy9; rw [e9] at h1; exact hq0 h1
    | succ j => cases hy9)
  refine lv_aload_n hx hb dX9_ruleRead_15 rfl (lv_at hl 0 rfl) ?_
  refine va_get (D := wD w) (ci := 9) (C := RX9) (T := TX9) (N := 7) hx hb hts clX9.ws hown hK hP2 17 (app_l (app_l h17)) rfl 3 (by decide) (hts _ lf_X9_23) (fun _ h9 => h9) v3 dX9_ruleRead_16 ?_
  have hF := va_freeA hD2 hS1 hA
  obtain ⟨z1, z2, z3, z4, z5⟩ := yi_X6_init
  refine va_callv (va_runI (As := [.ref a, .int (σ.1 17 3)]) (rest := [.ref q0]) ⟨hx, hb, hml, hown, hts⟩ (i0_X6_init (C := wC w) (D := wD w) q0 a (σ.1 17 3) H1.size) ⟨callB_of 2 hts (gw_cons z1) rfl rfl rfl (hts _ z3) (hts _ lm_X9_53) z5 ⟨Nat.le_of_ble_eq_true rfl, Nat.le_of_ble_eq_true rfl⟩, z4, hts _ z2⟩ ⟨PwC0_blind, fun U hU hW2 => ⟨rfl, by rw [hU], by rw [hU]; exact va_app_r hP2, va_K.moved hW2.alike hK, (vd_app_r hD2).weaken (fun _ _ _ _ => trivial)⟩⟩ rfl rfl hl.1 rfl (lv_room (Nat.le_of_ble_eq_true rfl)) dX9_ruleRead_19 ⟨Nat.le_of_ble_eq_true rfl, Nat.le_of_ble_eq_true rfl⟩) hS1 (fun q9 _ h => hF q9 h) hF (fun u t2 H2 locs2 ht2 hvm2 hw2 hB2 hz2 hk2 hS2 => ?_)
  obtain ⟨d1, d2, d3⟩ := hB2
  rw [ht2] at d1
  obtain ⟨hP3, hD3⟩ := va_joinA hP2 hD2 hk2 hF d1 d3
  have hP3 : va_P (wD w) classes ((wls w σ ++ [(a, cpyE w σ (σ.1 17 2))]) ++ [(q0, .inr (6, [.ref a, .int (σ.1 17 3)]))]) H2 := hP3
  have hD3 : va_D (Aw w s.heap.size) ((wls w σ ++ [(a, cpyE w σ (σ.1 17 2))]) ++ [(q0, .inr (6, [.ref a, .int (σ.1 17 3)]))]) := hD3
  rw [List.append_assoc] at hP3 hD3
  refine W.widen (k := 2) (n := 162) (Nat.le_of_ble_eq_true rfl) (Nat.le_of_ble_eq_true rfl) ?_
  exact W.aret (v := .ref q0) hx hb hr (Or.inl ⟨_, rfl⟩) (Or.inr ⟨q0, rfl⟩) (fun t ht hW2 => ⟨⟨(), q0, rfl, trivial, a, by rw [ht]; exact hP3, va_K.moved hW2.alike hK, hD3⟩, hS2.F ht⟩) hS2.2.2 dX9_ruleRead_22
