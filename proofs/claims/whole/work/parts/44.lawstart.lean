theorem li_X11 : Cond.instantiable RX11 16 ∈ gw := gw_t1 24 rfl rfl
theorem lini_X11 : Cond.initialized RX11 ∈ gw := gw_t1 1 rfl rfl
theorem li_X12 : Cond.instantiable RX12 63 ∈ gw := gw_t4 236 rfl rfl
theorem lini_X12 : Cond.initialized RX12 ∈ gw := gw_t1 12 rfl rfl
theorem lk_L_7 : Cond.classLink RL 7 RX11 ∈ gw := gw_t1 23 rfl rfl
theorem lk_L_10 : Cond.classLink RL 10 RX12 ∈ gw := gw_t4 235 rfl rfl
theorem yi_X11_init : YI yX11_init cX11_init 2 0 := ⟨gw_t1 27 rfl rfl, gw_t1 26 rfl rfl, gw_t1 1 rfl rfl, rfl, by decide +kernel⟩
theorem yi_X12_init : YI yX12_init cX12_init 2 0 := ⟨gw_t4 239 rfl rfl, gw_t4 238 rfl rfl, gw_t1 12 rfl rfl, rfl, by decide +kernel⟩
theorem lm_L_9 : Cond.methodLink RL 9 yX11_init ∈ gw := gw_t1 25 rfl rfl
theorem lm_L_12 : Cond.methodLink RL 12 yX12_init ∈ gw := gw_t4 237 rfl rfl
theorem lw_t1 (i : Nat) {w : Cond} (h : tables_1_1[i]? = some w) : w ∈ lw_tbl := List.mem_append_right _ (List.mem_append_left _ (List.mem_of_getElem? h))
theorem lw_t2 (i : Nat) {w : Cond} (h : tables_1_2[i]? = some w) : w ∈ lw_tbl := List.mem_append_right _ (List.mem_append_right _ (List.mem_append_left _ (List.mem_of_getElem? h)))
theorem lw_t3 (i : Nat) {w : Cond} (h : tables_1_3[i]? = some w) : w ∈ lw_tbl := List.mem_append_right _ (List.mem_append_right _ (List.mem_append_right _ (List.mem_append_left _ (List.mem_of_getElem? h))))
theorem lw_t4 (i : Nat) {w : Cond} (h : tables_1_4[i]? = some w) : w ∈ lw_tbl := List.mem_append_right _ (List.mem_append_right _ (List.mem_append_right _ (List.mem_append_right _ (List.mem_append_left _ (List.mem_of_getElem? h)))))
theorem lw_t5 (i : Nat) {w : Cond} (h : tables_1_5[i]? = some w) : w ∈ lw_tbl := List.mem_append_right _ (List.mem_append_right _ (List.mem_append_right _ (List.mem_append_right _ (List.mem_append_right _ (List.mem_append_left _ (List.mem_of_getElem? h))))))
theorem lw_t6 (i : Nat) {w : Cond} (h : tables_1_6[i]? = some w) : w ∈ lw_tbl := List.mem_append_right _ (List.mem_append_right _ (List.mem_append_right _ (List.mem_append_right _ (List.mem_append_right _ (List.mem_append_right _ (List.mem_append_left _ (List.mem_of_getElem? h)))))))
theorem lw_t7 (i : Nat) {w : Cond} (h : tables_1_7[i]? = some w) : w ∈ lw_tbl := List.mem_append_right _ (List.mem_append_right _ (List.mem_append_right _ (List.mem_append_right _ (List.mem_append_right _ (List.mem_append_right _ (List.mem_append_right _ (List.mem_of_getElem? h)))))))
def tmS (i : Nat) : Term := match i with
  | 0 => .string "EightOars$TextReader" 86
  | 1 => .string "EightOars$TextReader" 79
  | _ => .string "EightOars$Plans" 58
theorem st_ex : ∀ i, i < 3 → Cond.exactly (tmS i) "java/lang/String" ∈ flatC (Jvm.Cond.and given_1 narrow_1) := by decide +kernel
theorem st_co : ∀ i, i < 3 → Cond.eq (.field (tmS i) "java/lang/String" "coder" "B") (.int 0) ∈ flatC (Jvm.Cond.and given_1 narrow_1) := by decide +kernel
theorem st_ar : ∀ i, i < 3 → Cond.arrayOf (.field (tmS i) "java/lang/String" "value" "[B") .byte ∈ flatC (Jvm.Cond.and given_1 narrow_1) := by decide +kernel
theorem st_le : ∀ i, i < 3 → Cond.eq (.length (.field (tmS i) "java/lang/String" "value" "[B")) (.int (Int32.ofNat (slen.getD i 0))) ∈ flatC (Jvm.Cond.and given_1 narrow_1) := by decide +kernel
theorem st_el : ∀ i, i < 3 → ∀ j, j < slen.getD i 0 → Cond.eq (.elem (.field (tmS i) "java/lang/String" "value" "[B") (.int (Int32.ofNat j))) (.int ((sbyt.getD i []).getD j 0)) ∈ flatC (Jvm.Cond.and given_1 narrow_1) := by decide +kernel
theorem st_ne : ∀ i, i < 3 → ∀ j, j < 3 → i ≠ j → Cond.not (Cond.eq (tmS i) (tmS j)) ∈ flatC (Jvm.Cond.and given_1 narrow_1) ∨ Cond.not (Cond.eq (tmS j) (tmS i)) ∈ flatC (Jvm.Cond.and given_1 narrow_1) := by decide +kernel
theorem st_cs : Cond.eq (.static "java/lang/String" "COMPACT_STRINGS" "Z") (.int 1) ∈ flatC (Jvm.Cond.and given_1 narrow_1) := by decide +kernel
theorem st_sf : Cond.isRef (.static "jdk/internal/util/Preconditions" "SIOOBE_FORMATTER" "Ljava/util/function/BiFunction;") ∈ flatC (Jvm.Cond.and given_1 narrow_1) := by decide +kernel
set_option maxHeartbeats 8000000 in
set_option maxRecDepth 100000 in
theorem law_start {p : Program} {e : Env} {s : State} {m : MethodId} {below : List Frame} {meth : Method} {c : Code} {Inv : Nat → St → St → Prop} (hp : PureOK Inv) (l : Launch) {b L : Nat} {xs : Nat → Int32} (hL : L ≤ 3072) (C0 : lw_At p s m meth c b L xs) : W p l e room_1 s m #[Value.ref b] below meth c s.heap [] 0 0 (lw_Z below #[Value.ref b] s) (entryFrame m ([Value.ref b] : List Value).toArray 4) := by
  obtain ⟨hx, hb, hr, hml, hown, hts0, hXs, hbl, hlocks, hgv⟩ := id C0
  have hts : ∀ w ∈ gw, w.before #[Value.ref b] s = true := fun w h => hts0 w (gw_sub h)
  have hs := flat_of_before _ hgv
  obtain ⟨c0, i0, k0⟩ := u_known (C := RX0) (T := TX0) (N := 5) (n := 5) hts clX0.ws (hts _ li_X0)
  obtain ⟨c1, i1, k1⟩ := u_known (C := RX1) (T := TX1) (N := 15) (n := 15) hts clX1.ws (hts _ li_X1)
  obtain ⟨c2, i2, k2⟩ := u_known (C := RX2) (T := TX2) (N := 5) (n := 5) hts clX2.ws (hts _ li_X2)
  obtain ⟨c4, i4, k4⟩ := u_known (C := RX4) (T := TX4) (N := 4) (n := 4) hts clX4.ws (hts _ li_X4)
  obtain ⟨c5, i5, k5⟩ := u_known (C := RX5) (T := TX5) (N := 2) (n := 2) hts clX5.ws (hts _ li_X5)
  obtain ⟨c6, i6, k6⟩ := u_known (C := RX6) (T := TX6) (N := 2) (n := 2) hts clX6.ws (hts _ li_X6)
  obtain ⟨c7, i7, k7⟩ := u_known (C := RX7) (T := TX7) (N := 3) (n := 3) hts clX7.ws (hts _ li_X7)
  obtain ⟨c8, i8, k8⟩ := u_known (C := RX8) (T := TX8) (N := 2) (n := 2) hts clX8.ws (hts _ li_X8)
  obtain ⟨c9, i9, k9⟩ := u_known (C := RX9) (T := TX9) (N := 7) (n := 7) hts clX9.ws (hts _ li_X9)
  obtain ⟨c10, i10, k10⟩ := u_known (C := RX10) (T := TX10) (N := 8) (n := 8) hts clX10.ws (hts _ li_X10)
  obtain ⟨c11, i11, k11⟩ := u_known (C := RX11) (T := TX11) (N := 16) (n := 16) hts clX11.ws (hts _ li_X11)
  obtain ⟨c12, i12, k12⟩ := u_known (C := RX12) (T := TX12) (N := 63) (n := 63) hts clX12.ws (hts _ li_X12)
  obtain ⟨dC, dI, hKc⟩ : ∃ (dC : Nat → ClassId) (dI : Nat → Nat → Nat), ∀ (k : Nat) (q : vw_C), classes[k]? = some q → u_Kn s q.1 q.2.1 q.2.2 (dC k) (dI k) := by
    refine ⟨fun k => [c0, c1, c2, c2, c4, c5, c6, c7, c8, c9, c10, c11, c12].getD k 0, fun k => [i0, i1, i2, i2, i4, i5, i6, i7, i8, i9, i10, i11, i12].getD k (fun _ => 0), ?_⟩
    intro k q hq
    match k, hq with
    | 0, hq => cases hq; exact k0
    | 1, hq => cases hq; exact k1
    | 2, hq => cases hq; exact k2
    | 3, hq => cases hq; exact k2
    | 4, hq => cases hq; exact k4
    | 5, hq => cases hq; exact k5
    | 6, hq => cases hq; exact k6
    | 7, hq => cases hq; exact k7
    | 8, hq => cases hq; exact k8
    | 9, hq => cases hq; exact k9
    | 10, hq => cases hq; exact k10
    | 11, hq => cases hq; exact k11
    | 12, hq => cases hq; exact k12
    | k + 13, hq => cases hq
  obtain ⟨aI, bI, zI, fI, gI, mI⟩ := Cond.arrayClass_spec (hts _ wa_int)
  obtain ⟨aB, bB, zB, fB, gB, mB⟩ := Cond.arrayClass_spec (hts _ wa_byte)
  obtain ⟨aZ, bZ, zZ, fZ, gZ, mZ⟩ := Cond.arrayClass_spec (hts _ wa_boolean)
  obtain ⟨aJ, bJ, zJ, fJ, gJ, mJ⟩ := Cond.arrayClass_spec (hts _ wa_long)
  obtain ⟨zA, aA, bA, nA, gA, mA, fA⟩ := oa_says (hts0 _ (lw_t1 161 rfl) : (Cond.arrayOver (.array .int)).before #[Value.ref b] s = true)
  obtain ⟨zR, aR, bR, nR, -, gR, mR, fR⟩ := Cond.arrayOver_spec (hts0 _ (lw_t1 141 rfl) : (Cond.arrayOver (.object RX6)).before #[Value.ref b] s = true)
  have hK : va_K (dC, dI) classes (tyC (fun k => [aI, aB, aZ, aJ, aA, aR].getD k 0)) s := by
    refine ⟨hKc, fun k q hq => ?_⟩
    match k, hq with
    | 0, hq => cases hq; exact ⟨fun _ _ => ⟨(fun q hq => by cases hq), bI, gI, zI, mI⟩, fI⟩
    | 1, hq => cases hq; exact ⟨fun _ _ => ⟨(fun q hq => by cases hq), bB, gB, zB, mB⟩, fB⟩
    | 2, hq => cases hq; exact ⟨fun _ _ => ⟨(fun q hq => by cases hq), bZ, gZ, zZ, mZ⟩, fZ⟩
    | 3, hq => cases hq; exact ⟨fun _ _ => ⟨(fun q hq => by cases hq), bJ, gJ, zJ, mJ⟩, fJ⟩
    | 4, hq => cases hq; exact ⟨fun _ _ => ⟨(fun q hq => by cases hq), bA, gA, zA, mA⟩, fA⟩
    | 5, hq => cases hq; exact ⟨fun _ _ => ⟨(fun q hq => by cases hq), bR, gR, zR, mR⟩, ⟨bR, zR, gR, mR, nR, fR⟩⟩
    | k + 6, hq => cases hq
  generalize (fun k => [aI, aB, aZ, aJ, aA, aR].getD k 0) = C at hK
  have hE : Ex s := ⟨oa_kept (Vm.Alike.refl s.vm) (hts0 _ (lw_t1 161 rfl) : (Cond.arrayOver (.array .int)).before #[Value.ref b] s = true), va_AO.of (hts0 _ (lw_t1 141 rfl) : (Cond.arrayOver (.object RX6)).before #[Value.ref b] s = true), va_Nw.of rfl (hts0 (.methodLinkNest RX11 9 yX2_init RX11) (lw_t1 33 rfl)), va_Nw.of rfl (hts0 (.methodLinkNest RX11 36 yX8_init RX11) (lw_t1 97 rfl)), va_Nw.of rfl (hts0 (.methodLinkNest RX11 80 yX10_init RX11) (lw_t1 238 rfl)), va_Nw.of rfl (hts0 (.methodLinkNest RX11 87 yX5_init RX11) (lw_t2 31 rfl)), va_Nw.of rfl (hts0 (.methodLinkNest RX11 94 yX7_init RX11) (lw_t2 45 rfl))⟩
  have hGe : ∀ a : Nat, a < s.heap.size → ¬ Ge s a := fun a h => Nat.not_le.mpr h
  obtain ⟨adK, adV, hSt, hEv⟩ := vk_Sof (args := #[Value.ref b]) (s := s) (N := 3) (tm := tmS) (len := slen) (byt := sbyt) (A := Ge s) (by decide) (fun i hi => hs _ (st_ex i hi)) (fun i hi => hs _ (st_co i hi)) (fun i hi => hs _ (st_ar i hi)) (fun i hi => hs _ (st_le i hi)) (fun i hi j hj => hs _ (st_el i hi j hj)) (fun i j hi hj hij => (st_ne i hi j hj hij).imp (fun h => hs _ h) (fun h => hs _ h)) hGe
  have hX : Sx (kvW (adK, adV)) (Ge s) s s.heap := ⟨hSt, ⟨vk_R.of (hts0 (.stringRef RX9 86 "force store seat gear speed stroke give drag or and not ") (lw_t2 211 rfl)) (hEv 0 (by decide)), vk_R.of (hts0 (.stringRef RX9 79 "();+-*<=") (lw_t3 27 rfl)) (hEv 1 (by decide)), vk_R.of (hts0 (.stringRef RX4 58 "rsxlwe") (lw_t3 163 rfl)) (hEv 2 (by decide))⟩, va_Zof (hts0 (.laysStatic "java/lang/String" "COMPACT_STRINGS" "Z") (lw_t2 221 rfl)) (hts0 (.initialized "java/lang/String") (lw_t1 15 rfl)) (va_eqi (hs _ st_cs)) hGe, va_Zqof (hts0 (.laysStatic "jdk/internal/util/Preconditions" "SIOOBE_FORMATTER" "Ljava/util/function/BiFunction;") (lw_t2 237 rfl)) (hts0 (.initialized "jdk/internal/util/Preconditions") (lw_t1 17 rfl)) (hs _ st_sf) hGe⟩
  have hA : ∀ q : Nat, s.heap.size ≤ q → Ge s q := fun _ h => h
  have hS : va_S (Ge s) s.heap s.heap [] := va_S.rf
  have hP : va_P (dC, dI) classes [] s.heap := fun k q h => by simp at h
  have hD : va_D (Ge s) [] := ⟨fun i j p q h => by simp at h, fun k q h => by simp at h⟩
  have hl := lv_entry ([.ref b]) (n := 4) (Nat.le_of_ble_eq_true rfl)
  rw [lg_entry_eq]
  generalize (lg_sl ([.ref b]) ++ List.replicate (4 - (lg_sl ([.ref b])).length) Slot.unset).toArray = ls at hl ⊢
  have hl : lv_has ls 4 [(0, .ref b)] := hl
  refine va_new (ci := 11) (fs := [.null, .null, .null, .null, .int 0, .int 0, .null, .null, .null, .int 0, .int 0, .null, .null, .null, .null, .null]) (C := RX11) (T := TX11) (N := 16) hx hb hts clX11.ws tyX11 tyX11_ok hown (hts _ lk_L_7) (hts _ li_X11) (hts _ lini_X11) hK hP hD hS hA rfl (fun j hj => by match j, hj with | 0, _ => exact rfl | 1, _ => exact rfl | 2, _ => exact rfl | 3, _ => exact rfl | 4, _ => exact rfl | 5, _ => exact rfl | 6, _ => exact rfl | 7, _ => exact rfl | 8, _ => exact rfl | 9, _ => exact rfl | 10, _ => exact rfl | 11, _ => exact rfl | 12, _ => exact rfl | 13, _ => exact rfl | 14, _ => exact rfl | 15, _ => exact rfl | n + 16, h9 => exact absurd h9 (by omega)) (Nat.le_of_ble_eq_true rfl) (Nat.le_of_ble_eq_true rfl) dL_law_0 (fun q1 H hP hD hS => ?_)
  refine lv_dup hx hb dL_law_3 rfl ?_
  refine e_callI (ws := []) (rest := [.ref q1]) ⟨hx, hb, hml, hown, hts⟩ hK hP hD hS hA hE hX hl [] (i_X11_init q1) yi_X11_init lm_L_9 rfl ⟨(Nat.le_of_ble_eq_true rfl), (Nat.le_of_ble_eq_true rfl)⟩ rfl ⟨(Nat.le_of_ble_eq_true rfl), (Nat.le_of_ble_eq_true rfl)⟩ dL_law_4 (fun u1 H locs hP hD hS => ?_)
  refine lv_astore_n (lv' := [(1, .ref q1), (0, .ref b)]) hx hb dL_law_7 rfl hl (by decide) rfl (fun ls hl => ?_)
  refine va_new (ci := 12) (fs := [.int 0, .null, .null, .int 0, .int 0, .null, .int 0, .null, .null, .null, .null, .int 0, .null, .null, .null, .int 0, .int 0, .int 0, .int 0, .int 0, .int 0, .long 0, .int 0, .int 0, .int 0, .int 0, .int 0, .int 0, .int 0, .int 0, .int 0, .null, .null, .int 0, .null, .null, .int 0, .long 0, .long 0, .long 0, .long 0, .int 0, .null, .null, .null, .null, .int 0, .null, .null, .int 0, .null, .null, .null, .null, .int 0, .int 0, .int 0, .int 0, .int 0, .null, .null, .null, .null]) (C := RX12) (T := TX12) (N := 63) hx hb hts clX12.ws tyX12 tyX12_ok hown (hts _ lk_L_10) (hts _ li_X12) (hts _ lini_X12) hK hP hD hS hA rfl (fun j hj => by match j, hj with | 0, _ => exact rfl | 1, _ => exact rfl | 2, _ => exact rfl | 3, _ => exact rfl | 4, _ => exact rfl | 5, _ => exact rfl | 6, _ => exact rfl | 7, _ => exact rfl | 8, _ => exact rfl | 9, _ => exact rfl | 10, _ => exact rfl | 11, _ => exact rfl | 12, _ => exact rfl | 13, _ => exact rfl | 14, _ => exact rfl | 15, _ => exact rfl | 16, _ => exact rfl | 17, _ => exact rfl | 18, _ => exact rfl | 19, _ => exact rfl | 20, _ => exact rfl | 21, _ => exact rfl | 22, _ => exact rfl | 23, _ => exact rfl | 24, _ => exact rfl | 25, _ => exact rfl | 26, _ => exact rfl | 27, _ => exact rfl | 28, _ => exact rfl | 29, _ => exact rfl | 30, _ => exact rfl | 31, _ => exact rfl | 32, _ => exact rfl | 33, _ => exact rfl | 34, _ => exact rfl | 35, _ => exact rfl | 36, _ => exact rfl | 37, _ => exact rfl | 38, _ => exact rfl | 39, _ => exact rfl | 40, _ => exact rfl | 41, _ => exact rfl | 42, _ => exact rfl | 43, _ => exact rfl | 44, _ => exact rfl | 45, _ => exact rfl | 46, _ => exact rfl | 47, _ => exact rfl | 48, _ => exact rfl | 49, _ => exact rfl | 50, _ => exact rfl | 51, _ => exact rfl | 52, _ => exact rfl | 53, _ => exact rfl | 54, _ => exact rfl | 55, _ => exact rfl | 56, _ => exact rfl | 57, _ => exact rfl | 58, _ => exact rfl | 59, _ => exact rfl | 60, _ => exact rfl | 61, _ => exact rfl | 62, _ => exact rfl | n + 63, h9 => exact absurd h9 (by omega)) (Nat.le_of_ble_eq_true rfl) (Nat.le_of_ble_eq_true rfl) dL_law_8 (fun q2 H hP hD hS => ?_)
  refine lv_dup hx hb dL_law_11 rfl ?_
  refine e_callI (rest := [.ref q2]) ⟨hx, hb, hml, hown, hts⟩ hK hP hD hS hA hE hX hl [] (i_X12_init q2) yi_X12_init lm_L_12 rfl ⟨(Nat.le_of_ble_eq_true rfl), (Nat.le_of_ble_eq_true rfl)⟩ rfl ⟨(Nat.le_of_ble_eq_true rfl), (Nat.le_of_ble_eq_true rfl)⟩ dL_law_12 (fun u2 H locs hP hD hS => ?_)
  refine lv_astore_n (lv' := [(2, .ref q2), (1, .ref q1), (0, .ref b)]) hx hb dL_law_15 rfl hl (by decide) rfl (fun ls hl => ?_)
  refine lv_iconst (v := 0) hx hb dL_law_16 (by decide) ?_
  refine lv_istore_n (lv' := [(3, .int 0), (2, .ref q2), (1, .ref q1), (0, .ref b)]) hx hb dL_law_17 rfl hl (by decide) rfl (fun ls hl => ?_)
  have hw : Wst (dC, dI) C (adK, adV) s 68 (adh q1 (u1 0)) (adh q2 (u2 0)) sx0 sm1 H locs := ⟨by decide, hP, hD, hS⟩
  have hl2 := lv_sub hl [3, 2, 1, 0] (l' := [(0, .ref b), (1, .ref (adh q1 (u1 0) 0)), (2, .ref (adh q2 (u2 0) 0)), (3, .int 0)]) rfl
  exact law_loop hp hL ⟨⟨hx, hb, hml, hown, hts⟩, hK, hX, hXs, hbl, hr, hlocks⟩ (L + 1) 0 0 (by omega) (by omega) rfl 68 _ sx0 sm1 H locs hp.1 hw ls hl2
