/-! THE LAW: its world is the class's and, behind it, the model's -/
def wX (D : va_G) (C : Nat → ClassId) (KV : (Nat → Nat) × (Nat → Nat)) (nc : Nat) (ad : Nat → Nat) : Wd := mkW D C shX rX nc ad KV
def wM (D : va_G) (C : Nat → ClassId) (KV : (Nat → Nat) × (Nat → Nat)) (ad : Nat → Nat) : Wd := mkW D C shM rM 29 ad KV
def Ge (s : State) : Nat → Prop := fun q => s.heap.size ≤ q
def Wst (D : va_G) (C : Nat → ClassId) (KV : (Nat → Nat) × (Nat → Nat)) (s : State) (nc : Nat) (ax am : Nat → Nat) (σx σm : St) (H : Heap) (locs : List Loc) : Prop :=
  66 ≤ nc ∧ va_P D classes (wls (wX D C KV nc ax) σx ++ wls (wM D C KV am) σm) H ∧ va_D (Ge s) (wls (wX D C KV nc ax) σx ++ wls (wM D C KV am) σm) ∧ va_S (Ge s) s.heap H locs
def Lc (p : Program) (s : State) (m : MethodId) (meth : Method) (c : Code) (b L : Nat) (xs : Nat → Int32) (D : va_G) (C : Nat → ClassId) (KV : (Nat → Nat) × (Nat → Nat)) : Prop :=
  CallFix p m c code 4 s #[Value.ref b] gw RL ∧ va_K D classes (tyC C) s ∧ Sx (kvW KV) (Ge s) s s.heap ∧ va_X b L xs s s.heap ∧ b < s.heap.size ∧ meth.sig.returnType = ret ∧ meth.locks = false
/-- worlds with other contents at the same addresses -/
theorem vd_same {A : Nat → Prop} {w1 w2 : Wd} {σ σ' τ τ' : St} (h : va_D A (wls w1 σ ++ wls w2 τ)) : va_D A (wls w1 σ' ++ wls w2 τ') := by
  have key : ∀ (a1 a2 b1 b2 : St) (k : Nat) (q : Nat × va_E), (wls w1 a1 ++ wls w2 a2)[k]? = some q → ∃ q', (wls w1 b1 ++ wls w2 b2)[k]? = some q' ∧ q'.1 = q.1 := by
    intro a1 a2 b1 b2 k q hk
    by_cases hl : k < wN w1
    · rw [List.getElem?_append_left (by rw [wls_len]; exact hl), wls_get hl] at hk
      cases hk
      exact ⟨(wA w1 k, went w1 b1 k), by rw [List.getElem?_append_left (by rw [wls_len]; exact hl), wls_get hl], rfl⟩
    · rw [List.getElem?_append_right (by rw [wls_len]; omega), wls_len] at hk
      have h2 := (List.getElem?_eq_some_iff.mp hk).1
      rw [wls_len] at h2
      rw [wls_get h2] at hk
      cases hk
      exact ⟨(wA w2 (k - wN w1), went w2 b2 (k - wN w1)), by rw [List.getElem?_append_right (by rw [wls_len]; omega), wls_len, wls_get h2], rfl⟩
  refine ⟨fun i j x y hi hj e => ?_, fun k q hk => ?_⟩
  · obtain ⟨x', h1, e1⟩ := key σ' τ' σ τ i x hi
    obtain ⟨y', h2, e2⟩ := key σ' τ' σ τ j y hj
    exact h.1 i j x' y' h1 h2 (by rw [e1, e2]; exact e)
  · obtain ⟨q', h1, e1⟩ := key σ' τ' σ τ k q hk
    rw [← e1]
    exact h.2 k q' h1
theorem aw_l {A : Nat → Prop} {w1 w2 : Wd} {σ τ : St} {n : Nat} (h : va_D A (wls w1 σ ++ wls w2 τ)) (hA : ∀ q, n ≤ q → A q) : ∀ q, Aw w1 n q → A q := fun q hq => by
  rcases hq with ⟨k, hk, rfl⟩ | hq
  · exact (vd_app_l h).2 k _ (wls_get hk)
  · exact hA q hq
theorem aw_r {A : Nat → Prop} {w1 w2 : Wd} {σ τ : St} {n : Nat} (h : va_D A (wls w1 σ ++ wls w2 τ)) (hA : ∀ q, n ≤ q → A q) : ∀ q, Aw w2 n q → A q := fun q hq => by
  rcases hq with ⟨k, hk, rfl⟩ | hq
  · exact (vd_app_r h).2 k _ (wls_get hk)
  · exact hA q hq
/-- the other side's cells are not the callee's -/
theorem out_r {A : Nat → Prop} {D : va_G} {w1 w2 : Wd} {σ τ : St} {H : Heap} (hD : va_D A (wls w1 σ ++ wls w2 τ)) (hP : va_P D classes (wls w1 σ ++ wls w2 τ) H) (k : Nat) (q : Nat × va_E) (hk : (wls w2 τ)[k]? = some q) : q.1 < H.size ∧ ¬ Aw w1 H.size q.1 := by
  have hl := (va_app_r hP k q hk).lt
  refine ⟨hl, fun h => ?_⟩
  rcases h with ⟨i, hi, e⟩ | h
  · exact vd_app_ne hD (wls_get hi) hk e.symm
  · omega
theorem out_l {A : Nat → Prop} {D : va_G} {w1 w2 : Wd} {σ τ : St} {H : Heap} (hD : va_D A (wls w1 σ ++ wls w2 τ)) (hP : va_P D classes (wls w1 σ ++ wls w2 τ) H) (k : Nat) (q : Nat × va_E) (hk : (wls w1 σ)[k]? = some q) : q.1 < H.size ∧ ¬ Aw w2 H.size q.1 := by
  have hl := (va_app_l hP k q hk).lt
  refine ⟨hl, fun h => ?_⟩
  rcases h with ⟨i, hi, e⟩ | h
  · exact vd_app_ne hD hk (wls_get hi) e
  · omega
set_option maxHeartbeats 1000000 in
theorem l_XI {p : Program} {l : Launch} {e : Env} {s : State} {m : MethodId} {below : List Frame} {meth : Method} {c : Code} {b L : Nat} {xs : Nat → Int32} {D : va_G} {C : Nat → ClassId} {KV : (Nat → Nat) × (Nat → Nat)} {nc : Nat} {ax am : Nat → Nat} {σx σm : St} {H : Heap} {locs : List Loc} {cells slots : Nat} {Q : State → Prop} {pc : Nat} {ls : Array Slot} {lv : List (Nat × Value)} {st : List Value} {y : MethodName} {cc2 : ByteArray} {nL2 n2 fr2 lo2 idx : Nat} {ret2 : FieldType} {r : Int32} {σ' : St} (hc : Lc p s m meth c b L xs D C KV) (hw : Wst D C KV s nc ax am σx σm H locs) (As : List Value) (hM : MtI l y cc2 nL2 ret2 fr2 lo2 (wX D C KV nc ax) (.ref (ax 0) :: As) σx (r, σ')) (hy : YV y cc2 nL2 (some ret2) n2) (hcl : RX11 = y.cls) (lk : Cond.methodLink RL idx y ∈ gw) (hn : As.length = n2) (hroom : Nat.ble (fr2 + 1) 2048 = true ∧ Nat.ble (8 + (nL2 + 11) + lo2) 84000 = true) (hst : Nat.ble (st.map fun v => v.category).sum 8 = true) (hl : lv_has ls 4 lv) (hcap : cells ≤ 600000 ∧ slots ≤ 7302250) (d : decode code pc = .ok (.invokevirtual idx, 3))
    (kk : ∀ (H1 : Heap) (locs1 : List Loc), Wst D C KV s nc ax am σ' σm H1 locs1 → W p l e room_1 s m #[Value.ref b] below meth c H1 locs1 cells slots Q (F0 m (pc + 3) ls (.int r :: st))) : W p l e room_1 s m #[Value.ref b] below meth c H locs cells slots Q (F0 m pc ls (As.reverse ++ .ref (ax 0) :: st)) := by
  obtain ⟨⟨hx, hb, hml, hown, hts⟩, hK, hX, hXs, hbl, hr, hlk⟩ := hc
  obtain ⟨h66, hP, hD, hS⟩ := id hw
  obtain ⟨y1, y2, y3, y4, y5⟩ := hy
  have hA : ∀ q : Nat, H.size ≤ q → Ge s q := fun q h => Nat.le_trans hS.1 h
  have hF : ∀ q, Aw (wX D C KV nc ax) H.size q → Ge s q := aw_l hD hA
  have hWd : HWd (wX D C KV nc ax) shX rX 66 := ⟨rfl, rfl, hw.1⟩
  refine va_calli (va_runV (C := RX11) (As := As) (rest := st) ⟨hx, hb, hml, hown, hts⟩ (hM H.size) ⟨callB_of n2 hts (gw_cons y1) rfl rfl rfl (hts _ y4) (hts _ lk) y5 ⟨Nat.le_of_ble_eq_true hroom.1, Nat.le_of_ble_eq_true hroom.2⟩, hts _ y2, by rw [hcl]; exact hts _ y3⟩ ⟨Pw_blind, va_recv hK (va_app_l hP) (ci := 11) (q := (RX11, TX11, 16)) rfl ((wls_get (hWd.n (k := 0) rfl)).trans (by rw [went_0 (hWd.sh (k := 0) (q := (0, 11)) rfl)]; rfl)), fun U hU hW2 => ⟨rfl, by rw [hU], by rw [hU]; exact va_app_l hP, va_K.moved hW2.alike hK, (vd_app_l hD).weaken (fun _ _ _ _ => trivial), (hX.next hS hU hW2 hF).narrow rfl rfl (fun _ h => h)⟩⟩ rfl hn hl.1 rfl (lv_room (Nat.le_of_ble_eq_true hst)) d ⟨hcap.1, hcap.2⟩) hS (fun q9 _ h => hF q9 h) hF (fun r9 u t H1 locs1 ht hvm hw9 hB hz1 hk1 hS1 => ?_)
  cases hw9
  have b1 := hB.1
  rw [ht] at b1
  exact kk H1 locs1 ⟨h66, va_P.app b1 (fun k q hk => (va_app_r hP k q hk).kept (hk1 q.1 (out_r hD hP k q hk).1 (out_r hD hP k q hk).2)), vd_same hD, hS1⟩
set_option maxHeartbeats 1000000 in
theorem l_XL {p : Program} {l : Launch} {e : Env} {s : State} {m : MethodId} {below : List Frame} {meth : Method} {c : Code} {b L : Nat} {xs : Nat → Int32} {D : va_G} {C : Nat → ClassId} {KV : (Nat → Nat) × (Nat → Nat)} {nc : Nat} {ax am : Nat → Nat} {σx σm : St} {H : Heap} {locs : List Loc} {cells slots : Nat} {Q : State → Prop} {pc : Nat} {ls : Array Slot} {lv : List (Nat × Value)} {st : List Value} {y : MethodName} {cc2 : ByteArray} {nL2 n2 fr2 lo2 idx : Nat} {ret2 : FieldType} {r : Int64} {σ' : St} (hc : Lc p s m meth c b L xs D C KV) (hw : Wst D C KV s nc ax am σx σm H locs) (As : List Value) (hM : MtL l y cc2 nL2 ret2 fr2 lo2 (wX D C KV nc ax) (.ref (ax 0) :: As) σx (r, σ')) (hy : YV y cc2 nL2 (some ret2) n2) (hcl : RX11 = y.cls) (lk : Cond.methodLink RL idx y ∈ gw) (hn : As.length = n2) (hroom : Nat.ble (fr2 + 1) 2048 = true ∧ Nat.ble (8 + (nL2 + 11) + lo2) 84000 = true) (hst : Nat.ble (st.map fun v => v.category).sum 8 = true) (hl : lv_has ls 4 lv) (hcap : cells ≤ 600000 ∧ slots ≤ 7302250) (d : decode code pc = .ok (.invokevirtual idx, 3))
    (kk : ∀ (H1 : Heap) (locs1 : List Loc), Wst D C KV s nc ax am σ' σm H1 locs1 → W p l e room_1 s m #[Value.ref b] below meth c H1 locs1 cells slots Q (F0 m (pc + 3) ls (.long r :: st))) : W p l e room_1 s m #[Value.ref b] below meth c H locs cells slots Q (F0 m pc ls (As.reverse ++ .ref (ax 0) :: st)) := by
  obtain ⟨⟨hx, hb, hml, hown, hts⟩, hK, hX, hXs, hbl, hr, hlk⟩ := hc
  obtain ⟨h66, hP, hD, hS⟩ := id hw
  obtain ⟨y1, y2, y3, y4, y5⟩ := hy
  have hA : ∀ q : Nat, H.size ≤ q → Ge s q := fun q h => Nat.le_trans hS.1 h
  have hF : ∀ q, Aw (wX D C KV nc ax) H.size q → Ge s q := aw_l hD hA
  have hWd : HWd (wX D C KV nc ax) shX rX 66 := ⟨rfl, rfl, hw.1⟩
  refine va_calll (va_runV (C := RX11) (As := As) (rest := st) ⟨hx, hb, hml, hown, hts⟩ (hM H.size) ⟨callB_of n2 hts (gw_cons y1) rfl rfl rfl (hts _ y4) (hts _ lk) y5 ⟨Nat.le_of_ble_eq_true hroom.1, Nat.le_of_ble_eq_true hroom.2⟩, hts _ y2, by rw [hcl]; exact hts _ y3⟩ ⟨Pw_blind, va_recv hK (va_app_l hP) (ci := 11) (q := (RX11, TX11, 16)) rfl ((wls_get (hWd.n (k := 0) rfl)).trans (by rw [went_0 (hWd.sh (k := 0) (q := (0, 11)) rfl)]; rfl)), fun U hU hW2 => ⟨rfl, by rw [hU], by rw [hU]; exact va_app_l hP, va_K.moved hW2.alike hK, (vd_app_l hD).weaken (fun _ _ _ _ => trivial), (hX.next hS hU hW2 hF).narrow rfl rfl (fun _ h => h)⟩⟩ rfl hn hl.1 rfl (lv_room (Nat.le_of_ble_eq_true hst)) d ⟨hcap.1, hcap.2⟩) hS (fun q9 _ h => hF q9 h) hF (fun r9 u t H1 locs1 ht hvm hw9 hB hz1 hk1 hS1 => ?_)
  cases hw9
  have b1 := hB.1
  rw [ht] at b1
  exact kk H1 locs1 ⟨h66, va_P.app b1 (fun k q hk => (va_app_r hP k q hk).kept (hk1 q.1 (out_r hD hP k q hk).1 (out_r hD hP k q hk).2)), vd_same hD, hS1⟩
set_option maxHeartbeats 1000000 in
theorem l_MI {p : Program} {l : Launch} {e : Env} {s : State} {m : MethodId} {below : List Frame} {meth : Method} {c : Code} {b L : Nat} {xs : Nat → Int32} {D : va_G} {C : Nat → ClassId} {KV : (Nat → Nat) × (Nat → Nat)} {nc : Nat} {ax am : Nat → Nat} {σx σm : St} {H : Heap} {locs : List Loc} {cells slots : Nat} {Q : State → Prop} {pc : Nat} {ls : Array Slot} {lv : List (Nat × Value)} {st : List Value} {y : MethodName} {cc2 : ByteArray} {nL2 n2 fr2 lo2 idx : Nat} {ret2 : FieldType} {r : Int32} {σ' : St} (hc : Lc p s m meth c b L xs D C KV) (hw : Wst D C KV s nc ax am σx σm H locs) (As : List Value) (hM : MtI l y cc2 nL2 ret2 fr2 lo2 (wM D C KV am) (.ref (am 0) :: As) σm (r, σ')) (hy : YV y cc2 nL2 (some ret2) n2) (hcl : RX12 = y.cls) (lk : Cond.methodLink RL idx y ∈ gw) (hn : As.length = n2) (hroom : Nat.ble (fr2 + 1) 2048 = true ∧ Nat.ble (8 + (nL2 + 11) + lo2) 84000 = true) (hst : Nat.ble (st.map fun v => v.category).sum 8 = true) (hl : lv_has ls 4 lv) (hcap : cells ≤ 600000 ∧ slots ≤ 7302250) (d : decode code pc = .ok (.invokevirtual idx, 3))
    (kk : ∀ (H1 : Heap) (locs1 : List Loc), Wst D C KV s nc ax am σx σ' H1 locs1 → W p l e room_1 s m #[Value.ref b] below meth c H1 locs1 cells slots Q (F0 m (pc + 3) ls (.int r :: st))) : W p l e room_1 s m #[Value.ref b] below meth c H locs cells slots Q (F0 m pc ls (As.reverse ++ .ref (am 0) :: st)) := by
  obtain ⟨⟨hx, hb, hml, hown, hts⟩, hK, hX, hXs, hbl, hr, hlk⟩ := hc
  obtain ⟨h66, hP, hD, hS⟩ := id hw
  obtain ⟨y1, y2, y3, y4, y5⟩ := hy
  have hA : ∀ q : Nat, H.size ≤ q → Ge s q := fun q h => Nat.le_trans hS.1 h
  have hF : ∀ q, Aw (wM D C KV am) H.size q → Ge s q := aw_r hD hA
  have hWd : HWd (wM D C KV am) shM rM 29 := ⟨rfl, rfl, Nat.le_refl 29⟩
  refine va_calli (va_runV (C := RX12) (As := As) (rest := st) ⟨hx, hb, hml, hown, hts⟩ (hM H.size) ⟨callB_of n2 hts (gw_cons y1) rfl rfl rfl (hts _ y4) (hts _ lk) y5 ⟨Nat.le_of_ble_eq_true hroom.1, Nat.le_of_ble_eq_true hroom.2⟩, hts _ y2, by rw [hcl]; exact hts _ y3⟩ ⟨Pw_blind, va_recv hK (va_app_r hP) (ci := 12) (q := (RX12, TX12, 63)) rfl ((wls_get (hWd.n (k := 0) rfl)).trans (by rw [went_0 (hWd.sh (k := 0) (q := (0, 12)) rfl)]; rfl)), fun U hU hW2 => ⟨rfl, by rw [hU], by rw [hU]; exact va_app_r hP, va_K.moved hW2.alike hK, (vd_app_r hD).weaken (fun _ _ _ _ => trivial), (hX.next hS hU hW2 hF).narrow rfl rfl (fun _ h => h)⟩⟩ rfl hn hl.1 rfl (lv_room (Nat.le_of_ble_eq_true hst)) d ⟨hcap.1, hcap.2⟩) hS (fun q9 _ h => hF q9 h) hF (fun r9 u t H1 locs1 ht hvm hw9 hB hz1 hk1 hS1 => ?_)
  cases hw9
  have b1 := hB.1
  rw [ht] at b1
  exact kk H1 locs1 ⟨h66, va_P.app (fun k q hk => (va_app_l hP k q hk).kept (hk1 q.1 (out_l hD hP k q hk).1 (out_l hD hP k q hk).2)) b1, vd_same hD, hS1⟩
set_option maxHeartbeats 1000000 in
theorem l_ML {p : Program} {l : Launch} {e : Env} {s : State} {m : MethodId} {below : List Frame} {meth : Method} {c : Code} {b L : Nat} {xs : Nat → Int32} {D : va_G} {C : Nat → ClassId} {KV : (Nat → Nat) × (Nat → Nat)} {nc : Nat} {ax am : Nat → Nat} {σx σm : St} {H : Heap} {locs : List Loc} {cells slots : Nat} {Q : State → Prop} {pc : Nat} {ls : Array Slot} {lv : List (Nat × Value)} {st : List Value} {y : MethodName} {cc2 : ByteArray} {nL2 n2 fr2 lo2 idx : Nat} {ret2 : FieldType} {r : Int64} {σ' : St} (hc : Lc p s m meth c b L xs D C KV) (hw : Wst D C KV s nc ax am σx σm H locs) (As : List Value) (hM : MtL l y cc2 nL2 ret2 fr2 lo2 (wM D C KV am) (.ref (am 0) :: As) σm (r, σ')) (hy : YV y cc2 nL2 (some ret2) n2) (hcl : RX12 = y.cls) (lk : Cond.methodLink RL idx y ∈ gw) (hn : As.length = n2) (hroom : Nat.ble (fr2 + 1) 2048 = true ∧ Nat.ble (8 + (nL2 + 11) + lo2) 84000 = true) (hst : Nat.ble (st.map fun v => v.category).sum 8 = true) (hl : lv_has ls 4 lv) (hcap : cells ≤ 600000 ∧ slots ≤ 7302250) (d : decode code pc = .ok (.invokevirtual idx, 3))
    (kk : ∀ (H1 : Heap) (locs1 : List Loc), Wst D C KV s nc ax am σx σ' H1 locs1 → W p l e room_1 s m #[Value.ref b] below meth c H1 locs1 cells slots Q (F0 m (pc + 3) ls (.long r :: st))) : W p l e room_1 s m #[Value.ref b] below meth c H locs cells slots Q (F0 m pc ls (As.reverse ++ .ref (am 0) :: st)) := by
  obtain ⟨⟨hx, hb, hml, hown, hts⟩, hK, hX, hXs, hbl, hr, hlk⟩ := hc
  obtain ⟨h66, hP, hD, hS⟩ := id hw
  obtain ⟨y1, y2, y3, y4, y5⟩ := hy
  have hA : ∀ q : Nat, H.size ≤ q → Ge s q := fun q h => Nat.le_trans hS.1 h
  have hF : ∀ q, Aw (wM D C KV am) H.size q → Ge s q := aw_r hD hA
  have hWd : HWd (wM D C KV am) shM rM 29 := ⟨rfl, rfl, Nat.le_refl 29⟩
  refine va_calll (va_runV (C := RX12) (As := As) (rest := st) ⟨hx, hb, hml, hown, hts⟩ (hM H.size) ⟨callB_of n2 hts (gw_cons y1) rfl rfl rfl (hts _ y4) (hts _ lk) y5 ⟨Nat.le_of_ble_eq_true hroom.1, Nat.le_of_ble_eq_true hroom.2⟩, hts _ y2, by rw [hcl]; exact hts _ y3⟩ ⟨Pw_blind, va_recv hK (va_app_r hP) (ci := 12) (q := (RX12, TX12, 63)) rfl ((wls_get (hWd.n (k := 0) rfl)).trans (by rw [went_0 (hWd.sh (k := 0) (q := (0, 12)) rfl)]; rfl)), fun U hU hW2 => ⟨rfl, by rw [hU], by rw [hU]; exact va_app_r hP, va_K.moved hW2.alike hK, (vd_app_r hD).weaken (fun _ _ _ _ => trivial), (hX.next hS hU hW2 hF).narrow rfl rfl (fun _ h => h)⟩⟩ rfl hn hl.1 rfl (lv_room (Nat.le_of_ble_eq_true hst)) d ⟨hcap.1, hcap.2⟩) hS (fun q9 _ h => hF q9 h) hF (fun r9 u t H1 locs1 ht hvm hw9 hB hz1 hk1 hS1 => ?_)
  cases hw9
  have b1 := hB.1
  rw [ht] at b1
  exact kk H1 locs1 ⟨h66, va_P.app (fun k q hk => (va_app_l hP k q hk).kept (hk1 q.1 (out_l hD hP k q hk).1 (out_l hD hP k q hk).2)) b1, vd_same hD, hS1⟩
set_option maxHeartbeats 1000000 in
theorem l_XT {p : Program} {l : Launch} {e : Env} {s : State} {m : MethodId} {below : List Frame} {meth : Method} {c : Code} {b L : Nat} {xs : Nat → Int32} {D : va_G} {C : Nat → ClassId} {KV : (Nat → Nat) × (Nat → Nat)} {nc : Nat} {ax am : Nat → Nat} {σx σm : St} {H : Heap} {locs : List Loc} {cells slots : Nat} {Q : State → Prop} {pc : Nat} {ls : Array Slot} {lv : List (Nat × Value)} {st : List Value} {idx : Nat} {r : Int32} {σ' : St} {nc' : Nat} (hc : Lc p s m meth c b L xs D C KV) (hw : Wst D C KV s nc ax am σx σm H locs) (hM : MtT l (wX D C KV nc ax) σx (r, σ', nc')) (hy : YV yX11_text cX11_text 2 (some .int) 0) (lk : Cond.methodLink RL idx yX11_text ∈ gw) (hst : Nat.ble (st.map fun v => v.category).sum 8 = true) (hl : lv_has ls 4 lv) (hcap : cells + 2 ≤ 600000 ∧ slots + 162 ≤ 7302250) (d : decode code pc = .ok (.invokevirtual idx, 3))
    (kk : ∀ (ax' : Nat → Nat) (H1 : Heap) (locs1 : List Loc), ax' 0 = ax 0 → Wst D C KV s nc' ax' am σ' σm H1 locs1 → W p l e room_1 s m #[Value.ref b] below meth c H1 locs1 (cells + 2) (slots + 162) Q (F0 m (pc + 3) ls (.int r :: st))) : W p l e room_1 s m #[Value.ref b] below meth c H locs cells slots Q (F0 m pc ls (.ref (ax 0) :: st)) := by
  obtain ⟨⟨hx, hb, hml, hown, hts⟩, hK, hX, hXs, hbl, hr, hlk⟩ := hc
  obtain ⟨h66, hP, hD, hS⟩ := id hw
  obtain ⟨y1, y2, y3, y4, y5⟩ := hy
  have hA : ∀ q : Nat, H.size ≤ q → Ge s q := fun q h => Nat.le_trans hS.1 h
  have hF : ∀ q, Aw (wX D C KV nc ax) H.size q → Ge s q := aw_l hD hA
  have hWd : HWd (wX D C KV nc ax) shX rX 66 := ⟨rfl, rfl, hw.1⟩
  refine va_calli (va_runV (C := RX11) (As := []) (rest := st) ⟨hx, hb, hml, hown, hts⟩ (hM H.size) ⟨callB_of 0 hts (gw_cons y1) rfl rfl rfl (hts _ y4) (hts _ lk) y5 ⟨Nat.le_of_ble_eq_true rfl, Nat.le_of_ble_eq_true rfl⟩, hts _ y2, hts _ y3⟩ ⟨Pw_blind, va_recv hK (va_app_l hP) (ci := 11) (q := (RX11, TX11, 16)) rfl ((wls_get (hWd.n (k := 0) rfl)).trans (by rw [went_0 (hWd.sh (k := 0) (q := (0, 11)) rfl)])), fun U hU hW2 => ⟨rfl, by rw [hU], by rw [hU]; exact va_app_l hP, va_K.moved hW2.alike hK, (vd_app_l hD).weaken (fun _ _ _ _ => trivial), (hX.next hS hU hW2 hF).narrow rfl rfl (fun _ h => h)⟩⟩ rfl rfl hl.1 rfl (lv_room (Nat.le_of_ble_eq_true hst)) d hcap) hS (fun q9 _ h => hF q9 h) hF (fun r9 u t H1 locs1 ht hvm hw9 hB hz1 hk1 hS1 => ?_)
  obtain ⟨w', σ9⟩ := u
  obtain ⟨e9, ⟨⟨x1, x2, x3, x4⟩, x5, x6, x7, x8⟩⟩ := hw9
  obtain ⟨b1, b2, b3⟩ := hB
  dsimp only at e9 x1 x2 x3 x4 x5 x6 x7 x8 b1 b2 b3
  have ew : w' = wX D C KV (wN w') (wA w') := by
    show (wD w', wC w', wH w', wR w', wN w', wA w', wK w', wV w') = _
    rw [x1, x2, x5, x6, x3, x4]
    rfl
  have e1 : r9 = r := congrArg Prod.fst e9
  have e2 : σ9 = σ' := congrArg (fun z => z.2.1) e9
  have e3 : wN w' = nc' := congrArg (fun z => z.2.2) e9
  have x0 := x8 0 (by show 0 < nc; omega)
  generalize wA w' = A9 at ew x0
  rw [e3] at ew x7
  subst e1; subst e2
  rw [ew] at b1 b3
  rw [ht] at b1
  have x7 : nc ≤ nc' := x7
  refine kk A9 H1 locs1 x0 ⟨by omega, va_P.app b1 (fun k q hk => (va_app_r hP k q hk).kept (hk1 q.1 (out_r hD hP k q hk).1 (out_r hD hP k q hk).2)), ?_, hS1⟩
  exact va_D.app (b3.weaken (fun _ _ _ h => hF _ h)) (vd_app_r hD) (fun i j x y hx9 hy9 e => (out_r hD hP j y hy9).2 (by rw [← e]; exact b3.2 i x hx9))
