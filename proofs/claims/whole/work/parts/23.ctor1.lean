/-! rows of int rows: what the word says of the tables, and that alike tables keep it -/
theorem oa_kept {U V : State} {a a' : Array Value} (ha : U.vm.Alike V.vm) (h : (Cond.arrayOver (.array .int)).before a U = true) : (Cond.arrayOver (.array .int)).before a' V = true := by
  have e : (Cond.arrayOver (.array .int)).before a (U.setVm V.vm) = true := (Cond.arrayOver_setVmC ha _).trans h
  simp only [Cond.before, Cond.holds, Cond.value, State.vm_setVm] at e ⊢
  exact e
theorem oa_says {s : State} {a : Array Value} (h : (Cond.arrayOver (.array .int)).before a s = true) : ∃ (z c : ClassId) (k : Class), s.vm.findClass (FieldType.array .int).toString = some z ∧ s.vm.classes[c]? = some k ∧ k.kind = .array z (.array .int) ∧ s.vm.findClass ("[" ++ (FieldType.array .int).toString) = some c := by
  simp only [Cond.before, Cond.holds, Cond.value, beq_iff_eq] at h
  obtain ⟨z, hz, h1⟩ := Option.bind_eq_some_iff.mp h
  obtain ⟨c, hc, h2⟩ := Option.bind_eq_some_iff.mp h1
  obtain ⟨k, hk, h3⟩ := Option.map_eq_some_iff.mp h2
  have hp : (match k.kind with | .array component _ => component == z | _ => false) = true := by
    have := (Array.findIdx?_eq_some_iff_getElem.mp hc).2.1
    rwa [(Array.getElem?_eq_some_iff.mp hk).2] at this
  refine ⟨z, c, k, hz, hk, ?_⟩
  cases hq : k.kind with
  | array y t =>
    rw [hq] at hp h3
    simp at hp h3
    exact ⟨by rw [hp, h3.1], h3.2⟩
  | _ => rw [hq] at hp; simp at hp
/-- words that the tables give and that are not 'good': rows of rows, rows of rules, the nest's constructors -/
def Ex (U : State) : Prop := (Cond.arrayOver (.array .int)).before #[] U = true ∧ va_AO RX6 U ∧ va_Nw (.methodLinkNest RX11 9 yX2_init RX11) U ∧ va_Nw (.methodLinkNest RX11 36 yX8_init RX11) U ∧ va_Nw (.methodLinkNest RX11 80 yX10_init RX11) U ∧ va_Nw (.methodLinkNest RX11 87 yX5_init RX11) U ∧ va_Nw (.methodLinkNest RX11 94 yX7_init RX11) U
theorem Ex.warm {s U : State} (h : Ex s) (hW : s.WarmedH U.vm) : Ex U := by
  obtain ⟨h1, h2, h3, h4, h5, h6, h7⟩ := h
  exact ⟨oa_kept hW.alike h1, h2.moved hW.alike, h3.warmM hW, h4.warmM hW, h5.warmM hW, h6.warmM hW, h7.warmM hW⟩
theorem Ex.same {s U : State} (h : Ex s) (hv : s.vm = U.vm) : Ex U := by
  have ha : s.vm.Alike U.vm := by rw [hv]; exact Vm.Alike.refl U.vm
  obtain ⟨h1, h2, h3, h4, h5, h6, h7⟩ := h
  exact ⟨oa_kept ha h1, h2.moved ha, h3.same rfl hv, h4.same rfl hv, h5.same rfl hv, h6.same rfl hv, h7.same rfl hv⟩
/-- a world's frame with the String constants' addresses KV -/
def mkW (D : va_G) (C : Nat → ClassId) (S : Nat → Nat × Nat) (Rf : Nat → Nat → Option Nat) (N : Nat) (ad : Nat → Nat) (KV : (Nat → Nat) × (Nat → Nat)) : Wd := (D, C, S, Rf, N, ad, KV.1, KV.2)
def kvW (KV : (Nat → Nat) × (Nat → Nat)) : Wd := mkW (fun _ => 0, fun _ _ => 0) (fun _ => 0) (fun _ => (0, 0)) (fun _ _ => none) 0 (fun _ => 0) KV
def PwC (KV : (Nat → Nat) × (Nat → Nat)) (D : va_G) (C : Nat → ClassId) (W0 : va_W) (sz : Nat) (U : State) : Prop := U.heap.size = sz ∧ va_P D classes W0 U.heap ∧ va_K D classes (tyC C) U ∧ va_D (fun _ => True) W0 ∧ Ex U ∧ Sx (kvW KV) (va_A W0 sz) U U.heap
def BwC (D : va_G) (C : Nat → ClassId) (A : Nat → Prop) (W1 : (Nat → Nat → Nat) → va_W) (u : Nat → Nat → Nat) (t : State) : Prop := va_P D classes (W1 u) t.heap ∧ va_K D classes (tyC C) t ∧ va_D A (W1 u)
def rmc (fr mc ms lo : Nat) : Room := { frames := fr, cells := mc, slots := ms, locals := lo }
def MtC (KV : (Nat → Nat) × (Nat → Nat)) (l : Launch) (y : MethodName) (cc : ByteArray) (nL fr mc ms lo : Nat) (D : va_G) (C : Nat → ClassId) (av : List Value) (W0 : va_W) (W1 : (Nat → Nat → Nat) → va_W) : Prop :=
  ∀ sz, Met l y (.code y cc nL none :: gw) (rmc fr mc ms lo) (va_Pc av (PwC KV D C W0 sz)) (va_Qv (fun _ : Nat → Nat → Nat => True) (BwC D C (va_A W0 sz) W1) (va_A W0 sz)) mc ms (va_A W0 sz)
theorem PwC_blind {KV : (Nat → Nat) × (Nat → Nat)} {av : List Value} {D : va_G} {C : Nat → ClassId} {W0 : va_W} {sz : Nat} : FrameBlind (va_Pc av (PwC KV D C W0 sz)) := fun a U g mk q => by
  obtain ⟨q0, q1, qP, qK, qD, qX, qY⟩ := q
  exact ⟨q0, q1, qP, va_K.moved (u := U) (U := U.calling g mk a) (Vm.Alike.refl U.vm) qK, qD, qX.same rfl, qY.same rfl rfl⟩
def YI (y : MethodName) (cc : ByteArray) (nL n : Nat) : Prop := Cond.code y cc nL none ∈ gw ∧ Cond.instanceMethod y ∈ gw ∧ Cond.initialized y.cls ∈ gw ∧ y.name = "<init>" ∧ (y.cls ≠ "java/lang/invoke/MethodHandle" ∧ y.cls ≠ "java/lang/invoke/VarHandle" ∧ (parseMethodDescriptor y.desc).map (fun d => d.parameters.length) = some n)
section CTORCALL
variable {p : Program} {l : Launch} {e : Env} {R : Room} {s : State} {m : MethodId} {args : Array Value} {below : List Frame} {meth : Method} {c : Code} {H : Heap} {locs : List Loc} {cells slots : Nat} {Q : State → Prop}
variable {cc cc2 : ByteArray} {pc nL nL2 fr2 mc ms lo2 n2 idx : Nat} {ls : Array Slot} {rest : List Value} {D : va_G} {A : Nat → Prop} {C : Nat → ClassId} {ws wc : va_W} {own : String} {y : MethodName} {lv : List (Nat × Value)}
theorem e_callI (S : CallFix p m c cc nL s args gw own) (hK : va_K D classes (tyC C) s) (hP : va_P D classes (ws ++ wc) H) (hD : va_D A (ws ++ wc)) (hS : va_S A s.heap H locs) (hA : ∀ q, s.heap.size ≤ q → A q) (hE : Ex s) {KV : (Nat → Nat) × (Nat → Nat)} (hX : Sx (kvW KV) A s s.heap) (hl : lv_has ls nL lv) {q : Nat} {W1 : (Nat → Nat → Nat) → va_W} (As : List Value) (hM : MtC KV l y cc2 nL2 fr2 mc ms lo2 D C (.ref q :: As) wc W1) (hy : YI y cc2 nL2 n2) (lk : Cond.methodLink own idx y ∈ gw) (hn : As.length = n2) (hroom : fr2 + 1 ≤ R.frames ∧ 8 + (nL2 + 11) + lo2 ≤ R.locals) (hst : Nat.ble (rest.map fun v => v.category).sum 8 = true) (hcl : cells + mc ≤ R.cells ∧ slots + ms ≤ R.slots) (d : decode cc pc = .ok (.invokespecial idx, 3))
    (kk : ∀ (u : Nat → Nat → Nat) (H1 : Heap) (locs1 : List Loc), va_P D classes (ws ++ W1 u) H1 → va_D A (ws ++ W1 u) → va_S A s.heap H1 locs1 → W p l e R s m args below meth c H1 locs1 (cells + mc) (slots + ms) Q (F0 m (pc + 3) ls rest)) : W p l e R s m args below meth c H locs cells slots Q (F0 m pc ls (As.reverse ++ .ref q :: rest)) := by
  obtain ⟨hx, hb, hml, hown, hts⟩ := id S
  obtain ⟨y1, y2, y3, y4, y5⟩ := hy
  have hF := va_freeA hD hS hA
  refine va_callv (va_runI (As := As) (rest := rest) S (hM H.size) ⟨callB_of n2 hts (gw_cons y1) rfl rfl rfl (hts _ y3) (hts _ lk) y5 hroom, y4, hts _ y2⟩ ⟨PwC_blind, fun U hU hW2 => ⟨rfl, by rw [hU], by rw [hU]; exact va_app_r hP, va_K.moved hW2.alike hK, (vd_app_r hD).weaken (fun _ _ _ _ => trivial), hE.warm hW2, hX.next hS hU hW2 hF⟩⟩ rfl hn hl.1 rfl (lv_room (Nat.le_of_ble_eq_true hst)) d hcl) hS (fun q9 _ h => hF q9 h) hF (fun u t H1 locs1 ht hvm hw hB hz1 hk1 hS1 => ?_)
  obtain ⟨b1, b2, b3⟩ := hB
  rw [ht] at b1
  obtain ⟨hP2, hD2⟩ := va_joinA hP hD hk1 hF b1 b3
  exact kk u H1 locs1 hP2 hD2 hS1
theorem e_callN (S : CallFix p m c cc nL s args gw own) (hK : va_K D classes (tyC C) s) (hP : va_P D classes (ws ++ wc) H) (hD : va_D A (ws ++ wc)) (hS : va_S A s.heap H locs) (hA : ∀ q, s.heap.size ≤ q → A q) (hE : Ex s) {KV : (Nat → Nat) × (Nat → Nat)} (hX : Sx (kvW KV) A s s.heap) (hl : lv_has ls nL lv) {q : Nat} {W1 : (Nat → Nat → Nat) → va_W} {host : String} (As : List Value) (hM : MtC KV l y cc2 nL2 fr2 mc ms lo2 D C (.ref q :: As) wc W1) (hy : YI y cc2 nL2 n2) (lk : va_Nw (.methodLinkNest own idx y host) s) (hn : As.length = n2) (hroom : fr2 + 1 ≤ R.frames ∧ 8 + (nL2 + 11) + lo2 ≤ R.locals) (hst : Nat.ble (rest.map fun v => v.category).sum 8 = true) (hcl : cells + mc ≤ R.cells ∧ slots + ms ≤ R.slots) (d : decode cc pc = .ok (.invokespecial idx, 3))
    (kk : ∀ (u : Nat → Nat → Nat) (H1 : Heap) (locs1 : List Loc), va_P D classes (ws ++ W1 u) H1 → va_D A (ws ++ W1 u) → va_S A s.heap H1 locs1 → W p l e R s m args below meth c H1 locs1 (cells + mc) (slots + ms) Q (F0 m (pc + 3) ls rest)) : W p l e R s m args below meth c H locs cells slots Q (F0 m pc ls (As.reverse ++ .ref q :: rest)) := by
  obtain ⟨hx, hb, hml, hown, hts⟩ := id S
  obtain ⟨y1, y2, y3, y4, y5⟩ := hy
  have hF := va_freeA hD hS hA
  refine va_callv (va_runIN (As := As) (rest := rest) S (hM H.size) ⟨va_cnB n2 hts (gw_cons y1) rfl rfl rfl lk (hts _ y3) y5 hroom, y4, hts _ y2⟩ ⟨PwC_blind, fun U hU hW2 => ⟨rfl, by rw [hU], by rw [hU]; exact va_app_r hP, va_K.moved hW2.alike hK, (vd_app_r hD).weaken (fun _ _ _ _ => trivial), hE.warm hW2, hX.next hS hU hW2 hF⟩⟩ rfl hn hl.1 rfl (lv_room (Nat.le_of_ble_eq_true hst)) d hcl) hS (fun q9 _ h => hF q9 h) hF (fun u t H1 locs1 ht hvm hw hB hz1 hk1 hS1 => ?_)
  obtain ⟨b1, b2, b3⟩ := hB
  rw [ht] at b1
  obtain ⟨hP2, hD2⟩ := va_joinA hP hD hk1 hF b1 b3
  exact kk u H1 locs1 hP2 hD2 hS1
end CTORCALL
