/-! CONTRACTS: what a method does to the world, by its program's result -/
def Aw (w : Wd) (sz : Nat) : Nat → Prop := fun q => (∃ k, k < wN w ∧ q = wA w k) ∨ sz ≤ q
def Pw (w : Wd) (σ : St) (sz : Nat) (U : State) : Prop := U.heap.size = sz ∧ va_P (wD w) classes (wls w σ) U.heap ∧ va_K (wD w) classes (wty w) U ∧ va_D (fun _ => True) (wls w σ) ∧ Sx w (Aw w sz) U U.heap
def Bw (w : Wd) (σ : St) (t : State) : Prop := va_P (wD w) classes (wls w σ) t.heap ∧ va_K (wD w) classes (wty w) t
def rmo (fr lo : Nat) : Room := { frames := fr, cells := 0, slots := 0, locals := lo }
def MtI (l : Launch) (y : MethodName) (cc : ByteArray) (nL : Nat) (ret : FieldType) (fr lo : Nat) (w : Wd) (av : List Value) (σ : St) (res : Int32 × St) : Prop :=
  ∀ sz, Met l y (.code y cc nL (some ret) :: gw) (rmo fr lo) (va_Pc av (Pw w σ sz)) (va_Qi (fun r u => (r, u) = res) (Bw w) (Aw w sz)) 0 0 (Aw w sz)
def MtL (l : Launch) (y : MethodName) (cc : ByteArray) (nL : Nat) (ret : FieldType) (fr lo : Nat) (w : Wd) (av : List Value) (σ : St) (res : Int64 × St) : Prop :=
  ∀ sz, Met l y (.code y cc nL (some ret) :: gw) (rmo fr lo) (va_Pc av (Pw w σ sz)) (va_Ql (fun r u => (r, u) = res) (Bw w) (Aw w sz)) 0 0 (Aw w sz)
def MtV (l : Launch) (y : MethodName) (cc : ByteArray) (nL : Nat) (fr lo : Nat) (w : Wd) (av : List Value) (σ : St) (res : St) : Prop :=
  ∀ sz, Met l y (.code y cc nL none :: gw) (rmo fr lo) (va_Pc av (Pw w σ sz)) (va_Qv (fun u => u = res) (Bw w) (Aw w sz)) 0 0 (Aw w sz)
def xmeth (X : Mc) : Method := X.2.2.2.2.2.2.2.2.1
def QI (X : Mc) (w : Wd) (res : Int32 × St) : State → Prop := MQ X.2.2.2.2.2.2.2.1 (va_Qi (fun r u => (r, u) = res) (Bw w) (Aw w (xs_ X).heap.size)) X.2.2.2.2.2.2.1 (xs_ X) X.2.2.2.2.2.2.2.2.2.2.1 X.2.2.2.2.2.2.2.2.2.2.2 (Aw w (xs_ X).heap.size)
def QL (X : Mc) (w : Wd) (res : Int64 × St) : State → Prop := MQ X.2.2.2.2.2.2.2.1 (va_Ql (fun r u => (r, u) = res) (Bw w) (Aw w (xs_ X).heap.size)) X.2.2.2.2.2.2.1 (xs_ X) X.2.2.2.2.2.2.2.2.2.2.1 X.2.2.2.2.2.2.2.2.2.2.2 (Aw w (xs_ X).heap.size)
def QV (X : Mc) (w : Wd) (res : St) : State → Prop := MQ X.2.2.2.2.2.2.2.1 (va_Qv (fun u => u = res) (Bw w) (Aw w (xs_ X).heap.size)) X.2.2.2.2.2.2.1 (xs_ X) X.2.2.2.2.2.2.2.2.2.2.1 X.2.2.2.2.2.2.2.2.2.2.2 (Aw w (xs_ X).heap.size)
theorem Aw_D {w : Wd} {σ : St} {sz : Nat} (h : va_D (fun _ => True) (wls w σ)) (τ : St) : va_D (Aw w sz) (wls w τ) := by
  have key : ∀ (ρ : St) (k : Nat) (q : Nat × va_E), (wls w ρ)[k]? = some q → k < wN w ∧ q.1 = wA w k := by
    intro ρ k q hk
    have hl := (List.getElem?_eq_some_iff.mp hk).1
    rw [wls_len] at hl
    rw [wls_get hl] at hk
    cases hk
    exact ⟨hl, rfl⟩
  refine ⟨fun i j p q hi hj e => ?_, fun k q hk => ?_⟩
  · obtain ⟨h1, e1⟩ := key τ i p hi
    obtain ⟨h2, e2⟩ := key τ j q hj
    exact h.1 i j _ _ (wls_get h1) (wls_get h2) (by rw [← e1, ← e2]; exact e)
  · obtain ⟨h1, e1⟩ := key τ k q hk
    exact Or.inl ⟨k, h1, e1⟩
section RFCALLS
variable {X : Mc} {w : Wd} {A : Nat → Prop} {own : String} {cc : ByteArray} {nL fr lo : Nat} {S : Nat → Nat × Nat} {Rf : Nat → Nat → Option Nat} {N : Nat} {ρ : Type} {Qf : ρ → State → Prop} {P P' : Option ρ} {pc : Nat} {lv lv' : List (Nat × Value)} {st : List Value} {σ : St}
/-- returns -/
theorem r_iret (hC : Cok X w (Aw w (xs_ X).heap.size) own cc nL fr lo S Rf N) {r : Int32} {ret : FieldType} (hret : (xmeth X).sig.returnType = some ret) (hn : narrow ret (.int r) = .int r) (d : decode cc pc = .ok (.ireturn, 1)) : RF X w (Aw w (xs_ X).heap.size) nL (QI X w) (some (r, σ)) pc lv [.int r] σ := by
  obtain ⟨p, l, e, R, s, m, args, below, meth, c, cells, slots⟩ := X
  obtain ⟨⟨hx, hb, hml, hown, hts⟩, hK, hA, hlk, hD, hR, hW, hX⟩ := hC
  dsimp only at hx hb hml hown hts hK hA hlk hR
  intro res hr H locs ls hP hS hl
  cases hr
  exact W.zret (v := r) hx hb hret hn (fun t ht hW => ⟨⟨r, σ, rfl, rfl, by rw [ht]; exact hP, va_K.moved hW.alike hK⟩, hS.F ht⟩) hS.2.2 d hlk
theorem r_lret (hC : Cok X w (Aw w (xs_ X).heap.size) own cc nL fr lo S Rf N) {r : Int64} (hret : (xmeth X).sig.returnType = some .long) (d : decode cc pc = .ok (.lreturn, 1)) : RF X w (Aw w (xs_ X).heap.size) nL (QL X w) (some (r, σ)) pc lv [.long r] σ := by
  obtain ⟨p, l, e, R, s, m, args, below, meth, c, cells, slots⟩ := X
  obtain ⟨⟨hx, hb, hml, hown, hts⟩, hK, hA, hlk, hD, hR, hW, hX⟩ := hC
  dsimp only at hx hb hml hown hts hK hA hlk hR
  intro res hr H locs ls hP hS hl
  cases hr
  exact W.lret (v := r) hx hb hret (fun t ht hW => ⟨⟨r, σ, rfl, rfl, by rw [ht]; exact hP, va_K.moved hW.alike hK⟩, hS.F ht⟩) hS.2.2 d hlk
theorem r_vret (hC : Cok X w (Aw w (xs_ X).heap.size) own cc nL fr lo S Rf N) (hret : (xmeth X).sig.returnType = none) (d : decode cc pc = .ok (.return_, 1)) : RF X w (Aw w (xs_ X).heap.size) nL (QV X w) (some σ) pc lv [] σ := by
  obtain ⟨p, l, e, R, s, m, args, below, meth, c, cells, slots⟩ := X
  obtain ⟨⟨hx, hb, hml, hown, hts⟩, hK, hA, hlk, hD, hR, hW, hX⟩ := hC
  dsimp only at hx hb hml hown hts hK hA hlk hR
  intro res hr H locs ls hP hS hl
  cases hr
  exact W.vret hx hb hret (fun t ht hW => ⟨⟨σ, rfl, rfl, by rw [ht]; exact hP, va_K.moved hW.alike hK⟩, hS.F ht⟩) hS.2.2 d hlk
end RFCALLS
/-- a method's contract out of its body's walk -/
theorem mt_I {l : Launch} {y : MethodName} {cc : ByteArray} {nL : Nat} {ret : FieldType} {fr lo : Nat} {w : Wd} {av : List Value} {σ : St} {S : Nat → Nat × Nat} {Rf : Nat → Nat → Option Nat} {N : Nat} {P : Option (Int32 × St)} (hy : plainName y.cls = true) (hav : Nat.ble (lg_sl av).length nL = true) (hW : HWd w S Rf N)
    (body : ∀ X : Mc, X.2.1 = l → Cok X w (Aw w (xs_ X).heap.size) y.cls cc nL fr lo S Rf N → (xmeth X).sig.returnType = some ret → RF X w (Aw w (xs_ X).heap.size) nL (QI X w) P 0 (lv_args 0 av) [] σ) : ∀ res, P = some res → MtI l y cc nL ret fr lo w av σ res := by
  intro res hres sz
  refine Met.ofW (cc := cc) (maxL := nL) (ret := some ret) hy rfl ?_
  intro p e s m args below meth c s₁ B hml hv
  obtain ⟨rfl, hsz, hP, hK, hD0, hX⟩ := hv
  subst hsz
  have hts := atoms_spec (ws := .code y cc nL (some ret) :: gw) B.pre
  have hl := lv_entry av (n := nL) (Nat.le_of_ble_eq_true hav)
  rw [lg_entry_eq]
  exact body (p, l, e, rmo fr lo, s, m, av.toArray, below, meth, c, 0, 0) rfl ⟨⟨B.exec, B.bytes, hml, findClass_of_methodNamed B.named, fun w9 h9 => hts w9 (List.mem_cons_of_mem _ h9)⟩, hK, fun q h => Or.inr h, B.notSynchronized, fun τ => Aw_D hD0 τ, ⟨Nat.le_refl _, Nat.le_refl _, Nat.zero_le _, Nat.zero_le _⟩, hW, hX⟩ B.returns res hres s.heap [] _ hP va_S.rf hl
theorem mt_L {l : Launch} {y : MethodName} {cc : ByteArray} {nL : Nat} {ret : FieldType} {fr lo : Nat} {w : Wd} {av : List Value} {σ : St} {S : Nat → Nat × Nat} {Rf : Nat → Nat → Option Nat} {N : Nat} {P : Option (Int64 × St)} (hy : plainName y.cls = true) (hav : Nat.ble (lg_sl av).length nL = true) (hW : HWd w S Rf N)
    (body : ∀ X : Mc, X.2.1 = l → Cok X w (Aw w (xs_ X).heap.size) y.cls cc nL fr lo S Rf N → (xmeth X).sig.returnType = some ret → RF X w (Aw w (xs_ X).heap.size) nL (QL X w) P 0 (lv_args 0 av) [] σ) : ∀ res, P = some res → MtL l y cc nL ret fr lo w av σ res := by
  intro res hres sz
  refine Met.ofW (cc := cc) (maxL := nL) (ret := some ret) hy rfl ?_
  intro p e s m args below meth c s₁ B hml hv
  obtain ⟨rfl, hsz, hP, hK, hD0, hX⟩ := hv
  subst hsz
  have hts := atoms_spec (ws := .code y cc nL (some ret) :: gw) B.pre
  have hl := lv_entry av (n := nL) (Nat.le_of_ble_eq_true hav)
  rw [lg_entry_eq]
  exact body (p, l, e, rmo fr lo, s, m, av.toArray, below, meth, c, 0, 0) rfl ⟨⟨B.exec, B.bytes, hml, findClass_of_methodNamed B.named, fun w9 h9 => hts w9 (List.mem_cons_of_mem _ h9)⟩, hK, fun q h => Or.inr h, B.notSynchronized, fun τ => Aw_D hD0 τ, ⟨Nat.le_refl _, Nat.le_refl _, Nat.zero_le _, Nat.zero_le _⟩, hW, hX⟩ B.returns res hres s.heap [] _ hP va_S.rf hl
theorem mt_V {l : Launch} {y : MethodName} {cc : ByteArray} {nL : Nat} {fr lo : Nat} {w : Wd} {av : List Value} {σ : St} {S : Nat → Nat × Nat} {Rf : Nat → Nat → Option Nat} {N : Nat} {P : Option St} (hy : plainName y.cls = true) (hav : Nat.ble (lg_sl av).length nL = true) (hW : HWd w S Rf N)
    (body : ∀ X : Mc, X.2.1 = l → Cok X w (Aw w (xs_ X).heap.size) y.cls cc nL fr lo S Rf N → (xmeth X).sig.returnType = none → RF X w (Aw w (xs_ X).heap.size) nL (QV X w) P 0 (lv_args 0 av) [] σ) : ∀ res, P = some res → MtV l y cc nL fr lo w av σ res := by
  intro res hres sz
  refine Met.ofW (cc := cc) (maxL := nL) (ret := none) hy rfl ?_
  intro p e s m args below meth c s₁ B hml hv
  obtain ⟨rfl, hsz, hP, hK, hD0, hX⟩ := hv
  subst hsz
  have hts := atoms_spec (ws := .code y cc nL none :: gw) B.pre
  have hl := lv_entry av (n := nL) (Nat.le_of_ble_eq_true hav)
  rw [lg_entry_eq]
  exact body (p, l, e, rmo fr lo, s, m, av.toArray, below, meth, c, 0, 0) rfl ⟨⟨B.exec, B.bytes, hml, findClass_of_methodNamed B.named, fun w9 h9 => hts w9 (List.mem_cons_of_mem _ h9)⟩, hK, fun q h => Or.inr h, B.notSynchronized, fun τ => Aw_D hD0 τ, ⟨Nat.le_refl _, Nat.le_refl _, Nat.zero_le _, Nat.zero_le _⟩, hW, hX⟩ B.returns res hres s.heap [] _ hP va_S.rf hl
/-- the words of a method that is called -/
def YV (y : MethodName) (cc : ByteArray) (nL : Nat) (ret : Option FieldType) (n : Nat) : Prop := Cond.code y cc nL ret ∈ gw ∧ Cond.instanceMethod y ∈ gw ∧ Cond.selects y.cls y y ∈ gw ∧ Cond.initialized y.cls ∈ gw ∧ (y.cls ≠ "java/lang/invoke/MethodHandle" ∧ y.cls ≠ "java/lang/invoke/VarHandle" ∧ (parseMethodDescriptor y.desc).map (fun d => d.parameters.length) = some n)
def YS (y : MethodName) (cc : ByteArray) (nL : Nat) (ret : Option FieldType) (n : Nat) : Prop := Cond.code y cc nL ret ∈ gw ∧ Cond.static y ∈ gw ∧ Cond.initialized y.cls ∈ gw ∧ (y.cls ≠ "java/lang/invoke/MethodHandle" ∧ y.cls ≠ "java/lang/invoke/VarHandle" ∧ (parseMethodDescriptor y.desc).map (fun d => d.parameters.length) = some n)
theorem gw_cons {c : Cond} (h : c ∈ gw) : GoodIn gw (c :: gw) := fun w hw => by
  rcases List.mem_cons.mp hw with rfl | h2
  · exact ⟨h, good_of_word (gw_good h)⟩
  · exact ⟨h2, good_of_word (gw_good h2)⟩
theorem Pw_blind {av : List Value} {w : Wd} {σ : St} {sz : Nat} : FrameBlind (va_Pc av (Pw w σ sz)) := fun a U g mk q => by
  obtain ⟨q0, q1, qP, qK, qD, qX⟩ := q
  exact ⟨q0, q1, qP, va_K.moved (u := U) (U := U.calling g mk a) (Vm.Alike.refl U.vm) qK, qD, qX.same rfl rfl⟩
theorem Aw_mono {w : Wd} {a b : Nat} (h : a ≤ b) : ∀ q, Aw w b q → Aw w a q := fun _ hq => hq.elim Or.inl (fun z => Or.inr (Nat.le_trans h z))
theorem r_callVI {X : Mc} {w : Wd} {own : String} {cc : ByteArray} {nL fr lo : Nat} {S : Nat → Nat × Nat} {Rf : Nat → Nat → Option Nat} {N : Nat} {ρ : Type} {Qf : ρ → State → Prop} {pc : Nat} {lv : List (Nat × Value)} {st : List Value} {σ : St} (hC : Cok X w (Aw w (xs_ X).heap.size) own cc nL fr lo S Rf N) {y : MethodName} {cc2 : ByteArray} {nL2 n2 fr2 lo2 idx : Nat} {ret : FieldType} {f : Option (Int32 × St)} {K : Int32 → St → Option ρ} {b ci : Nat} {q : vw_C} (As : List Value) (hs : S b = (0, ci)) (hb0 : b < wN w) (hcl : classes[ci]? = some q) (hq : q.1 = y.cls) (hm : ∀ res, f = some res → MtI X.2.1 y cc2 nL2 ret fr2 lo2 w (.ref (wA w b) :: As) σ res) (hy : YV y cc2 nL2 (some ret) n2) (lk : Cond.methodLink own idx y ∈ gw) (hn : As.length = n2) (hroom : Nat.ble (fr2 + 1) fr = true ∧ Nat.ble (8 + (nL2 + 11) + lo2) lo = true) (hst : Nat.ble (st.map fun v => v.category).sum 8 = true) (d : decode cc pc = .ok (.invokevirtual idx, 3)) (k : ∀ r σ', RF X w (Aw w (xs_ X).heap.size) nL Qf (K r σ') (pc + 3) lv (.int r :: st) σ') : RF X w (Aw w (xs_ X).heap.size) nL Qf (bd f K) pc lv (As.reverse ++ .ref (wA w b) :: st) σ := by
  obtain ⟨p, l, e, R, s, m, args, below, meth, c, cells, slots⟩ := X
  obtain ⟨⟨hx, hb, hml, hown, hts⟩, hK, hA, hlk, hD, hR, hW, hX⟩ := hC
  dsimp only at hx hb hml hown hts hK hA hlk hR hm
  intro res hr H locs ls hP hS hl
  show W p l e R s m args below meth c H locs cells slots (Qf res) (F0 m pc ls _)
  cases hf : f with
  | none => rw [hf] at hr; cases hr
  | some r2 =>
    rw [hf] at hr
    have hM := hm r2 hf H.size
    obtain ⟨y1, y2, y3, y4, y5⟩ := hy
    refine va_calli (va_runV (C := q.1) (As := As) (rest := st) ⟨hx, hb, hml, hown, hts⟩ hM ⟨callB_of n2 hts (gw_cons y1) rfl rfl rfl (hts _ y4) (hts _ lk) y5 ⟨Nat.le_trans (Nat.le_of_ble_eq_true hroom.1) hR.1, Nat.le_trans (Nat.le_of_ble_eq_true hroom.2) hR.2.1⟩, hts _ y2, by rw [hq]; exact hts _ y3⟩ ⟨Pw_blind, va_recv hK hP hcl ((wls_get hb0).trans (by rw [went_0 (hW.sh hs)])), fun U hU hW2 => ⟨rfl, by rw [hU], by rw [hU]; exact hP, va_K.moved hW2.alike hK, (hD σ).weaken (fun _ _ _ _ => trivial), hX.next hS hU hW2 (fun q9 h => Aw_mono hS.1 q9 h)⟩⟩ rfl hn hl.1 rfl (lv_room (Nat.le_of_ble_eq_true hst)) d ⟨hR.2.2.1, hR.2.2.2⟩) hS (fun q9 _ h => Aw_mono hS.1 q9 h) (fun q9 h => Aw_mono hS.1 q9 h) (fun r u t H1 locs1 ht hvm hw hB hz1 hk1 hS1 => ?_)
    subst hw
    exact k r u res hr H1 locs1 ls (by rw [← ht]; exact hB.1) hS1 hl
theorem r_callVL {X : Mc} {w : Wd} {own : String} {cc : ByteArray} {nL fr lo : Nat} {S : Nat → Nat × Nat} {Rf : Nat → Nat → Option Nat} {N : Nat} {ρ : Type} {Qf : ρ → State → Prop} {pc : Nat} {lv : List (Nat × Value)} {st : List Value} {σ : St} (hC : Cok X w (Aw w (xs_ X).heap.size) own cc nL fr lo S Rf N) {y : MethodName} {cc2 : ByteArray} {nL2 n2 fr2 lo2 idx : Nat} {ret : FieldType} {f : Option (Int64 × St)} {K : Int64 → St → Option ρ} {b ci : Nat} {q : vw_C} (As : List Value) (hs : S b = (0, ci)) (hb0 : b < wN w) (hcl : classes[ci]? = some q) (hq : q.1 = y.cls) (hm : ∀ res, f = some res → MtL X.2.1 y cc2 nL2 ret fr2 lo2 w (.ref (wA w b) :: As) σ res) (hy : YV y cc2 nL2 (some ret) n2) (lk : Cond.methodLink own idx y ∈ gw) (hn : As.length = n2) (hroom : Nat.ble (fr2 + 1) fr = true ∧ Nat.ble (8 + (nL2 + 11) + lo2) lo = true) (hst : Nat.ble (st.map fun v => v.category).sum 8 = true) (d : decode cc pc = .ok (.invokevirtual idx, 3)) (k : ∀ r σ', RF X w (Aw w (xs_ X).heap.size) nL Qf (K r σ') (pc + 3) lv (.long r :: st) σ') : RF X w (Aw w (xs_ X).heap.size) nL Qf (bd f K) pc lv (As.reverse ++ .ref (wA w b) :: st) σ := by
  obtain ⟨p, l, e, R, s, m, args, below, meth, c, cells, slots⟩ := X
  obtain ⟨⟨hx, hb, hml, hown, hts⟩, hK, hA, hlk, hD, hR, hW, hX⟩ := hC
  dsimp only at hx hb hml hown hts hK hA hlk hR hm
  intro res hr H locs ls hP hS hl
  show W p l e R s m args below meth c H locs cells slots (Qf res) (F0 m pc ls _)
  cases hf : f with
  | none => rw [hf] at hr; cases hr
  | some r2 =>
    rw [hf] at hr
    have hM := hm r2 hf H.size
    obtain ⟨y1, y2, y3, y4, y5⟩ := hy
    refine va_calll (va_runV (C := q.1) (As := As) (rest := st) ⟨hx, hb, hml, hown, hts⟩ hM ⟨callB_of n2 hts (gw_cons y1) rfl rfl rfl (hts _ y4) (hts _ lk) y5 ⟨Nat.le_trans (Nat.le_of_ble_eq_true hroom.1) hR.1, Nat.le_trans (Nat.le_of_ble_eq_true hroom.2) hR.2.1⟩, hts _ y2, by rw [hq]; exact hts _ y3⟩ ⟨Pw_blind, va_recv hK hP hcl ((wls_get hb0).trans (by rw [went_0 (hW.sh hs)])), fun U hU hW2 => ⟨rfl, by rw [hU], by rw [hU]; exact hP, va_K.moved hW2.alike hK, (hD σ).weaken (fun _ _ _ _ => trivial), hX.next hS hU hW2 (fun q9 h => Aw_mono hS.1 q9 h)⟩⟩ rfl hn hl.1 rfl (lv_room (Nat.le_of_ble_eq_true hst)) d ⟨hR.2.2.1, hR.2.2.2⟩) hS (fun q9 _ h => Aw_mono hS.1 q9 h) (fun q9 h => Aw_mono hS.1 q9 h) (fun r u t H1 locs1 ht hvm hw hB hz1 hk1 hS1 => ?_)
    subst hw
    exact k r u res hr H1 locs1 ls (by rw [← ht]; exact hB.1) hS1 hl
theorem r_callVV {X : Mc} {w : Wd} {own : String} {cc : ByteArray} {nL fr lo : Nat} {S : Nat → Nat × Nat} {Rf : Nat → Nat → Option Nat} {N : Nat} {ρ : Type} {Qf : ρ → State → Prop} {pc : Nat} {lv : List (Nat × Value)} {st : List Value} {σ : St} (hC : Cok X w (Aw w (xs_ X).heap.size) own cc nL fr lo S Rf N) {y : MethodName} {cc2 : ByteArray} {nL2 n2 fr2 lo2 idx : Nat} {f : Option St} {K : St → Option ρ} {b ci : Nat} {q : vw_C} (As : List Value) (hs : S b = (0, ci)) (hb0 : b < wN w) (hcl : classes[ci]? = some q) (hq : q.1 = y.cls) (hm : ∀ res, f = some res → MtV X.2.1 y cc2 nL2 fr2 lo2 w (.ref (wA w b) :: As) σ res) (hy : YV y cc2 nL2 none n2) (lk : Cond.methodLink own idx y ∈ gw) (hn : As.length = n2) (hroom : Nat.ble (fr2 + 1) fr = true ∧ Nat.ble (8 + (nL2 + 11) + lo2) lo = true) (hst : Nat.ble (st.map fun v => v.category).sum 8 = true) (d : decode cc pc = .ok (.invokevirtual idx, 3)) (k : ∀ σ', RF X w (Aw w (xs_ X).heap.size) nL Qf (K σ') (pc + 3) lv st σ') : RF X w (Aw w (xs_ X).heap.size) nL Qf (bdv f K) pc lv (As.reverse ++ .ref (wA w b) :: st) σ := by
  obtain ⟨p, l, e, R, s, m, args, below, meth, c, cells, slots⟩ := X
  obtain ⟨⟨hx, hb, hml, hown, hts⟩, hK, hA, hlk, hD, hR, hW, hX⟩ := hC
  dsimp only at hx hb hml hown hts hK hA hlk hR hm
  intro res hr H locs ls hP hS hl
  show W p l e R s m args below meth c H locs cells slots (Qf res) (F0 m pc ls _)
  cases hf : f with
  | none => rw [hf] at hr; cases hr
  | some r2 =>
    rw [hf] at hr
    have hM := hm r2 hf H.size
    obtain ⟨y1, y2, y3, y4, y5⟩ := hy
    refine va_callv (va_runV (C := q.1) (As := As) (rest := st) ⟨hx, hb, hml, hown, hts⟩ hM ⟨callB_of n2 hts (gw_cons y1) rfl rfl rfl (hts _ y4) (hts _ lk) y5 ⟨Nat.le_trans (Nat.le_of_ble_eq_true hroom.1) hR.1, Nat.le_trans (Nat.le_of_ble_eq_true hroom.2) hR.2.1⟩, hts _ y2, by rw [hq]; exact hts _ y3⟩ ⟨Pw_blind, va_recv hK hP hcl ((wls_get hb0).trans (by rw [went_0 (hW.sh hs)])), fun U hU hW2 => ⟨rfl, by rw [hU], by rw [hU]; exact hP, va_K.moved hW2.alike hK, (hD σ).weaken (fun _ _ _ _ => trivial), hX.next hS hU hW2 (fun q9 h => Aw_mono hS.1 q9 h)⟩⟩ rfl hn hl.1 rfl (lv_room (Nat.le_of_ble_eq_true hst)) d ⟨hR.2.2.1, hR.2.2.2⟩) hS (fun q9 _ h => Aw_mono hS.1 q9 h) (fun q9 h => Aw_mono hS.1 q9 h) (fun u t H1 locs1 ht hvm hw hB hz1 hk1 hS1 => ?_)
    subst hw
    exact k u res hr H1 locs1 ls (by rw [← ht]; exact hB.1) hS1 hl
theorem r_callSI {X : Mc} {w : Wd} {own : String} {cc : ByteArray} {nL fr lo : Nat} {S : Nat → Nat × Nat} {Rf : Nat → Nat → Option Nat} {N : Nat} {ρ : Type} {Qf : ρ → State → Prop} {pc : Nat} {lv : List (Nat × Value)} {st : List Value} {σ : St} (hC : Cok X w (Aw w (xs_ X).heap.size) own cc nL fr lo S Rf N) {y : MethodName} {cc2 : ByteArray} {nL2 n2 fr2 lo2 idx : Nat} {ret : FieldType} {f : Option (Int32 × St)} {K : Int32 → St → Option ρ} (As : List Value) (hm : ∀ res, f = some res → MtI X.2.1 y cc2 nL2 ret fr2 lo2 w As σ res) (hy : YS y cc2 nL2 (some ret) n2) (lk : Cond.methodLink own idx y ∈ gw) (hn : As.length = n2) (hroom : Nat.ble (fr2 + 1) fr = true ∧ Nat.ble (8 + (nL2 + 11) + lo2) lo = true) (hst : Nat.ble (st.map fun v => v.category).sum 8 = true) (d : decode cc pc = .ok (.invokestatic idx, 3)) (k : ∀ r σ', RF X w (Aw w (xs_ X).heap.size) nL Qf (K r σ') (pc + 3) lv (.int r :: st) σ') : RF X w (Aw w (xs_ X).heap.size) nL Qf (bd f K) pc lv (As.reverse ++ st) σ := by
  obtain ⟨p, l, e, R, s, m, args, below, meth, c, cells, slots⟩ := X
  obtain ⟨⟨hx, hb, hml, hown, hts⟩, hK, hA, hlk, hD, hR, hW, hX⟩ := hC
  dsimp only at hx hb hml hown hts hK hA hlk hR hm
  intro res hr H locs ls hP hS hl
  show W p l e R s m args below meth c H locs cells slots (Qf res) (F0 m pc ls _)
  cases hf : f with
  | none => rw [hf] at hr; cases hr
  | some r2 =>
    rw [hf] at hr
    have hM := hm r2 hf H.size
    obtain ⟨y1, y2, y4, y5⟩ := hy
    refine va_calli (va_runS (As := As) (rest := st) ⟨hx, hb, hml, hown, hts⟩ hM ⟨callB_of n2 hts (gw_cons y1) rfl rfl rfl (hts _ y4) (hts _ lk) y5 ⟨Nat.le_trans (Nat.le_of_ble_eq_true hroom.1) hR.1, Nat.le_trans (Nat.le_of_ble_eq_true hroom.2) hR.2.1⟩, hts _ y2⟩ ⟨Pw_blind, fun U hU hW2 => ⟨rfl, by rw [hU], by rw [hU]; exact hP, va_K.moved hW2.alike hK, (hD σ).weaken (fun _ _ _ _ => trivial), hX.next hS hU hW2 (fun q9 h => Aw_mono hS.1 q9 h)⟩⟩ rfl hn hl.1 rfl (lv_room (Nat.le_of_ble_eq_true hst)) d ⟨hR.2.2.1, hR.2.2.2⟩) hS (fun q9 _ h => Aw_mono hS.1 q9 h) (fun q9 h => Aw_mono hS.1 q9 h) (fun r u t H1 locs1 ht hvm hw hB hz1 hk1 hS1 => ?_)
    subst hw
    exact k r u res hr H1 locs1 ls (by rw [← ht]; exact hB.1) hS1 hl
theorem r_callSL {X : Mc} {w : Wd} {own : String} {cc : ByteArray} {nL fr lo : Nat} {S : Nat → Nat × Nat} {Rf : Nat → Nat → Option Nat} {N : Nat} {ρ : Type} {Qf : ρ → State → Prop} {pc : Nat} {lv : List (Nat × Value)} {st : List Value} {σ : St} (hC : Cok X w (Aw w (xs_ X).heap.size) own cc nL fr lo S Rf N) {y : MethodName} {cc2 : ByteArray} {nL2 n2 fr2 lo2 idx : Nat} {ret : FieldType} {f : Option (Int64 × St)} {K : Int64 → St → Option ρ} (As : List Value) (hm : ∀ res, f = some res → MtL X.2.1 y cc2 nL2 ret fr2 lo2 w As σ res) (hy : YS y cc2 nL2 (some ret) n2) (lk : Cond.methodLink own idx y ∈ gw) (hn : As.length = n2) (hroom : Nat.ble (fr2 + 1) fr = true ∧ Nat.ble (8 + (nL2 + 11) + lo2) lo = true) (hst : Nat.ble (st.map fun v => v.category).sum 8 = true) (d : decode cc pc = .ok (.invokestatic idx, 3)) (k : ∀ r σ', RF X w (Aw w (xs_ X).heap.size) nL Qf (K r σ') (pc + 3) lv (.long r :: st) σ') : RF X w (Aw w (xs_ X).heap.size) nL Qf (bd f K) pc lv (As.reverse ++ st) σ := by
  obtain ⟨p, l, e, R, s, m, args, below, meth, c, cells, slots⟩ := X
  obtain ⟨⟨hx, hb, hml, hown, hts⟩, hK, hA, hlk, hD, hR, hW, hX⟩ := hC
  dsimp only at hx hb hml hown hts hK hA hlk hR hm
  intro res hr H locs ls hP hS hl
  show W p l e R s m args below meth c H locs cells slots (Qf res) (F0 m pc ls _)
  cases hf : f with
  | none => rw [hf] at hr; cases hr
  | some r2 =>
    rw [hf] at hr
    have hM := hm r2 hf H.size
    obtain ⟨y1, y2, y4, y5⟩ := hy
    refine va_calll (va_runS (As := As) (rest := st) ⟨hx, hb, hml, hown, hts⟩ hM ⟨callB_of n2 hts (gw_cons y1) rfl rfl rfl (hts _ y4) (hts _ lk) y5 ⟨Nat.le_trans (Nat.le_of_ble_eq_true hroom.1) hR.1, Nat.le_trans (Nat.le_of_ble_eq_true hroom.2) hR.2.1⟩, hts _ y2⟩ ⟨Pw_blind, fun U hU hW2 => ⟨rfl, by rw [hU], by rw [hU]; exact hP, va_K.moved hW2.alike hK, (hD σ).weaken (fun _ _ _ _ => trivial), hX.next hS hU hW2 (fun q9 h => Aw_mono hS.1 q9 h)⟩⟩ rfl hn hl.1 rfl (lv_room (Nat.le_of_ble_eq_true hst)) d ⟨hR.2.2.1, hR.2.2.2⟩) hS (fun q9 _ h => Aw_mono hS.1 q9 h) (fun q9 h => Aw_mono hS.1 q9 h) (fun r u t H1 locs1 ht hvm hw hB hz1 hk1 hS1 => ?_)
    subst hw
    exact k r u res hr H1 locs1 ls (by rw [← ht]; exact hB.1) hS1 hl
theorem r_callSV {X : Mc} {w : Wd} {own : String} {cc : ByteArray} {nL fr lo : Nat} {S : Nat → Nat × Nat} {Rf : Nat → Nat → Option Nat} {N : Nat} {ρ : Type} {Qf : ρ → State → Prop} {pc : Nat} {lv : List (Nat × Value)} {st : List Value} {σ : St} (hC : Cok X w (Aw w (xs_ X).heap.size) own cc nL fr lo S Rf N) {y : MethodName} {cc2 : ByteArray} {nL2 n2 fr2 lo2 idx : Nat} {f : Option St} {K : St → Option ρ} (As : List Value) (hm : ∀ res, f = some res → MtV X.2.1 y cc2 nL2 fr2 lo2 w As σ res) (hy : YS y cc2 nL2 none n2) (lk : Cond.methodLink own idx y ∈ gw) (hn : As.length = n2) (hroom : Nat.ble (fr2 + 1) fr = true ∧ Nat.ble (8 + (nL2 + 11) + lo2) lo = true) (hst : Nat.ble (st.map fun v => v.category).sum 8 = true) (d : decode cc pc = .ok (.invokestatic idx, 3)) (k : ∀ σ', RF X w (Aw w (xs_ X).heap.size) nL Qf (K σ') (pc + 3) lv st σ') : RF X w (Aw w (xs_ X).heap.size) nL Qf (bdv f K) pc lv (As.reverse ++ st) σ := by
  obtain ⟨p, l, e, R, s, m, args, below, meth, c, cells, slots⟩ := X
  obtain ⟨⟨hx, hb, hml, hown, hts⟩, hK, hA, hlk, hD, hR, hW, hX⟩ := hC
  dsimp only at hx hb hml hown hts hK hA hlk hR hm
  intro res hr H locs ls hP hS hl
  show W p l e R s m args below meth c H locs cells slots (Qf res) (F0 m pc ls _)
  cases hf : f with
  | none => rw [hf] at hr; cases hr
  | some r2 =>
    rw [hf] at hr
    have hM := hm r2 hf H.size
    obtain ⟨y1, y2, y4, y5⟩ := hy
    refine va_callv (va_runS (As := As) (rest := st) ⟨hx, hb, hml, hown, hts⟩ hM ⟨callB_of n2 hts (gw_cons y1) rfl rfl rfl (hts _ y4) (hts _ lk) y5 ⟨Nat.le_trans (Nat.le_of_ble_eq_true hroom.1) hR.1, Nat.le_trans (Nat.le_of_ble_eq_true hroom.2) hR.2.1⟩, hts _ y2⟩ ⟨Pw_blind, fun U hU hW2 => ⟨rfl, by rw [hU], by rw [hU]; exact hP, va_K.moved hW2.alike hK, (hD σ).weaken (fun _ _ _ _ => trivial), hX.next hS hU hW2 (fun q9 h => Aw_mono hS.1 q9 h)⟩⟩ rfl hn hl.1 rfl (lv_room (Nat.le_of_ble_eq_true hst)) d ⟨hR.2.2.1, hR.2.2.2⟩) hS (fun q9 _ h => Aw_mono hS.1 q9 h) (fun q9 h => Aw_mono hS.1 q9 h) (fun u t H1 locs1 ht hvm hw hB hz1 hk1 hS1 => ?_)
    subst hw
    exact k u res hr H1 locs1 ls (by rw [← ht]; exact hB.1) hS1 hl
