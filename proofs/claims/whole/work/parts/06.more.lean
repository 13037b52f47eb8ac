abbrev inb (i : Int32) (n : Nat) : Prop := ¬ (i < 0 ∨ n ≤ i.toNatClampNeg)
def bp {α ρ : Type} (f : Option α) (K : α → Option ρ) : Option ρ := match f with
  | none => none
  | some r => K r
def mo {ρ : Type} (q : Option Nat) (P : Option ρ) (K : Nat → Option ρ) : Option ρ := match q with
  | none => P
  | some c => K c
section RFMORE
variable {X : Mc} {w : Wd} {A : Nat → Prop} {own : String} {cc : ByteArray} {nL fr lo : Nat} {S : Nat → Nat × Nat} {Rf : Nat → Nat → Option Nat} {N : Nat} {ρ : Type} {Qf : ρ → State → Prop} {P P' : Option ρ} {pc : Nat} {lv lv' : List (Nat × Value)} {st : List Value} {σ : St}
theorem r_lv (ks : List Nat) (h : lv_pick lv ks = lv') (k : RF X w A nL Qf P pc lv' st σ) : RF X w A nL Qf P pc lv st σ := fun res hr H locs ls hP hS hl => k res hr H locs ls hP hS (lv_sub hl ks h)
theorem r_mo {q : Option Nat} {K : Nat → Option ρ} (kn : RF X w A nL Qf P pc lv (.null :: st) σ) (ks : ∀ c, RF X w A nL Qf (K c) pc lv (.ref (wA w c) :: st) σ) : RF X w A nL Qf (mo q P K) pc lv (va_rf (q.map (wA w)) :: st) σ := by
  cases q with
  | none => exact kn
  | some c => exact ks c
theorem r_ifnonnull (hC : Cok X w A own cc nL fr lo S Rf N) {a : Nat} {off : Int} (tgt : Nat) (d : decode cc pc = .ok (.ifnonnull off, 3)) (ht : (pc : Int) + off = (tgt : Int)) (k : RF X w A nL Qf P tgt lv st σ) : RF X w A nL Qf P pc lv (.ref a :: st) σ := by
  obtain ⟨p, l, e, R, s, m, args, below, meth, c, cells, slots⟩ := X
  obtain ⟨⟨hx, hb, hml, hown, hts⟩, hK, hA, hlk, hD, hR, hW, hX⟩ := hC
  dsimp only at hx hb hml hown hts hK hA hlk hR
  intro res hr H locs ls hP hS hl
  show W p l e R s m args below meth c H locs cells slots (Qf res) (F0 m pc ls _)
  exact lv_ifnonnull hx hb d ht (k res hr H locs ls hP hS hl)
theorem r_ifnonnullN (hC : Cok X w A own cc nL fr lo S Rf N) {off : Int} (d : decode cc pc = .ok (.ifnonnull off, 3)) (k : RF X w A nL Qf P (pc + 3) lv st σ) : RF X w A nL Qf P pc lv (.null :: st) σ := by
  obtain ⟨p, l, e, R, s, m, args, below, meth, c, cells, slots⟩ := X
  obtain ⟨⟨hx, hb, hml, hown, hts⟩, hK, hA, hlk, hD, hR, hW, hX⟩ := hC
  dsimp only at hx hb hml hown hts hK hA hlk hR
  intro res hr H locs ls hP hS hl
  show W p l e R s m args below meth c H locs cells slots (Qf res) (F0 m pc ls _)
  exact lv_ifnonnullN hx hb d (k res hr H locs ls hP hS hl)
theorem r_putD (hC : Cok X w A own cc nL fr lo S Rf N) {ci : Nat} {C : String} {T : u_T} {n : Nat} {ty : Nat → FieldType} (hc : ClsOk ci C T n ty) {idx : Nat} (k j : Nat) {c2 : Nat} {D2 : String} (hf : fkd ci j = 3) (hty : ty j = .object D2) (hs : S k = (0, ci)) (hn : k < wN w) (hj : Nat.blt j n = true) (hfin : (T j).2.2.2 = false) (lk : Cond.fieldLink own idx (T j).1 (T j).2.1 (T j).2.2.1 ∈ gw) (d : decode cc pc = .ok (.putfield idx, 3)) (kk : RF X w A nL Qf P (pc + 3) lv st (sR σ k j (some c2))) : RF X w A nL Qf P pc lv (.ref (wA w c2) :: .ref (wA w k) :: st) σ := by
  obtain ⟨p, l, e, R, s, m, args, below, meth, c, cells, slots⟩ := X
  obtain ⟨⟨hx, hb, hml, hown, hts⟩, hK, hA, hlk, hD, hR, hW, hX⟩ := hC
  dsimp only at hx hb hml hown hts hK hA hlk hR
  intro res hr H locs ls hP hS hl
  show W p l e R s m args below meth c H locs cells slots (Qf res) (F0 m pc ls _)
  refine va_put (ty := .object D2) hx hb hts hc.ws ty hc.ty hc.nm hown hK hP (hD σ) hS k ((wls_get hn).trans (by rw [went_0 (hW.sh hs)])) hc.cl j (Nat.le_of_ble_eq_true hj) (hts _ lk) (fun _ h9 => h9) hfin (by rw [hc.ty j (Nat.le_of_ble_eq_true hj), hty]) rfl rfl (by simp [hc.nf]; exact Nat.le_of_ble_eq_true hj) d (fun H1 locs1 h1 _ h3 => ?_)
  rw [wls_set (σ' := sR σ k j (some c2)) (by rw [went_0 (hW.sh hs), fput (σ' := sR σ k j (some c2)) (by rw [fv_3 hf, sR_at]; rfl) sR_fv]) sR_ne] at h1
  exact kk res hr H1 locs1 ls h1 h3 hl
/-- methods that only read -/
theorem r_iretP (hC : Cok X w (Aw w (xs_ X).heap.size) own cc nL fr lo S Rf N) {r : Int32} {ret : FieldType} (hret : (xmeth X).sig.returnType = some ret) (hn : narrow ret (.int r) = .int r) (d : decode cc pc = .ok (.ireturn, 1)) : RF X w (Aw w (xs_ X).heap.size) nL (fun r => QI X w (r, σ)) (some r) pc lv [.int r] σ := fun res hr => by
  cases hr
  exact r_iret hC hret hn d (r, σ) rfl
theorem r_lretP (hC : Cok X w (Aw w (xs_ X).heap.size) own cc nL fr lo S Rf N) {r : Int64} (hret : (xmeth X).sig.returnType = some .long) (d : decode cc pc = .ok (.lreturn, 1)) : RF X w (Aw w (xs_ X).heap.size) nL (fun r => QL X w (r, σ)) (some r) pc lv [.long r] σ := fun res hr => by
  cases hr
  exact r_lret hC hret d (r, σ) rfl
end RFMORE
theorem mt_P {l : Launch} {y : MethodName} {cc : ByteArray} {nL : Nat} {ret : FieldType} {fr lo : Nat} {w : Wd} {av : List Value} {σ : St} {S : Nat → Nat × Nat} {Rf : Nat → Nat → Option Nat} {N : Nat} {P : Option Int32} (hy : plainName y.cls = true) (hav : Nat.ble (lg_sl av).length nL = true) (hW : HWd w S Rf N)
    (body : ∀ X : Mc, X.2.1 = l → Cok X w (Aw w (xs_ X).heap.size) y.cls cc nL fr lo S Rf N → (xmeth X).sig.returnType = some ret → RF X w (Aw w (xs_ X).heap.size) nL (fun r => QI X w (r, σ)) P 0 (lv_args 0 av) [] σ) : ∀ r, P = some r → MtI l y cc nL ret fr lo w av σ (r, σ) := by
  intro r hr
  exact mt_I (P := some (r, σ)) hy hav hW (fun X h1 h2 h3 => fun res hres => by cases hres; exact body X h1 h2 h3 r hr) (r, σ) rfl
theorem mt_PL {l : Launch} {y : MethodName} {cc : ByteArray} {nL : Nat} {ret : FieldType} {fr lo : Nat} {w : Wd} {av : List Value} {σ : St} {S : Nat → Nat × Nat} {Rf : Nat → Nat → Option Nat} {N : Nat} {P : Option Int64} (hy : plainName y.cls = true) (hav : Nat.ble (lg_sl av).length nL = true) (hW : HWd w S Rf N)
    (body : ∀ X : Mc, X.2.1 = l → Cok X w (Aw w (xs_ X).heap.size) y.cls cc nL fr lo S Rf N → (xmeth X).sig.returnType = some ret → RF X w (Aw w (xs_ X).heap.size) nL (fun r => QL X w (r, σ)) P 0 (lv_args 0 av) [] σ) : ∀ r, P = some r → MtL l y cc nL ret fr lo w av σ (r, σ) := by
  intro r hr
  exact mt_L (P := some (r, σ)) hy hav hW (fun X h1 h2 h3 => fun res hres => by cases hres; exact body X h1 h2 h3 r hr) (r, σ) rfl
theorem r_callVP {X : Mc} {w : Wd} {own : String} {cc : ByteArray} {nL fr lo : Nat} {S : Nat → Nat × Nat} {Rf : Nat → Nat → Option Nat} {N : Nat} {ρ : Type} {Qf : ρ → State → Prop} {pc : Nat} {lv : List (Nat × Value)} {st : List Value} {σ : St} (hC : Cok X w (Aw w (xs_ X).heap.size) own cc nL fr lo S Rf N) {y : MethodName} {cc2 : ByteArray} {nL2 n2 fr2 lo2 idx : Nat} {ret : FieldType} {f : Option Int32} {K : Int32 → Option ρ} {b ci : Nat} {q : vw_C} (As : List Value) (hs : S b = (0, ci)) (hb0 : b < wN w) (hcl : classes[ci]? = some q) (hq : q.1 = y.cls) (hm : ∀ r, f = some r → MtI X.2.1 y cc2 nL2 ret fr2 lo2 w (.ref (wA w b) :: As) σ (r, σ)) (hy : YV y cc2 nL2 (some ret) n2) (lk : Cond.methodLink own idx y ∈ gw) (hn : As.length = n2) (hroom : Nat.ble (fr2 + 1) fr = true ∧ Nat.ble (8 + (nL2 + 11) + lo2) lo = true) (hst : Nat.ble (st.map fun v => v.category).sum 8 = true) (d : decode cc pc = .ok (.invokevirtual idx, 3)) (k : ∀ r, RF X w (Aw w (xs_ X).heap.size) nL Qf (K r) (pc + 3) lv (.int r :: st) σ) : RF X w (Aw w (xs_ X).heap.size) nL Qf (bp f K) pc lv (As.reverse ++ .ref (wA w b) :: st) σ := by
  cases hf : f with
  | none => exact r_none
  | some r2 =>
    have hM := hm r2 hf
    exact r_callVI hC (f := some (r2, σ)) (K := fun r σ' => @ite _ (σ' = σ) (Classical.propDecidable _) (K r) none) As hs hb0 hcl hq (fun res hres => by cases hres; exact hM) hy lk hn hroom hst d (fun r σ' => by
      by_cases e : σ' = σ
      · subst e; simp only [if_true]; exact k r
      · simp only [if_neg e]; exact r_none) |> (fun z => by simpa [bd, bp] using z)
theorem r_callVQ {X : Mc} {w : Wd} {own : String} {cc : ByteArray} {nL fr lo : Nat} {S : Nat → Nat × Nat} {Rf : Nat → Nat → Option Nat} {N : Nat} {ρ : Type} {Qf : ρ → State → Prop} {pc : Nat} {lv : List (Nat × Value)} {st : List Value} {σ : St} (hC : Cok X w (Aw w (xs_ X).heap.size) own cc nL fr lo S Rf N) {y : MethodName} {cc2 : ByteArray} {nL2 n2 fr2 lo2 idx : Nat} {ret : FieldType} {f : Option Int64} {K : Int64 → Option ρ} {b ci : Nat} {q : vw_C} (As : List Value) (hs : S b = (0, ci)) (hb0 : b < wN w) (hcl : classes[ci]? = some q) (hq : q.1 = y.cls) (hm : ∀ r, f = some r → MtL X.2.1 y cc2 nL2 ret fr2 lo2 w (.ref (wA w b) :: As) σ (r, σ)) (hy : YV y cc2 nL2 (some ret) n2) (lk : Cond.methodLink own idx y ∈ gw) (hn : As.length = n2) (hroom : Nat.ble (fr2 + 1) fr = true ∧ Nat.ble (8 + (nL2 + 11) + lo2) lo = true) (hst : Nat.ble (st.map fun v => v.category).sum 8 = true) (d : decode cc pc = .ok (.invokevirtual idx, 3)) (k : ∀ r, RF X w (Aw w (xs_ X).heap.size) nL Qf (K r) (pc + 3) lv (.long r :: st) σ) : RF X w (Aw w (xs_ X).heap.size) nL Qf (bp f K) pc lv (As.reverse ++ .ref (wA w b) :: st) σ := by
  cases hf : f with
  | none => exact r_none
  | some r2 =>
    have hM := hm r2 hf
    exact r_callVL hC (f := some (r2, σ)) (K := fun r σ' => @ite _ (σ' = σ) (Classical.propDecidable _) (K r) none) As hs hb0 hcl hq (fun res hres => by cases hres; exact hM) hy lk hn hroom hst d (fun r σ' => by
      by_cases e : σ' = σ
      · subst e; simp only [if_true]; exact k r
      · simp only [if_neg e]; exact r_none) |> (fun z => by simpa [bd, bp] using z)
theorem r_callSP {X : Mc} {w : Wd} {own : String} {cc : ByteArray} {nL fr lo : Nat} {S : Nat → Nat × Nat} {Rf : Nat → Nat → Option Nat} {N : Nat} {ρ : Type} {Qf : ρ → State → Prop} {pc : Nat} {lv : List (Nat × Value)} {st : List Value} {σ : St} (hC : Cok X w (Aw w (xs_ X).heap.size) own cc nL fr lo S Rf N) {y : MethodName} {cc2 : ByteArray} {nL2 n2 fr2 lo2 idx : Nat} {ret : FieldType} {f : Option Int32} {K : Int32 → Option ρ} (As : List Value) (hm : ∀ r, f = some r → MtI X.2.1 y cc2 nL2 ret fr2 lo2 w As σ (r, σ)) (hy : YS y cc2 nL2 (some ret) n2) (lk : Cond.methodLink own idx y ∈ gw) (hn : As.length = n2) (hroom : Nat.ble (fr2 + 1) fr = true ∧ Nat.ble (8 + (nL2 + 11) + lo2) lo = true) (hst : Nat.ble (st.map fun v => v.category).sum 8 = true) (d : decode cc pc = .ok (.invokestatic idx, 3)) (k : ∀ r, RF X w (Aw w (xs_ X).heap.size) nL Qf (K r) (pc + 3) lv (.int r :: st) σ) : RF X w (Aw w (xs_ X).heap.size) nL Qf (bp f K) pc lv (As.reverse ++ st) σ := by
  cases hf : f with
  | none => exact r_none
  | some r2 =>
    have hM := hm r2 hf
    exact r_callSI hC (f := some (r2, σ)) (K := fun r σ' => @ite _ (σ' = σ) (Classical.propDecidable _) (K r) none) As (fun res hres => by cases hres; exact hM) hy lk hn hroom hst d (fun r σ' => by
      by_cases e : σ' = σ
      · subst e; simp only [if_true]; exact k r
      · simp only [if_neg e]; exact r_none) |> (fun z => by simpa [bd, bp] using z)
theorem r_callSQ {X : Mc} {w : Wd} {own : String} {cc : ByteArray} {nL fr lo : Nat} {S : Nat → Nat × Nat} {Rf : Nat → Nat → Option Nat} {N : Nat} {ρ : Type} {Qf : ρ → State → Prop} {pc : Nat} {lv : List (Nat × Value)} {st : List Value} {σ : St} (hC : Cok X w (Aw w (xs_ X).heap.size) own cc nL fr lo S Rf N) {y : MethodName} {cc2 : ByteArray} {nL2 n2 fr2 lo2 idx : Nat} {ret : FieldType} {f : Option Int64} {K : Int64 → Option ρ} (As : List Value) (hm : ∀ r, f = some r → MtL X.2.1 y cc2 nL2 ret fr2 lo2 w As σ (r, σ)) (hy : YS y cc2 nL2 (some ret) n2) (lk : Cond.methodLink own idx y ∈ gw) (hn : As.length = n2) (hroom : Nat.ble (fr2 + 1) fr = true ∧ Nat.ble (8 + (nL2 + 11) + lo2) lo = true) (hst : Nat.ble (st.map fun v => v.category).sum 8 = true) (d : decode cc pc = .ok (.invokestatic idx, 3)) (k : ∀ r, RF X w (Aw w (xs_ X).heap.size) nL Qf (K r) (pc + 3) lv (.long r :: st) σ) : RF X w (Aw w (xs_ X).heap.size) nL Qf (bp f K) pc lv (As.reverse ++ st) σ := by
  cases hf : f with
  | none => exact r_none
  | some r2 =>
    have hM := hm r2 hf
    exact r_callSL hC (f := some (r2, σ)) (K := fun r σ' => @ite _ (σ' = σ) (Classical.propDecidable _) (K r) none) As (fun res hres => by cases hres; exact hM) hy lk hn hroom hst d (fun r σ' => by
      by_cases e : σ' = σ
      · subst e; simp only [if_true]; exact k r
      · simp only [if_neg e]; exact r_none) |> (fun z => by simpa [bd, bp] using z)
