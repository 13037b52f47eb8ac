/-! STRING CONSTANTS: rows, and the JDK's methods on them -/
section RFSTR
variable {X : Mc} {w : Wd} {A : Nat → Prop} {own : String} {cc : ByteArray} {nL fr lo : Nat} {S : Nat → Nat × Nat} {Rf : Nat → Nat → Option Nat} {N : Nat} {ρ : Type} {Qf : ρ → State → Prop} {P P' : Option ρ} {pc : Nat} {lv lv' : List (Nat × Value)} {st : List Value} {σ : St}
theorem r_ldcS {tx : String} {idx i : Nat} (hC : Cok X w A own cc nL fr lo S Rf N) (hR : Sx w A (xs_ X) (xs_ X).heap → vk_R own idx tx (wK w i) (xs_ X)) (d : decode cc pc = .ok (.ldc idx, 2)) (k : RF X w A nL Qf P (pc + 2) lv (.ref (wK w i) :: st) σ) : RF X w A nL Qf P pc lv st σ := by
  obtain ⟨p, l, e, R, s, m, args, below, meth, c, cells, slots⟩ := X
  obtain ⟨⟨hx, hb, hml, hown, hts⟩, hK, hA, hlk, hD, hR9, hW, hX⟩ := hC
  dsimp only at hx hb hml hown hts hK hA hlk hR9
  intro res hr H locs ls hP hS hl
  show W p l e R s m args below meth c H locs cells slots (Qf res) (F0 m pc ls _)
  exact va_ldcS hx hb hown (hR hX) d (k res hr H locs ls hP hS hl)
theorem r_strV (hC : Cok X w A own cc nL fr lo S Rf N) {idx : Nat} (i : Nat) (hi : i < 3) (lk : Cond.fieldLink own idx "java/lang/String" "value" "[B" ∈ gw) (d : decode cc pc = .ok (.getfield idx, 3)) (k : RF X w A nL Qf P (pc + 3) lv (.ref (wV w i) :: st) σ) : RF X w A nL Qf P pc lv (.ref (wK w i) :: st) σ := by
  obtain ⟨p, l, e, R, s, m, args, below, meth, c, cells, slots⟩ := X
  obtain ⟨⟨hx, hb, hml, hown, hts⟩, hK, hA, hlk, hD, hR9, hW, hX⟩ := hC
  dsimp only at hx hb hml hown hts hK hA hlk hR9
  intro res hr H locs ls hP hS hl
  show W p l e R s m args below meth c H locs cells slots (Qf res) (F0 m pc ls _)
  exact vk_getf hx hb (hX.1.1 i hi).2.2.1 hS hown (hts _ lk) (fun _ h9 => h9) d (k res hr H locs ls hP hS hl)
theorem r_strC (hC : Cok X w A own cc nL fr lo S Rf N) {idx : Nat} (i : Nat) (hi : i < 3) (lk : Cond.fieldLink own idx "java/lang/String" "coder" "B" ∈ gw) (d : decode cc pc = .ok (.getfield idx, 3)) (k : RF X w A nL Qf P (pc + 3) lv (.int 0 :: st) σ) : RF X w A nL Qf P pc lv (.ref (wK w i) :: st) σ := by
  obtain ⟨p, l, e, R, s, m, args, below, meth, c, cells, slots⟩ := X
  obtain ⟨⟨hx, hb, hml, hown, hts⟩, hK, hA, hlk, hD, hR9, hW, hX⟩ := hC
  dsimp only at hx hb hml hown hts hK hA hlk hR9
  intro res hr H locs ls hP hS hl
  show W p l e R s m args below meth c H locs cells slots (Qf res) (F0 m pc ls _)
  exact vk_getf hx hb (hX.1.1 i hi).2.1 hS hown (hts _ lk) (fun _ h9 => h9) d (k res hr H locs ls hP hS hl)
theorem r_strL (hC : Cok X w A own cc nL fr lo S Rf N) (i : Nat) (hi : i < 3) (d : decode cc pc = .ok (.arraylength, 1)) (k : RF X w A nL Qf P (pc + 1) lv (.int (Int32.ofNat (slen.getD i 0)) :: st) σ) : RF X w A nL Qf P pc lv (.ref (wV w i) :: st) σ := by
  obtain ⟨p, l, e, R, s, m, args, below, meth, c, cells, slots⟩ := X
  obtain ⟨⟨hx, hb, hml, hown, hts⟩, hK, hA, hlk, hD, hR9, hW, hX⟩ := hC
  dsimp only at hx hb hml hown hts hK hA hlk hR9
  intro res hr H locs ls hP hS hl
  show W p l e R s m args below meth c H locs cells slots (Qf res) (F0 m pc ls _)
  exact va_tlen hx hb (hX.1.1 i hi).2.2.2 hS rfl d (k res hr H locs ls hP hS hl)
theorem r_strB (hC : Cok X w A own cc nL fr lo S Rf N) {j : Int32} (i : Nat) (hi : i < 3) (hj : inb j (slen.getD i 0)) (d : decode cc pc = .ok (.baload, 1)) (k : RF X w A nL Qf P (pc + 1) lv (.int ((sbyt.getD i []).getD j.toNatClampNeg 0) :: st) σ) : RF X w A nL Qf P pc lv (.int j :: .ref (wV w i) :: st) σ := by
  obtain ⟨p, l, e, R, s, m, args, below, meth, c, cells, slots⟩ := X
  obtain ⟨⟨hx, hb, hml, hown, hts⟩, hK, hA, hlk, hD, hR9, hW, hX⟩ := hC
  dsimp only at hx hb hml hown hts hK hA hlk hR9
  intro res hr H locs ls hP hS hl
  show W p l e R s m args below meth c H locs cells slots (Qf res) (F0 m pc ls _)
  exact va_tb hx hb (hX.1.1 i hi).2.2.2 hS hj rfl d (k res hr H locs ls hP hS hl)
theorem r_gets1 (hC : Cok X w A own cc nL fr lo S Rf N) {idx : Nat} (lk : Cond.fieldLink own idx "java/lang/String" "COMPACT_STRINGS" "Z" ∈ gw) (d : decode cc pc = .ok (.getstatic idx, 3)) (k : RF X w A nL Qf P (pc + 3) lv (.int 1 :: st) σ) : RF X w A nL Qf P pc lv st σ := by
  obtain ⟨p, l, e, R, s, m, args, below, meth, c, cells, slots⟩ := X
  obtain ⟨⟨hx, hb, hml, hown, hts⟩, hK, hA, hlk, hD, hR9, hW, hX⟩ := hC
  dsimp only at hx hb hml hown hts hK hA hlk hR9
  intro res hr H locs ls hP hS hl
  show W p l e R s m args below meth c H locs cells slots (Qf res) (F0 m pc ls _)
  exact va_gets hx hb hX.2.2.1 hS hown (hts _ lk) (fun _ h9 => h9) d (k res hr H locs ls hP hS hl)
theorem r_getsF (hC : Cok X w A own cc nL fr lo S Rf N) {idx : Nat} (lk : Cond.fieldLink own idx "jdk/internal/util/Preconditions" "SIOOBE_FORMATTER" "Ljava/util/function/BiFunction;" ∈ gw) (d : decode cc pc = .ok (.getstatic idx, 3)) (k : ∀ v : Value, (v = .null ∨ ∃ t, v = .ref t) → RF X w A nL Qf P (pc + 3) lv (v :: st) σ) : RF X w A nL Qf P pc lv st σ := by
  obtain ⟨p, l, e, R, s, m, args, below, meth, c, cells, slots⟩ := X
  obtain ⟨⟨hx, hb, hml, hown, hts⟩, hK, hA, hlk, hD, hR9, hW, hX⟩ := hC
  dsimp only at hx hb hml hown hts hK hA hlk hR9
  intro res hr H locs ls hP hS hl
  show W p l e R s m args below meth c H locs cells slots (Qf res) (F0 m pc ls _)
  rcases hX.2.2.2 with h9 | ⟨t, h9⟩
  · exact va_gets hx hb h9 hS hown (hts _ lk) (fun _ h9 => h9) d (k _ (Or.inl rfl) res hr H locs ls hP hS hl)
  · exact va_gets hx hb h9 hS hown (hts _ lk) (fun _ h9 => h9) d (k _ (Or.inr ⟨t, rfl⟩) res hr H locs ls hP hS hl)
theorem r_callTP (hC : Cok X w (Aw w (xs_ X).heap.size) own cc nL fr lo S Rf N) {y : MethodName} {cc2 : ByteArray} {nL2 n2 fr2 lo2 idx : Nat} {ret : FieldType} {f : Option Int32} {K : Int32 → Option ρ} (i : Nat) (hi : i < 3) (As : List Value) (hq : "java/lang/String" = y.cls) (hm : ∀ r, f = some r → MtI X.2.1 y cc2 nL2 ret fr2 lo2 w (.ref (wK w i) :: As) σ (r, σ)) (hy : YV y cc2 nL2 (some ret) n2) (lk : Cond.methodLink own idx y ∈ gw) (hn : As.length = n2) (hroom : Nat.ble (fr2 + 1) fr = true ∧ Nat.ble (8 + (nL2 + 11) + lo2) lo = true) (hst : Nat.ble (st.map fun v => v.category).sum 8 = true) (d : decode cc pc = .ok (.invokevirtual idx, 3)) (k : ∀ r, RF X w (Aw w (xs_ X).heap.size) nL Qf (K r) (pc + 3) lv (.int r :: st) σ) : RF X w (Aw w (xs_ X).heap.size) nL Qf (bp f K) pc lv (As.reverse ++ .ref (wK w i) :: st) σ := by
  obtain ⟨p, l, e, R, s, m, args, below, meth, c, cells, slots⟩ := X
  obtain ⟨⟨hx, hb, hml, hown, hts⟩, hK, hA, hlk, hD, hR, hW, hX⟩ := hC
  dsimp only at hx hb hml hown hts hK hA hlk hR hm
  intro res hr H locs ls hP hS hl
  show W p l e R s m args below meth c H locs cells slots (Qf res) (F0 m pc ls _)
  cases hf : f with
  | none => rw [hf] at hr; cases hr
  | some r2 =>
    rw [hf] at hr
    have hM := hm r2 hf H.size
    obtain ⟨y1, y2, y3, y4, y5⟩ := hy
    refine va_calli (va_runV (C := "java/lang/String") (As := As) (rest := st) ⟨hx, hb, hml, hown, hts⟩ hM ⟨callB_of n2 hts (gw_cons y1) rfl rfl rfl (hts _ y4) (hts _ lk) y5 ⟨Nat.le_trans (Nat.le_of_ble_eq_true hroom.1) hR.1, Nat.le_trans (Nat.le_of_ble_eq_true hroom.2) hR.2.1⟩, hts _ y2, by rw [hq]; exact hts _ y3⟩ ⟨Pw_blind, vk_recv hX.1 hi hS, fun U hU hW2 => ⟨rfl, by rw [hU], by rw [hU]; exact hP, va_K.moved hW2.alike hK, (hD σ).weaken (fun _ _ _ _ => trivial), hX.next hS hU hW2 (fun q9 h => Aw_mono hS.1 q9 h)⟩⟩ rfl hn hl.1 rfl (lv_room (Nat.le_of_ble_eq_true hst)) d ⟨hR.2.2.1, hR.2.2.2⟩) hS (fun q9 _ h => Aw_mono hS.1 q9 h) (fun q9 h => Aw_mono hS.1 q9 h) (fun r u t H1 locs1 ht hvm hw hB hz1 hk1 hS1 => ?_)
    cases hw
    exact k r2 res hr H1 locs1 ls (by rw [← ht]; exact hB.1) hS1 hl
theorem r_callSU (hC : Cok X w (Aw w (xs_ X).heap.size) own cc nL fr lo S Rf N) {y : MethodName} {cc2 : ByteArray} {nL2 n2 fr2 lo2 idx : Nat} {f : Option Unit} (As : List Value) (hm : f = some () → MtV X.2.1 y cc2 nL2 fr2 lo2 w As σ σ) (hy : YS y cc2 nL2 none n2) (lk : Cond.methodLink own idx y ∈ gw) (hn : As.length = n2) (hroom : Nat.ble (fr2 + 1) fr = true ∧ Nat.ble (8 + (nL2 + 11) + lo2) lo = true) (hst : Nat.ble (st.map fun v => v.category).sum 8 = true) (d : decode cc pc = .ok (.invokestatic idx, 3)) (k : RF X w (Aw w (xs_ X).heap.size) nL Qf P (pc + 3) lv st σ) : RF X w (Aw w (xs_ X).heap.size) nL Qf (bp f (fun _ => P)) pc lv (As.reverse ++ st) σ := by
  cases hf : f with
  | none => exact r_none
  | some r2 =>
    have hM := hm hf
    exact r_callSV hC (f := some σ) (K := fun σ' => @ite _ (σ' = σ) (Classical.propDecidable _) P none) As (fun res hres => by cases hres; exact hM) hy lk hn hroom hst d (fun σ' => by
      by_cases e : σ' = σ
      · rw [e, if_pos rfl]; exact k
      · rw [if_neg e]; exact r_none) |> (fun z => by simpa [bdv, bp] using z)
end RFSTR
