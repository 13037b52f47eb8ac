def f_X11_text (nc : Nat) (σ : St) : Option (Int32 × St × Nat) := nm (σ.1 0 9) (fun v1 => (if v1 < 6 then bd (f_X9_findFault σ) (fun v2 σ1 => nm (sI σ1 15 1 0) (fun σ2 => (if v2 = (-1) then nm (σ2.1 0 9) (fun v3 => gd (¬ σ2.1 17 2 < 0 ∧ (σ2.1 17 2).toNatClampNeg < 160 ∧ inb v3 6 ∧ shX nc = (0, 6) ∧ dynOk nc σ2 = true) (nm (sR (ruleSt σ2 nc) 19 v3.toNatClampNeg (some nc)) (fun σ3 => nm (σ3.1 0 9) (fun v4 => nm (sI σ3 0 9 (v4 + 1)) (fun σ4 => nm (σ4.1 0 9) (fun v5 => some (v5 - 1, σ4, nc + 2))))))) else some ((-100) - v2, σ2, nc)))) else some ((-4), σ, nc)))
def ExtW (w w' : Wd) : Prop := (wD w' = wD w ∧ wC w' = wC w ∧ wK w' = wK w ∧ wV w' = wV w) ∧ wH w' = wH w ∧ wR w' = wR w ∧ wN w ≤ wN w' ∧ ∀ c, c < wN w → wA w' c = wA w c
def BwT (w : Wd) (sz : Nat) (u : Wd × St) (t : State) : Prop := va_P (wD u.1) classes (wls u.1 u.2) t.heap ∧ va_K (wD u.1) classes (wty u.1) t ∧ va_D (Aw w sz) (wls u.1 u.2)
def MtT (l : Launch) (w : Wd) (σ : St) (res : Int32 × St × Nat) : Prop := ∀ sz, Met l yX11_text (.code yX11_text cX11_text 2 (some .int) :: gw) (rmc 75 2 162 2814) (va_Pc [.ref (wA w 0)] (Pw w σ sz)) (va_Qi (fun r (u : Wd × St) => (r, u.2, wN u.1) = res ∧ ExtW w u.1) (BwT w sz) (Aw w sz)) 2 162 (Aw w sz)
def QT (X : Mc) (w : Wd) (res : Int32 × St × Nat) : State → Prop := MQ X.2.2.2.2.2.2.2.1 (va_Qi (fun r (u : Wd × St) => (r, u.2, wN u.1) = res ∧ ExtW w u.1) (BwT w (xs_ X).heap.size) (Aw w (xs_ X).heap.size)) X.2.2.2.2.2.2.1 (xs_ X) 2 162 (Aw w (xs_ X).heap.size)
theorem r_iretT {X : Mc} {w w' : Wd} {own : String} {cc : ByteArray} {nL fr lo : Nat} {S : Nat → Nat × Nat} {Rf : Nat → Nat → Option Nat} {N pc : Nat} {lv : List (Nat × Value)} {σ : St} (hC : Cok X w' (Aw w (xs_ X).heap.size) own cc nL fr lo S Rf N) (hE : ExtW w w') {n : Nat} (hn : wN w' = n) {r : Int32} (hret : (xmeth X).sig.returnType = some .int) (hc : X.2.2.2.2.2.2.2.2.2.2.1 ≤ 2 ∧ X.2.2.2.2.2.2.2.2.2.2.2 ≤ 162) (d : decode cc pc = .ok (.ireturn, 1)) : RF X w' (Aw w (xs_ X).heap.size) nL (QT X w) (some (r, σ, n)) pc lv [.int r] σ := by
  obtain ⟨p, l, e, R, s, m, args, below, meth, c, cells, slots⟩ := X
  obtain ⟨⟨hx, hb, hml, hown, hts⟩, hK, hA, hlk, hD, hR, hW, hX⟩ := hC
  dsimp only at hx hb hml hown hts hK hA hlk hR hc
  intro res hr H locs ls hP hS hl
  cases hr
  show W p l e R s m args below meth c H locs cells slots _ (F0 m pc ls _)
  refine W.widen (k := 2) (n := 162) hc.1 hc.2 ?_
  exact W.iret (v := r) hx hb hret (fun t ht hW2 => ⟨⟨r, (w', σ), rfl, ⟨by rw [← hn], hE⟩, by rw [ht]; exact hP, va_K.moved hW2.alike hK, hD σ⟩, hS.F ht⟩) hS.2.2 d hlk
theorem mt_T {l : Launch} {w : Wd} {σ : St} {P : Option (Int32 × St × Nat)} (hW : HWd w shX rX 66)
    (body : ∀ X : Mc, X.2.2.2.2.2.2.2.2.2.2.1 = 0 → X.2.2.2.2.2.2.2.2.2.2.2 = 0 → X.2.2.2.1.cells = 2 ∧ X.2.2.2.1.slots = 162 → Cok X w (Aw w (xs_ X).heap.size) RX11 cX11_text 2 75 2814 shX rX 66 → (xmeth X).sig.returnType = some .int → RF X w (Aw w (xs_ X).heap.size) 2 (QT X w) P 0 [(0, .ref (wA w 0))] [] σ) : ∀ res, P = some res → MtT l w σ res := by
  intro res hres sz
  refine Met.ofW (cc := cX11_text) (maxL := 2) (ret := some .int) (by decide) rfl ?_
  intro p e s m args below meth c s₁ B hml hv
  obtain ⟨rfl, hsz, hP, hK, hD0, hX⟩ := hv
  subst hsz
  have hts := atoms_spec (ws := .code yX11_text cX11_text 2 (some .int) :: gw) B.pre
  have hl := lv_entry [.ref (wA w 0)] (n := 2) (Nat.le_of_ble_eq_true rfl)
  rw [lg_entry_eq]
  exact body (p, l, e, rmc 75 2 162 2814, s, m, #[.ref (wA w 0)], below, meth, c, 0, 0) rfl rfl ⟨rfl, rfl⟩ ⟨⟨B.exec, B.bytes, hml, findClass_of_methodNamed B.named, fun w9 h9 => hts w9 (List.mem_cons_of_mem _ h9)⟩, hK, fun q h => Or.inr h, B.notSynchronized, fun τ => Aw_D hD0 τ, ⟨Nat.le_refl _, Nat.le_refl _, Nat.zero_le _, Nat.zero_le _⟩, hW, hX⟩ B.returns res hres s.heap [] _ hP va_S.rf hl
theorem ExtW.rf {w : Wd} : ExtW w w := ⟨⟨rfl, rfl, rfl, rfl⟩, rfl, rfl, Nat.le_refl _, fun _ _ => rfl⟩
set_option maxHeartbeats 4000000 in
set_option maxRecDepth 100000 in
theorem c_X11_text {l : Launch} {w : Wd} (hW : HWd w shX rX 66) {nc : Nat} (hN : wN w = nc) (σ : St) : ∀ res, f_X11_text nc σ = some res → MtT l w σ res := by
  refine mt_T hW (fun X hc0 hs0 hcap hC hret => ?_)
  unfold f_X11_text
  refine r_aload_n hC dX11_text_0 rfl 0 rfl ?_
  refine r_getI hC clX11 0 9 rfl rfl (hC.n rfl) rfl lf_X11_59 dX11_text_1 ?_
  refine r_nmI (fun v1 => ?_)
  refine r_bipush (v := 6) hC dX11_text_4 (by decide) ?_
  refine r_icmp_lt hC 12 dX11_text_6 (by decide) (fun c1 => ?_) (fun c1 => ?_)
  · refine r_aload_n hC dX11_text_12 rfl 0 rfl ?_
    refine r_getR hC clX11 0 7 17 rfl rfl rfl (hC.n rfl) rfl lf_X11_46 dX11_text_13 ?_
    refine r_callVI hC (b := 17) (ci := 9) (st := []) [] rfl (hC.n rfl) rfl rfl (c_X9_findFault hC.w σ) yk_X9_findFault lm_X11_162 rfl ⟨rfl, rfl⟩ rfl dX11_text_16 (fun v2 σ1 => ?_)
    refine r_istore_n (lv' := [(1, .int v2), (0, .ref (wA w 0))]) hC dX11_text_19 rfl (by decide) rfl ?_
    refine r_aload_n hC dX11_text_20 rfl 1 rfl ?_
    refine r_getR hC clX11 0 6 15 rfl rfl rfl (hC.n rfl) rfl lf_X11_37 dX11_text_21 ?_
    refine r_iconst (v := 0) hC dX11_text_24 (by decide) ?_
    refine r_putI hC clX8 15 1 rfl rfl rfl (hC.n rfl) rfl rfl lf_X11_166 dX11_text_25 ?_
    refine r_nmS (fun σ2 => ?_)
    refine r_iload_n hC dX11_text_28 rfl 0 rfl ?_
    refine r_iconst (v := (-1)) hC dX11_text_29 (by decide) ?_
    refine r_icmp_eq hC 38 dX11_text_30 (by decide) (fun c2 => ?_) (fun c2 => ?_)
    · refine r_aload_n hC dX11_text_38 rfl 1 rfl ?_
      refine r_getR hC clX11 0 8 19 rfl rfl rfl (hC.n rfl) rfl lf_X11_52 dX11_text_39 ?_
      refine r_aload_n hC dX11_text_42 rfl 1 rfl ?_
      refine r_getI hC clX11 0 9 rfl rfl (hC.n rfl) rfl lf_X11_59 dX11_text_43 ?_
      refine r_nmI (fun v3 => ?_)
      refine r_aload_n hC dX11_text_46 rfl 1 rfl ?_
      refine r_getR hC clX11 0 7 17 rfl rfl rfl (hC.n rfl) rfl lf_X11_46 dX11_text_47 ?_
      refine r_gd (fun g => ?_)
      refine r_ruleStore hC rfl hN g.2.2.2.1 g.1 g.2.1 g.2.2.1 g.2.2.2.2 ⟨rfl, rfl⟩ ⟨by rw [hc0, hcap.1]; decide, by rw [hs0, hcap.2]; decide⟩ lm_X11_169 dX11_text_50 dX11_text_53 (fun w' hN' hAo hE4 hC' => ?_)
      have h0 : wA w' 0 = wA w 0 := hAo 0 (by have := hC.w.2.2; omega)
      have hE : ExtW w w' := ⟨hE4, hC'.w.1.trans hC.w.1.symm, hC'.w.2.1.trans hC.w.2.1.symm, by rw [hN', hN]; omega, fun c hc => hAo c (by rw [← hN]; exact hc)⟩
      rw [← h0]
      refine r_nmS (fun σ3 => ?_)
      refine r_aload_n hC' dX11_text_54 rfl 1 rfl ?_
      refine r_dup hC' dX11_text_55 rfl ?_
      refine r_getI hC' clX11 0 9 rfl rfl (hC'.n rfl) rfl lf_X11_59 dX11_text_56 ?_
      refine r_nmI (fun v4 => ?_)
      refine r_iconst (v := 1) hC' dX11_text_59 (by decide) ?_
      refine r_iadd hC' dX11_text_60 ?_
      refine r_putI hC' clX11 0 9 rfl rfl rfl (hC'.n rfl) rfl rfl lf_X11_59 dX11_text_61 ?_
      refine r_nmS (fun σ4 => ?_)
      refine r_aload_n hC' dX11_text_64 rfl 1 rfl ?_
      refine r_getI hC' clX11 0 9 rfl rfl (hC'.n rfl) rfl lf_X11_59 dX11_text_65 ?_
      refine r_nmI (fun v5 => ?_)
      refine r_iconst (v := 1) hC' dX11_text_68 (by decide) ?_
      refine r_isub hC' dX11_text_69 ?_
      exact r_iretT (X := xal X 2 162) hC' hE hN' hret ⟨by show X.2.2.2.2.2.2.2.2.2.2.1 + 2 ≤ 2; omega, by show X.2.2.2.2.2.2.2.2.2.2.2 + 162 ≤ 162; omega⟩ dX11_text_70
    · refine r_bipush (v := (-100)) hC dX11_text_33 (by decide) ?_
      refine r_iload_n hC dX11_text_35 rfl 0 rfl ?_
      refine r_isub hC dX11_text_36 ?_
      exact r_iretT hC ExtW.rf hN hret ⟨by omega, by omega⟩ dX11_text_37
  · refine r_bipush (v := (-4)) hC dX11_text_9 (by decide) ?_
    exact r_iretT hC ExtW.rf hN hret ⟨by omega, by omega⟩ dX11_text_11
