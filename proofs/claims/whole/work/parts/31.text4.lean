theorem lm_X11_162 : Cond.methodLink RX11 162 yX9_findFault ∈ gw := gw_t2 189 rfl rfl
theorem lm_X11_169 : Cond.methodLink RX11 169 yX9_ruleRead ∈ gw := gw_t3 120 rfl rfl
theorem yk_X9_findFault : YV yX9_findFault cX9_findFault 2 (some .int) 0 := ⟨gw_t2 192 rfl rfl, gw_t2 190 rfl rfl, gw_t2 191 rfl rfl, gw_t1 5 rfl rfl, by decide +kernel⟩
theorem yk_ruleRead : YV yX9_ruleRead cX9_ruleRead 1 (some (.object RX6)) 0 := ⟨gw_t3 123 rfl rfl, gw_t3 121 rfl rfl, gw_t3 122 rfl rfl, gw_t1 5 rfl rfl, by decide +kernel⟩
theorem dX11_text_0 : decode cX11_text 0 = .ok (.aload_n 0, 1) := by decide +kernel
theorem dX11_text_1 : decode cX11_text 1 = .ok (.getfield 59, 3) := by decide +kernel
theorem dX11_text_4 : decode cX11_text 4 = .ok (.bipush 6, 2) := by decide +kernel
theorem dX11_text_6 : decode cX11_text 6 = .ok (.if_icmp .lt 6, 3) := by decide +kernel
theorem dX11_text_9 : decode cX11_text 9 = .ok (.bipush (-4), 2) := by decide +kernel
theorem dX11_text_11 : decode cX11_text 11 = .ok (.ireturn, 1) := by decide +kernel
theorem dX11_text_12 : decode cX11_text 12 = .ok (.aload_n 0, 1) := by decide +kernel
theorem dX11_text_13 : decode cX11_text 13 = .ok (.getfield 46, 3) := by decide +kernel
theorem dX11_text_16 : decode cX11_text 16 = .ok (.invokevirtual 162, 3) := by decide +kernel
theorem dX11_text_19 : decode cX11_text 19 = .ok (.istore_n 1, 1) := by decide +kernel
theorem dX11_text_20 : decode cX11_text 20 = .ok (.aload_n 0, 1) := by decide +kernel
theorem dX11_text_21 : decode cX11_text 21 = .ok (.getfield 37, 3) := by decide +kernel
theorem dX11_text_24 : decode cX11_text 24 = .ok (.iconst 0, 1) := by decide +kernel
theorem dX11_text_25 : decode cX11_text 25 = .ok (.putfield 166, 3) := by decide +kernel
theorem dX11_text_28 : decode cX11_text 28 = .ok (.iload_n 1, 1) := by decide +kernel
theorem dX11_text_29 : decode cX11_text 29 = .ok (.iconst (-1), 1) := by decide +kernel
theorem dX11_text_30 : decode cX11_text 30 = .ok (.if_icmp .eq 8, 3) := by decide +kernel
theorem dX11_text_33 : decode cX11_text 33 = .ok (.bipush (-100), 2) := by decide +kernel
theorem dX11_text_35 : decode cX11_text 35 = .ok (.iload_n 1, 1) := by decide +kernel
theorem dX11_text_36 : decode cX11_text 36 = .ok (.isub, 1) := by decide +kernel
theorem dX11_text_37 : decode cX11_text 37 = .ok (.ireturn, 1) := by decide +kernel
theorem dX11_text_38 : decode cX11_text 38 = .ok (.aload_n 0, 1) := by decide +kernel
theorem dX11_text_39 : decode cX11_text 39 = .ok (.getfield 52, 3) := by decide +kernel
theorem dX11_text_42 : decode cX11_text 42 = .ok (.aload_n 0, 1) := by decide +kernel
theorem dX11_text_43 : decode cX11_text 43 = .ok (.getfield 59, 3) := by decide +kernel
theorem dX11_text_46 : decode cX11_text 46 = .ok (.aload_n 0, 1) := by decide +kernel
theorem dX11_text_47 : decode cX11_text 47 = .ok (.getfield 46, 3) := by decide +kernel
theorem dX11_text_50 : decode cX11_text 50 = .ok (.invokevirtual 169, 3) := by decide +kernel
theorem dX11_text_53 : decode cX11_text 53 = .ok (.aastore, 1) := by decide +kernel
theorem dX11_text_54 : decode cX11_text 54 = .ok (.aload_n 0, 1) := by decide +kernel
theorem dX11_text_55 : decode cX11_text 55 = .ok (.dup, 1) := by decide +kernel
theorem dX11_text_56 : decode cX11_text 56 = .ok (.getfield 59, 3) := by decide +kernel
theorem dX11_text_59 : decode cX11_text 59 = .ok (.iconst 1, 1) := by decide +kernel
theorem dX11_text_60 : decode cX11_text 60 = .ok (.iadd, 1) := by decide +kernel
theorem dX11_text_61 : decode cX11_text 61 = .ok (.putfield 59, 3) := by decide +kernel
theorem dX11_text_64 : decode cX11_text 64 = .ok (.aload_n 0, 1) := by decide +kernel
theorem dX11_text_65 : decode cX11_text 65 = .ok (.getfield 59, 3) := by decide +kernel
theorem dX11_text_68 : decode cX11_text 68 = .ok (.iconst 1, 1) := by decide +kernel
theorem dX11_text_69 : decode cX11_text 69 = .ok (.isub, 1) := by decide +kernel
theorem dX11_text_70 : decode cX11_text 70 = .ok (.ireturn, 1) := by decide +kernel
/-- the machine with more cells made -/
def xal (X : Mc) (c1 s1 : Nat) : Mc := (X.1, X.2.1, X.2.2.1, X.2.2.2.1, X.2.2.2.2.1, X.2.2.2.2.2.1, X.2.2.2.2.2.2.1, X.2.2.2.2.2.2.2.1, X.2.2.2.2.2.2.2.2.1, X.2.2.2.2.2.2.2.2.2.1, X.2.2.2.2.2.2.2.2.2.2.1 + c1, X.2.2.2.2.2.2.2.2.2.2.2 + s1)
set_option maxHeartbeats 4000000 in
theorem r_ruleStore {X : Mc} {w : Wd} {own : String} {cc : ByteArray} {nL fr lo : Nat} {ρ : Type} {Qf : ρ → State → Prop} {P : Option ρ} {lv : List (Nat × Value)} {σ : St} {A : Nat → Prop} {pc idx nc : Nat} {tc : Int32} (hC : Cok X w A own cc nL fr lo shX rX 66) (hAw : A = Aw w (xs_ X).heap.size) (hN : wN w = nc) (hs : shX nc = (0, 6)) (hn0 : ¬ σ.1 17 2 < 0) (hn : (σ.1 17 2).toNatClampNeg < 160) (ht : inb tc 6) (hdy : dynOk nc σ = true) (hroom : Nat.ble 3 fr = true ∧ Nat.ble 110 lo = true) (hcap : X.2.2.2.2.2.2.2.2.2.2.1 + 2 ≤ X.2.2.2.1.cells ∧ X.2.2.2.2.2.2.2.2.2.2.2 + 162 ≤ X.2.2.2.1.slots) (lk : Cond.methodLink own idx yX9_ruleRead ∈ gw) (d1 : decode cc pc = .ok (.invokevirtual idx, 3)) (d2 : decode cc (pc + 3) = .ok (.aastore, 1))
    (k : ∀ w' : Wd, wN w' = nc + 2 → (∀ c, c < nc → wA w' c = wA w c) → (wD w' = wD w ∧ wC w' = wC w ∧ wK w' = wK w ∧ wV w' = wV w) → Cok (xal X 2 162) w' A own cc nL fr lo shX rX 66 → RF (xal X 2 162) w' A nL Qf P (pc + 4) lv [] (sR (ruleSt σ nc) 19 tc.toNatClampNeg (some nc))) : RF X w A nL Qf P pc lv [.ref (wA w 17), .int tc, .ref (wA w 19)] σ := by
  subst hAw
  obtain ⟨p, l, e, R, s, m, args, below, meth, c, cells, slots⟩ := X
  obtain ⟨⟨hx, hb, hml, hown, hts⟩, hK, hA, hlk, hD, hR, hW, hX⟩ := id hC
  dsimp only at hx hb hml hown hts hK hA hlk hR hcap
  intro res hr H locs ls hP hS hl
  show W p l e R s m args below meth c H locs cells slots (Qf res) (F0 m pc ls _)
  have hD0 := hD σ
  obtain ⟨y1, y2, y3, y4, y5⟩ := yk_ruleRead
  have htc : tc.toNatClampNeg < 6 := Nat.not_le.mp fun q9 => ht (Or.inr q9)
  refine va_callr (va_runV (C := RX9) (As := []) (rest := [.int tc, .ref (wA w 19)]) ⟨hx, hb, hml, hown, hts⟩ (c_X9_ruleRead hW σ hn0 hn H.size) ⟨callB_of 0 hts (gw_cons y1) rfl rfl rfl (hts _ y4) (hts _ lk) y5 ⟨Nat.le_trans (Nat.le_of_ble_eq_true hroom.1) hR.1, Nat.le_trans (Nat.le_of_ble_eq_true hroom.2) hR.2.1⟩, hts _ y2, hts _ y3⟩ ⟨Pw_blind, va_recv hK hP (ci := 9) (q := (RX9, TX9, 7)) rfl (h17_ hW σ), fun U hU hW2 => ⟨rfl, by rw [hU], by rw [hU]; exact hP, va_K.moved hW2.alike hK, hD0.weaken (fun _ _ _ _ => trivial), hX.next hS hU hW2 (fun q9 h => Aw_mono hS.1 q9 h)⟩⟩ rfl rfl hl.1 rfl (lv_room (Nat.le_of_ble_eq_true rfl)) d1 hcap) hS (fun q9 _ h => Aw_mono hS.1 q9 h) (fun q9 h => Aw_mono hS.1 q9 h) (fun _ a t H1 locs1 ht hvm hw hB hz1 hk1 hS1 => ?_)
  obtain ⟨q, b1, b2, b3⟩ := hB
  rw [ht] at b1
  have hD1 : va_D (Aw w s.heap.size) (wls w σ ++ ruleW w σ q a) := b3.weaken (fun _ _ _ h => Aw_mono hS.1 _ h)
  have hlen : (wls w σ).length = nc := by rw [wls_len, hN]
  have h19 : (wls w σ)[19]? = some (wA w 19, .inl (wC w 5, 6, .inr (.inr (.inr (.inr (fun i => (σ.2.2.1 19 i).map (wA w))))))) := (wls_get (hW.n rfl)).trans (by rw [went_6 (hW.sh (k := 19) (q := (6, 6)) rfl)])
  have hobj : (wls w σ ++ ruleW w σ q a)[nc + 1]? = some (a, .inr (6, [.ref q, .int (σ.1 17 3)])) := by
    rw [List.getElem?_append_right (by omega), hlen, Nat.add_sub_cancel_left]; rfl
  refine va_astq hx hb hK b1 hD1 hS1 19 5 (nc + 1) 6 (r := (RX6, TX6, 2)) (app_l h19) rfl hobj rfl ‹inb tc 6› d2 (fun H2 locs2 hP2 hD2 hS2 => ?_)
  have hP3 := rule_world hW hN hs htc hdy hP2
  have h66 : 66 ≤ nc := hN ▸ hW.2.2
  have he : nc % 2 = 0 := shX_even hs h66
  have hAo : ∀ c, c < nc → wA (wext w q a) c = wA w c := fun c hc => by
    show va_up (va_up (wA w) (wN w) a) (wN w + 1) q c = wA w c
    rw [hN]
    unfold va_up
    rw [if_neg (by omega), if_neg (by omega)]
  have hDx : va_D (Aw w s.heap.size) (wls (wext w q a) σ) := by
    have key : ∀ (τ : St) (i : Nat) (x : Nat × va_E), (wls (wext w q a) τ)[i]? = some x → ∃ (j : Nat) (x2 : Nat × va_E), (wls w σ ++ ruleW w σ q a)[j]? = some x2 ∧ x2.1 = x.1 ∧ (i < nc → j = i) ∧ (i = nc → j = nc + 1) ∧ (i = nc + 1 → j = nc) ∧ i < nc + 2 := by
      intro τ i x hi
      have hi9 := (List.getElem?_eq_some_iff.mp hi).1
      rw [wls_len] at hi9
      have hi8 : i < nc + 2 := by rw [← hN]; exact hi9
      rw [wls_get hi9] at hi
      cases hi
      by_cases h1 : i < nc
      · exact ⟨i, _, app_l (wls_get (by rw [hN]; exact h1)), (hAo i h1).symm, fun _ => rfl, fun h => by omega, fun h => by omega, hi8⟩
      · by_cases h2 : i = nc
        · refine ⟨nc + 1, _, hobj, ?_, fun h => by omega, fun _ => rfl, fun h => by omega, hi8⟩
          show a = va_up (va_up (wA w) (wN w) a) (wN w + 1) q i
          rw [hN, h2]
          unfold va_up
          rw [if_neg (by omega), if_pos rfl]
        · refine ⟨nc, (q, cpyE w σ (σ.1 17 2)), by rw [List.getElem?_append_right (by omega), hlen, Nat.sub_self]; rfl, ?_, fun h => by omega, fun h => by omega, fun _ => rfl, hi8⟩
          show q = va_up (va_up (wA w) (wN w) a) (wN w + 1) q i
          rw [hN, show i = nc + 1 by omega]
          unfold va_up
          rw [if_pos rfl]
    refine ⟨fun i j x y hi hj e9 => ?_, fun i x hi => ?_⟩
    · obtain ⟨i2, x2, a1, a2, a3, a4, a5, a6⟩ := key σ i x hi
      obtain ⟨j2, y2, c1, c2, c3, c4, c5, c6⟩ := key σ j y hj
      have := hD1.1 i2 j2 x2 y2 a1 c1 (by rw [a2, c2]; exact e9)
      by_cases h1 : i < nc
      · by_cases h2 : j < nc
        · rw [← a3 h1, ← c3 h2]; exact this
        · by_cases h3 : j = nc
          · have := a3 h1; have := c4 h3; omega
          · have := a3 h1; have := c5 (by omega); omega
      · by_cases h2 : j < nc
        · by_cases h3 : i = nc
          · have := a4 h3; have := c3 h2; omega
          · have := a5 (by omega); have := c3 h2; omega
        · by_cases h3 : i = nc <;> by_cases h4 : j = nc
          · omega
          · have := a4 h3; have := c5 (by omega); omega
          · have := a5 (by omega); have := c4 h4; omega
          · omega
    · obtain ⟨i2, x2, a1, a2, -⟩ := key σ i x hi
      rw [← a2]
      exact hD1.2 i2 x2 a1
  have hDall : ∀ τ, va_D (Aw w s.heap.size) (wls (wext w q a) τ) := fun τ => by
    have key : ∀ (ρ9 : St) (k9 : Nat) (q9 : Nat × va_E), (wls (wext w q a) ρ9)[k9]? = some q9 → k9 < wN (wext w q a) ∧ q9.1 = wA (wext w q a) k9 := by
      intro ρ9 k9 q9 hk
      have hl9 := (List.getElem?_eq_some_iff.mp hk).1
      rw [wls_len] at hl9
      rw [wls_get hl9] at hk
      cases hk
      exact ⟨hl9, rfl⟩
    refine ⟨fun i j x y hi hj e9 => ?_, fun i x hi => ?_⟩
    · obtain ⟨h1, e1⟩ := key τ i x hi
      obtain ⟨h2, e2⟩ := key τ j y hj
      exact hDx.1 i j _ _ (wls_get h1) (wls_get h2) (by rw [← e1, ← e2]; exact e9)
    · obtain ⟨h1, e1⟩ := key τ i x hi
      rw [e1]
      exact hDx.2 i _ (wls_get h1)
  exact k (wext w q a) (by show wN w + 2 = _; rw [hN]) hAo ⟨rfl, rfl, rfl, rfl⟩ ⟨⟨hx, hb, hml, hown, hts⟩, hK, hA, hlk, hDall, ⟨hR.1, hR.2.1, hcap⟩, ⟨hW.1, hW.2.1, by show 66 ≤ wN w + 2; omega⟩, hX.narrow rfl rfl (fun _ h => h)⟩ res hr H2 locs2 ls hP3 hS2 hl
