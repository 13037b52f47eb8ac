/-! A RULE MORE: the world grows by two cells -/
def wext (w : Wd) (q a : Nat) : Wd := (wD w, wC w, wH w, wR w, wN w + 2, va_up (va_up (wA w) (wN w) a) (wN w + 1) q, wK w, wV w)
def ruleSt (σ : St) (N : Nat) : St := (va_up (va_up σ.1 N (upd (σ.1 N) 1 (σ.1 17 3))) (N + 1) (va_cpy (σ.1 18) (fun _ => 0) 0 0 (σ.1 17 2).toNatClampNeg), σ.2.1, σ.2.2.1, va_up σ.2.2.2 (N + 1) (σ.1 17 2).toNatClampNeg)
/-- the references that change point below n -/
def dynOk (n : Nat) (σ : St) : Bool := ((List.range 6).all fun i => (σ.2.2.1 19 i).all fun c => decide (c < n)) && (σ.2.2.1 31 2).all fun c => decide (c < n)
theorem rX_b : ∀ k, k < 66 → ∀ j, j < 64 → (rX k j).all (fun c => decide (c < 66)) = true := by decide +kernel
theorem rX_big {k j : Nat} (hk : k < 66) (hj : 64 ≤ j) : rX k j = none := by
  unfold rX
  rw [if_pos hk]
  have : ∀ k, k < 66 → ∀ L : List (Option Nat), L.length ≤ 64 → L.getD j none = none := fun k _ L hL => by
    rw [List.getD_eq_getElem?_getD, List.getElem?_eq_none (by omega)]; rfl
  apply this k hk
  revert hk
  revert k
  decide +kernel
theorem rX_in {k j c n : Nat} (h66 : 66 ≤ n) (he : n % 2 = 0) (hk : k < n) (hek : 66 ≤ k → k % 2 = 0) (h : rX k j = some c) : c < n := by
  by_cases h1 : k < 66
  · by_cases h2 : j < 64
    · have := rX_b k h1 j h2
      rw [h] at this
      have : c < 66 := by simpa using this
      omega
    · rw [rX_big h1 (by omega)] at h; cases h
  · have := hek (by omega)
    unfold rX at h
    rw [if_neg h1] at h
    by_cases h3 : j = 0
    · rw [if_pos h3] at h; cases h; omega
    · rw [if_neg h3] at h; cases h
theorem fkd3 {ci j : Nat} (h : fkd ci j = 3) : ci = 1 ∧ j = 2 := by
  have t : ∀ ci, ci < 13 → ∀ j, j < 63 → fkd ci j = 3 → ci = 1 ∧ j = 2 := by decide +kernel
  by_cases h1 : ci < 13
  · by_cases h2 : j < 63
    · exact t ci h1 j h2 h
    · exfalso
      have : ∀ L : List Nat, L.length ≤ 63 → L.getD j 0 = 0 := fun L hL => by
        rw [List.getD_eq_getElem?_getD, List.getElem?_eq_none (by omega)]; rfl
      unfold fkd at h
      rw [this _ (by revert h1; clear h this t; revert ci; decide +kernel)] at h
      cases h
  · exfalso
    have g : ∀ L : List (List Nat), L.length ≤ 13 → L.getD ci [] = [] := fun L hL => by
      rw [List.getD_eq_getElem?_getD, List.getElem?_eq_none (by omega)]; rfl
    unfold fkd at h
    rw [g _ (by decide)] at h
    simp at h
theorem shX_even {k ci : Nat} (h : shX k = (0, ci)) (h66 : 66 ≤ k) : k % 2 = 0 := by
  unfold shX at h
  rw [if_neg (by omega)] at h
  by_cases e : k % 2 = 0
  · exact e
  · rw [if_neg e] at h; cases h
theorem shX_31 {k : Nat} (h : shX k = (0, 1)) : k = 31 := by
  have t : ∀ k, k < 66 → shX k = (0, 1) → k = 31 := by decide +kernel
  by_cases h1 : k < 66
  · exact t k h1 h
  · unfold shX at h
    rw [if_neg h1] at h
    by_cases e : k % 2 = 0
    · rw [if_pos e] at h; cases h
    · rw [if_neg e] at h; cases h
theorem shX_5 {k n : Nat} (h : shX k = (5, n)) : k < 66 := by
  by_cases h1 : k < 66
  · exact h1
  · unfold shX at h
    rw [if_neg h1] at h
    by_cases e : k % 2 = 0
    · rw [if_pos e] at h; cases h
    · rw [if_neg e] at h; cases h
theorem shX_6 {k n : Nat} (h : shX k = (6, n)) : k = 19 := by
  have t : ∀ k, k < 66 → (shX k).1 = 6 → k = 19 := by decide +kernel
  by_cases h1 : k < 66
  · exact t k h1 (by rw [h])
  · unfold shX at h
    rw [if_neg h1] at h
    by_cases e : k % 2 = 0
    · rw [if_pos e] at h; cases h
    · rw [if_neg e] at h; cases h
theorem opt_map_congr {f g : Nat → Nat} {n : Nat} (hfg : ∀ c, c < n → f c = g c) {o : Option Nat} (ho : ∀ c, o = some c → c < n) : o.map f = o.map g := by
  cases o with
  | none => rfl
  | some c => show some (f c) = some (g c); rw [hfg c (ho c rfl)]
theorem went_ext {w w' : Wd} {σ σ' : St} {k n : Nat} (hH : wH w' = wH w) (hC : wC w' = wC w) (hR : wR w' = wR w) (hHX : wH w = shX) (hRX : wR w = rX) (h66 : 66 ≤ n) (he : n % 2 = 0) (hk : k < n) (h19 : k ≠ 19) (hA : ∀ c, c < n → wA w' c = wA w c) (h1 : σ'.1 k = σ.1 k) (h2 : σ'.2.1 k = σ.2.1 k) (h3 : σ'.2.2.1 k = σ.2.2.1 k) (h4 : σ'.2.2.2 k = σ.2.2.2 k) (hdy : ∀ c, σ.2.2.1 31 2 = some c → c < n) : went w' σ' k = went w σ k := by
  cases hs : shX k with
  | mk t m =>
    have hs1 : wH w k = (t, m) := by rw [hHX]; exact hs
    have hs2 : wH w' k = (t, m) := by rw [hH]; exact hs1
    by_cases t0 : t = 0
    · subst t0
      rw [went_0 hs1, went_0 hs2]
      congr 2
      apply List.map_congr_left
      intro j _
      unfold fval
      rw [h1, h2, h3, hR, hRX]
      split
      · rfl
      · rfl
      · exact congrArg va_rf (opt_map_congr hA (fun c hc => rX_in h66 he hk (fun h => shX_even hs h) hc))
      · rename_i hf
        obtain ⟨rfl, rfl⟩ := fkd3 hf
        have : k = 31 := shX_31 hs
        subst this
        exact congrArg va_rf (opt_map_congr hA hdy)
      · rfl
    · by_cases t5 : t = 5
      · subst t5
        rw [went_5 hs1, went_5 hs2, hC, hR, hRX]
        have hk6 := shX_5 hs
        have : (fun i => Option.map (wA w') (rX k i)) = (fun i => Option.map (wA w) (rX k i)) := funext fun i => opt_map_congr hA (fun c hc => rX_in h66 he hk (fun h => by omega) hc)
        rw [this]
      · by_cases t6 : t = 6
        · subst t6
          exact absurd (shX_6 hs) h19
        · unfold went
          rw [hs1, hs2, hC, h1, h2, h4]
          split <;> first | rfl | (rename_i hh; cases hh; first | exact absurd rfl t0 | exact absurd rfl t5 | exact absurd rfl t6)

/-- what stands behind a call of ruleRead and the store of its rule -/
theorem rule_world {w : Wd} {σ : St} {tc q a nc : Nat} {H2 : Heap} (hW : HWd w shX rX 66) (hN : wN w = nc) (hs : shX nc = (0, 6)) (ht6 : tc < 6) (hdy : dynOk nc σ = true)
    (hP : va_P (wD w) classes ((wls w σ ++ ruleW w σ q a).set 19 (wA w 19, .inl (wC w 5, 6, .inr (.inr (.inr (.inr (va_up (fun i => (σ.2.2.1 19 i).map (wA w)) tc (some a)))))))) H2) :
    va_P (wD w) classes (wls (wext w q a) (sR (ruleSt σ nc) 19 tc (some nc))) H2 := by
  have h66 : 66 ≤ nc := hN ▸ hW.2.2
  have he : nc % 2 = 0 := shX_even hs h66
  obtain ⟨r1, r2⟩ := rX_rule hs
  have hlen : (wls w σ).length = nc := by rw [wls_len, hN]
  have hA : ∀ c, c < nc → wA (wext w q a) c = wA w c := fun c hc => by
    show va_up (va_up (wA w) (wN w) a) (wN w + 1) q c = wA w c
    rw [hN]
    unfold va_up
    rw [if_neg (by omega), if_neg (by omega)]
  have hAn : wA (wext w q a) nc = a := by
    show va_up (va_up (wA w) (wN w) a) (wN w + 1) q nc = a
    rw [hN]
    unfold va_up
    rw [if_neg (by omega), if_pos rfl]
  have hAn1 : wA (wext w q a) (nc + 1) = q := by
    show va_up (va_up (wA w) (wN w) a) (wN w + 1) q (nc + 1) = q
    rw [hN]
    unfold va_up
    rw [if_pos rfl]
  simp only [dynOk, Bool.and_eq_true, List.all_eq_true, List.mem_range] at hdy
  obtain ⟨hd1, hd2⟩ := hdy
  have hd2' : ∀ c, σ.2.2.1 31 2 = some c → c < nc := fun c hc => by rw [hc] at hd2; simpa using hd2
  have hd1' : ∀ i, i < 6 → ∀ c, σ.2.2.1 19 i = some c → c < nc := fun i hi c hc => by
    have := hd1 i hi
    rw [hc] at this; simpa using this
  generalize hσ' : sR (ruleSt σ nc) 19 tc (some nc) = σ'
  have e1 : σ'.1 = (ruleSt σ nc).1 := by rw [← hσ']; rfl
  have e2 : σ'.2.1 = σ.2.1 := by rw [← hσ']; rfl
  have e4 : σ'.2.2.2 = (ruleSt σ nc).2.2.2 := by rw [← hσ']; rfl
  have e3 : σ'.2.2.1 = va_up σ.2.2.1 19 (va_up (σ.2.2.1 19) tc (some nc)) := by rw [← hσ']; rfl
  have row : ∀ k, k ≠ nc → k ≠ nc + 1 → σ'.1 k = σ.1 k := fun k h1 h2 => by
    rw [e1]; show va_up (va_up σ.1 nc _) (nc + 1) _ k = _
    unfold va_up
    rw [if_neg h2, if_neg h1]
  intro k p hk
  have hk9 := (List.getElem?_eq_some_iff.mp hk).1
  rw [wls_len] at hk9
  have hk8 : k < nc + 2 := by rw [← hN]; exact hk9
  rw [wls_get hk9] at hk
  cases hk
  have hHw : wH (wext w q a) = shX := hW.1
  by_cases hk1 : k < nc
  · rw [hA k hk1]
    by_cases hk19 : k = 19
    · subst hk19
      have hset := hP 19 _ (by rw [List.getElem?_set_self (by rw [List.length_append, hlen]; omega)])
      rw [went_6 (n := 6) (show wH (wext w q a) 19 = (6, 6) by rw [hHw]; rfl)]
      refine Eq.trans hset (congrArg some ?_)
      rw [vp_cell_q, vp_cell_q]
      show arrV _ _ _ = arrV _ _ _
      have hfe : ∀ i, i < 6 → va_rf (va_up (fun i => (σ.2.2.1 19 i).map (wA w)) tc (some a) i) = va_rf ((σ'.2.2.1 19 i).map (wA (wext w q a))) := fun i hi => by
        rw [e3]
        show _ = va_rf (Option.map _ (va_up σ.2.2.1 19 (va_up (σ.2.2.1 19) tc (some nc)) 19 i))
        unfold va_up
        rw [if_pos rfl]
        by_cases hit : i = tc
        · rw [if_pos hit, if_pos hit]
          show _ = va_rf (some (wA (wext w q a) nc))
          rw [hAn]
        · rw [if_neg hit, if_neg hit]
          exact congrArg va_rf (opt_map_congr hA (hd1' i hi)).symm
      unfold arrV
      congr 1
      apply congrArg
      funext j
      exact hfe j.1 j.2
    · have hget : (wls w σ ++ ruleW w σ q a)[k]? = some (wA w k, went w σ k) := app_l (wls_get (by rw [hN]; exact hk1))
      have hthis := hP k _ (by rw [List.getElem?_set_ne (Ne.symm hk19)]; exact hget)
      rw [went_ext (w := w) (w' := wext w q a) (σ := σ) (σ' := σ') (n := nc) rfl rfl rfl hW.1 hW.2.1 h66 he hk1 hk19 hA (row k (by omega) (by omega)) (by rw [e2]) (by rw [e3]; show va_up σ.2.2.1 19 _ k = _; unfold va_up; rw [if_neg hk19]) (by rw [e4]; show va_up σ.2.2.2 (nc + 1) _ k = _; unfold va_up; rw [if_neg (by omega)]) hd2']
      exact hthis
  · by_cases hkn : k = nc
    · subst hkn
      have hget : (wls w σ ++ ruleW w σ q a)[k + 1]? = some (a, .inr (6, [.ref q, .int (σ.1 17 3)])) := by
        rw [List.getElem?_append_right (by omega), hlen, Nat.add_sub_cancel_left]; rfl
      have hthis := hP (k + 1) _ (by rw [List.getElem?_set_ne (by omega)]; exact hget)
      rw [hAn, went_0 (ci := 6) (show wH (wext w q a) k = (0, 6) by rw [hHw]; exact hs)]
      have hf : (List.range (nfd 6)).map (fval (wext w q a) σ' 6 k) = [.ref q, .int (σ.1 17 3)] := by
        show [fval (wext w q a) σ' 6 k 0, fval (wext w q a) σ' 6 k 1] = _
        rw [fv_2 rfl, fv_0 rfl, show wR (wext w q a) k 0 = some (k + 1) by show wR w k 0 = _; rw [hW.2.1]; exact r1]
        have hv : σ'.1 k 1 = σ.1 17 3 := by
          rw [e1]; show va_up (va_up σ.1 k (upd (σ.1 k) 1 (σ.1 17 3))) (k + 1) _ k 1 = _
          unfold va_up
          rw [if_neg (by omega), if_pos rfl]
          rfl
        rw [hv]
        show [Value.ref (wA (wext w q a) (k + 1)), _] = _
        rw [hAn1]
      rw [hf]
      exact hthis
    · have hkn1 : k = nc + 1 := by omega
      subst hkn1
      have hget : (wls w σ ++ ruleW w σ q a)[nc]? = some (q, cpyE w σ (σ.1 17 2)) := by
        rw [List.getElem?_append_right (by omega), hlen, Nat.sub_self]; rfl
      have hthis := hP nc _ (by rw [List.getElem?_set_ne (by omega)]; exact hget)
      rw [hAn1, went_7 (n := 0) (show wH (wext w q a) (nc + 1) = (7, 0) by rw [hHw]; exact r2)]
      have hr1 : σ'.1 (nc + 1) = va_cpy (σ.1 18) (fun _ => 0) 0 0 (σ.1 17 2).toNatClampNeg := by
        rw [e1]; show va_up _ (nc + 1) _ (nc + 1) = _
        unfold va_up
        rw [if_pos rfl]
      have hr4 : σ'.2.2.2 (nc + 1) = (σ.1 17 2).toNatClampNeg := by
        rw [e4]; show va_up _ (nc + 1) _ (nc + 1) = _
        unfold va_up
        rw [if_pos rfl]
      rw [hr1, hr4]
      exact hthis
