/-- sheets: the small questions -/
theorem xMissing {x : St} {s : Nat} (hs : s < 4) : f_X7_isMissing x (nI s) = some (if x.1 59 s = -1 then 1 else 0) := by
  unfold f_X7_isMissing
  rw [gdN hs (by omega)]
  unfold nm
  rw [clampN (by omega)]
  dsimp only
  by_cases e : x.1 59 s = -1
  · rw [if_pos e, if_pos e]
  · rw [if_neg e, if_neg e]
theorem xHolds {x : St} {s n : Nat} (hs : s < 4) (hn : n ≤ 40) (hx : x.1 60 s = nI n) (i c : Int32) : f_X7_holds x (nI s) i c = some (iz (0 ≤ i.toInt ∧ 0 ≤ c.toInt ∧ c.toInt ≤ n ∧ i.toInt ≤ (n : Int) - c.toInt)) := by
  unfold f_X7_holds
  have e0 : (0 : Int32).toInt = 0 := rfl
  have en := nI_rng (n := n) (by omega)
  rw [gdN hs (by omega), gdN hs (by omega)]
  unfold nm
  rw [clampN (by omega), hx]
  dsimp only
  unfold iz
  by_cases h1 : i < 0
  · rw [if_pos h1, if_neg (by rw [lt32] at h1; omega)]
  · by_cases h2 : c < 0
    · rw [if_neg h1, if_pos h2, if_neg (by rw [lt32] at h2; omega)]
    · by_cases h3 : nI n < c
      · rw [if_neg h1, if_neg h2, if_pos h3, if_neg (by rw [lt32] at h3; omega)]
      · rw [lt32] at h1 h2 h3
        have hsub : (nI n - c).toInt = (n : Int) - c.toInt := by rw [sub32 (by omega), en]
        rw [if_neg (by rw [lt32]; exact h1), if_neg (by rw [lt32]; exact h2), if_neg (by rw [lt32]; exact h3)]
        by_cases h4 : nI n - c < i
        · rw [if_pos h4, if_neg (by rw [lt32, hsub] at h4; omega)]
        · rw [if_neg h4, if_pos (by rw [lt32, hsub] at h4; omega)]
theorem fill_l {kk n : Nat} {a : Int32} (hn : n ≤ 1000) : ∀ (d f k : Nat) (σ : St), k + d = n → d < f → ∃ σ', f_J7_fill_53178_l5 kk n a (nI n) f (nI k) σ = some σ' ∧ (∀ c, c ≠ kk → σ'.1 c = σ.1 c) ∧ σ'.2 = σ.2 ∧ (∀ j, k ≤ j → j < n → σ'.1 kk j = a) ∧ (∀ j, j < k ∨ n ≤ j → σ'.1 kk j = σ.1 kk j) := by
  intro d
  induction d with
  | zero =>
    intro f k σ hk hf
    obtain ⟨f, rfl⟩ : ∃ g, f = g + 1 := ⟨f - 1, by omega⟩
    unfold f_J7_fill_53178_l5
    have : nI n ≤ nI k := by rw [le_nI (by omega), nI_rng (by omega)]; omega
    rw [if_pos this]
    exact ⟨σ, rfl, fun _ _ => rfl, rfl, fun j a b => by omega, fun _ _ => rfl⟩
  | succ d ih =>
    intro f k σ hk hf
    obtain ⟨f, rfl⟩ : ∃ g, f = g + 1 := ⟨f - 1, by omega⟩
    unfold f_J7_fill_53178_l5
    have : ¬ nI n ≤ nI k := by rw [le_nI (by omega), nI_rng (by omega)]; omega
    rw [if_neg this, gdN (by omega) (by omega)]
    simp only [nmE, clampN (show k < 1000000 by omega), nI_1]
    obtain ⟨σ', q1, q2, q3, q4, q5⟩ := ih f (k + 1) (sI σ kk k a) (by omega) (by omega)
    refine ⟨σ', q1, fun c hc => by rw [q2 c hc, sI_ro _ kk k _ c hc], by rw [q3]; rfl, fun j j1 j2 => ?_, fun j hj => ?_⟩
    · by_cases e : j = k
      · subst e
        rw [q5 j (by omega)]
        simp [sI_rd]
      · exact q4 j (by omega) j2
    · rw [q5 j (by omega)]
      have : ¬ j = k := by omega
      simp [sI_rd, this]
theorem fill_all {σ : St} {kk n : Nat} {a : Int32} (hn : n ≤ 1000) : ∃ σ', f_J7_fill_53178 σ kk n a = some σ' ∧ (∀ c, c ≠ kk → σ'.1 c = σ.1 c) ∧ σ'.2 = σ.2 ∧ (∀ j, j < n → σ'.1 kk j = a) ∧ (∀ j, n ≤ j → σ'.1 kk j = σ.1 kk j) := by
  obtain ⟨σ', q1, q2, q3, q4, q5⟩ := fill_l (kk := kk) (a := a) hn n FU 0 σ (by omega) (by unfold FU; omega)
  have z : nI 0 = 0 := rfl
  rw [z] at q1
  rw [f_J7_fill_53178, nmE]
  exact ⟨σ', q1, q2, q3, fun j hj => q4 j (by omega) hj, fun j hj => q5 j (by omega)⟩
/-- a sheet changed: what stays -/
theorem inv_sheet {PA : (Nat → Int32) → Nat → (Nat → Int32) → Nat → Int32 → Prop} {nc : Nat} {x m x' m' : St} (hI : InvP PA nc x m) (hxo : ∀ k, k < 59 ∨ 65 < k → x'.1 k = x.1 k) (hx2 : x'.2 = x.2) (hmo : ∀ k, k < 25 ∨ 28 < k → m'.1 k = m.1 k) (hs : ISheet x' m') : InvP PA nc x' m' := by
  obtain ⟨nr, tc, h1, h2, h3, h4, h5, h6, h7, h8, h9⟩ := hI
  have hm0 : ∀ i, i ≠ 1000 → m'.1 0 i = m.1 0 i := fun i a => by rw [hmo 0 (by omega)]
  have hx0 : ∀ i, i ≠ 1000 → x'.1 0 i = x.1 0 i := fun i a => by rw [hxo 0 (by omega)]
  have hx37 : x'.1 37 4 = x.1 37 4 := by rw [hxo 37 (by omega)]
  have hr19 : x'.2.2.1 19 = x.2.2.1 19 := by rw [hx2]
  have hr31 : x'.2.2.1 31 2 = x.2.2.1 31 2 := by rw [hx2]
  have hl : x'.2.2.2 = x.2.2.2 := by rw [hx2]
  exact ⟨nr, tc, h1.cg (fun k a b => hxo k (by omega)) (hm0 11 (by omega)) (fun k a b => hmo k (by omega)), h2.cg (fun k a b => hxo k (by omega)) (hm0 15 (by omega)) (hm0 16 (by omega)) (fun k a b => hmo k (by omega)), h3.cg (hx0 4 (by omega)) (hx0 5 (by omega)) (fun k a b => hxo k (by omega)) (fun j a b => hm0 j (by omega)) (fun k a b => hmo k (by omega)), h4.cg (hxo 15 (by omega)) (hxo 16 (by omega)) (hm0 6 (by omega)) (hmo 3 (by omega)), h5.cg (hx0 9 (by omega)) (hx0 10 (by omega)) (fun k a => hxo k (by omega)) hr19 hr31 hl (hm0 3 (by omega)) (hm0 4 (by omega)) (hmo 1 (by omega)) (hmo 2 (by omega)), h6.cg (fun k a b => hxo k (by omega)) (hm0 33 (by omega)) (hmo 11 (by omega)) (hmo 12 (by omega)), h7.cg hx37 (fun k a b => hxo k (by omega)) (hm0 46 (by omega)) (fun k a b => hmo k (by omega)), h8.cg (hxo 56 (by omega)) (hxo 57 (by omega)) (hm0 49 (by omega)) (hmo 20 (by omega)), hs⟩
theorem sheet_l77 {s n t : Nat} (hs : s < 4) (hn : n ≤ 40) (ht : t < 3) : ∀ (d f k : Nat) (m : St), k + d = n → d < f → ∃ m', f_X12_sheet_l77 (nI s) (nI t) (nI n) f (nI k) m = some (1, m') ∧ (∀ c, c ≠ 28 → m'.1 c = m.1 c) ∧ (∀ j, k ≤ j → j < n → m'.1 28 (40 * s + j) = 0) ∧ (∀ p, p < 40 * s + k ∨ 40 * s + n ≤ p → m'.1 28 p = m.1 28 p) := by
  intro d
  induction d with
  | zero =>
    intro f k m hk hf
    obtain ⟨f, rfl⟩ : ∃ g, f = g + 1 := ⟨f - 1, by omega⟩
    unfold f_X12_sheet_l77
    have : nI n ≤ nI k := by rw [le_nI (by omega), nI_rng (by omega)]; omega
    rw [if_pos this]
    exact ⟨m, rfl, fun _ _ => rfl, fun j a b => by omega, fun _ _ => rfl⟩
  | succ d ih =>
    intro f k m hk hf
    obtain ⟨f, rfl⟩ : ∃ g, f = g + 1 := ⟨f - 1, by omega⟩
    unfold f_X12_sheet_l77
    have : ¬ nI n ≤ nI k := by rw [le_nI (by omega), nI_rng (by omega)]; omega
    have ei : (40 : Int32) * nI s + nI k = nI (40 * s + k) := by
      rw [show (40 : Int32) = nI 40 from rfl, mul_nI 40 s (by omega) (by omega) (by omega), nI_add]
    rw [if_neg this, if_neg (nI_pos (by omega)), ei, gdN (by omega) (by omega)]
    simp only [nmE, clampN (show 40 * s + k < 1000000 by omega), nI_1]
    obtain ⟨m', q1, q2, q3, q4⟩ := ih f (k + 1) (sI m 28 (40 * s + k) 0) (by omega) (by omega)
    refine ⟨m', q1, fun c hc => by rw [q2 c hc, sI_ro _ 28 _ _ c hc], fun j j1 j2 => ?_, fun p hp => ?_⟩
    · by_cases e : j = k
      · subst e
        rw [q4 _ (by omega)]
        simp [sI_rd]
      · exact q3 j (by omega) j2
    · rw [q4 p (by omega)]
      have : ¬ p = 40 * s + k := by omega
      simp [sI_rd, this]
theorem p_sheet {PA : (Nat → Int32) → Nat → (Nat → Int32) → Nat → Int32 → Prop} : P_sheet (InvP PA) := by
  intro nc x m a b c hI
  obtain ⟨nr, tc, h1, h2, h3, h4, h5, h6, h7, h8, h9⟩ := id hI
  have em : (-1 : Int32).toInt = -1 := rfl
  have e0 : (0 : Int32).toInt = 0 := rfl
  have e40 : (40 : Int32).toInt = 40 := rfl
  have lm : (-1 : Int64).toInt = -1 := rfl
  have l2 : (2 : Int64).toInt = 2 := rfl
  unfold f_X11_sheet f_X12_sheet
  rw [xSheet, mSheet, xSort, m_in, lm, l2]
  simp only [bpE, jnE]
  by_cases ha : 0 ≤ a.toInt ∧ a.toInt ≤ 3
  · obtain ⟨s, hs, rfl⟩ := of_rng (n := 4) ha.1 (by omega)
    rw [iz_pos ha]
    simp only [if_neg ne10, gdN hs (show 4 ≤ 1000000 by omega), nmE, clampN (show s < 1000000 by omega)]
    by_cases hb : b = -1
    · subst hb
      rw [iz_pos (c := -1 ≤ (-1 : Int32).toInt ∧ (-1 : Int32).toInt ≤ 2) (by decide)]
      have hlt : (-1 : Int32) < 0 := by decide
      simp only [if_neg ne10, if_true, if_pos hlt]
      have hl : ∀ (σ : St), f_X12_sheet_l77 (nI s) (-1) c FU 0 σ = some (1, σ) := fun σ => by
        unfold FU f_X12_sheet_l77
        simp only [if_pos hlt]
        split <;> rfl
      rw [hl]
      refine ⟨1, _, _, rfl, rfl, inv_sheet hI (fun k hk => sI_ro _ 59 s _ k (by omega)) rfl (fun k hk => ?_) fun u hu => ?_⟩
      · rw [sI_ro _ 27 s _ k (by omega), sI_ro _ 26 s _ k (by omega), sI_ro _ 25 s _ k (by omega)]
      · have hv : vp_nar .boolean (0 : Int32) = 0 := by decide
        rw [hv]
        by_cases e : u = s
        · subst e
          left
          simp [sI_rd]
        · have := h9 u hu
          rw [sI_ro _ 59 s _ 60 (by omega), sI_ro _ 59 s _ (62 + u) (by omega), sI_ro _ 27 s _ 28 (by omega), sI_ro _ 26 s _ 28 (by omega), sI_ro _ 25 s _ 28 (by omega)]
          simp only [sI_rd]
          simpa [e] using this
    · have hbn : b.toInt ≠ -1 := fun e => hb (eq32.mpr e)
      by_cases hb2 : 0 ≤ b.toInt ∧ b.toInt ≤ 2
      · obtain ⟨t, ht, rfl⟩ := of_rng (n := 3) hb2.1 (by omega)
        have hnlt : ¬ nI t < 0 := nI_pos (by omega)
        rw [iz_pos (c := -1 ≤ (nI t).toInt ∧ (nI t).toInt ≤ 2) (by omega), iz_pos hb2]
        simp only [if_neg ne10, if_neg hb, if_neg hnlt]
        by_cases hc1 : c ≤ 40
        · by_cases hc2 : 0 ≤ c
          · rw [le32] at hc1 hc2
            obtain ⟨n, hn, rfl⟩ := of_rng (n := 41) (a := c) (by omega) (by omega)
            have c1 : nI n ≤ 40 := by rw [le32]; exact hc1
            have c2 : 0 ≤ nI n := by rw [le32]; exact hc2
            simp only [if_pos c1, if_pos c2]
            unfold f_X7_renew
            simp only [gdN hs (show 4 ≤ 1000000 by omega), nmE, clampN (show s < 1000000 by omega)]
            obtain ⟨x', u1, u2, u3, u4, u5⟩ := fill_all (σ := sI (sI x 59 s (nI t)) 60 s (nI n)) (kk := 62 + s) (n := 40) (a := 0) (by omega)
            obtain ⟨m', q1, q2, q3, q4⟩ := sheet_l77 hs (show n ≤ 40 by omega) ht n FU 0 (sI (sI (sI m 25 s (vp_nar .boolean 1)) 26 s (nI t)) 27 s (nI n)) (by omega) (by unfold FU; omega)
            have z0 : (0 : Int32) = nI 0 := rfl
            rw [u1]
            rw [← z0] at q1
            rw [q1]
            simp only [bdvE]
            refine ⟨1, x', m', rfl, rfl, inv_sheet hI (fun k hk => ?_) (by rw [u3]; rfl) (fun k hk => ?_) fun u hu => ?_⟩
            · rw [u2 k (by omega), sI_ro _ 60 s _ k (by omega), sI_ro _ 59 s _ k (by omega)]
            · rw [q2 k (by omega), sI_ro _ 27 s _ k (by omega), sI_ro _ 26 s _ k (by omega), sI_ro _ 25 s _ k (by omega)]
            · have hv : vp_nar .boolean (1 : Int32) = 1 := by decide
              rw [hv] at q2 q4
              rw [u2 59 (by omega), u2 60 (by omega), q2 25 (by omega), q2 26 (by omega), q2 27 (by omega)]
              by_cases e : u = s
              · subst e
                right
                refine ⟨by simp [sI_rd], ⟨t, ht, by simp [sI_rd], by simp [sI_rd]⟩, n, by omega, by simp [sI_rd], by simp [sI_rd], fun i hi => ?_⟩
                rw [u4 i (by omega), q3 i (by omega) hi]
              · have := h9 u hu
                rw [u2 (62 + u) (by omega)]
                have hq : ∀ i, i < 40 → m'.1 28 (40 * u + i) = m.1 28 (40 * u + i) := fun i hi => by
                  rw [q4 _ (by omega), sI_ro _ 27 s _ 28 (by omega), sI_ro _ 26 s _ 28 (by omega), sI_ro _ 25 s _ 28 (by omega)]
                rw [sI_ro _ 60 s _ (62 + u) (by omega), sI_ro _ 59 s _ (62 + u) (by omega)]
                simp only [sI_rd]
                simp only [show ¬ (25 = 27 ∧ u = s) by omega, show ¬ (25 = 26 ∧ u = s) by omega, show ¬ (25 = 25 ∧ u = s) by omega, show ¬ (26 = 27 ∧ u = s) by omega, show ¬ (26 = 26 ∧ u = s) by omega, show ¬ (26 = 25 ∧ u = s) by omega, show ¬ (27 = 27 ∧ u = s) by omega, show ¬ (27 = 26 ∧ u = s) by omega, show ¬ (27 = 25 ∧ u = s) by omega, show ¬ (59 = 60 ∧ u = s) by omega, show ¬ (59 = 59 ∧ u = s) by omega, show ¬ (60 = 60 ∧ u = s) by omega, show ¬ (60 = 59 ∧ u = s) by omega, if_false, true_and, if_neg e]
                rcases this with g | ⟨g1, g2, n', g3, g4, g5, g6⟩
                · exact Or.inl g
                · exact Or.inr ⟨g1, g2, n', g3, g4, g5, fun i hi => by rw [hq i (by omega)]; exact g6 i hi⟩
          · simp only [if_pos hc1, if_neg hc2]
            exact ⟨_, x, m, rfl, rfl, hI⟩
        · simp only [if_neg hc1]
          exact ⟨_, x, m, rfl, rfl, hI⟩
      · rw [iz_neg (c := -1 ≤ b.toInt ∧ b.toInt ≤ 2) (by omega), iz_neg hb2]
        simp only [if_neg hb, if_true]
        exact ⟨_, x, m, rfl, rfl, hI⟩
  · rw [iz_neg ha]
    exact ⟨_, x, m, rfl, rfl, hI⟩
