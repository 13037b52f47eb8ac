/-- a race: the class's check and the model's -/
theorem idx6 {r : Nat} (hr : r < 20) {i : Nat} (hi : i < 6) : (6 : Int32) * nI r + nI i = nI (6 * r + i) ∧ nI r * (6 : Int32) + nI i = nI (6 * r + i) ∧ nI r * (6 : Int32) = nI (6 * r) := by
  have e : (6 : Int32) * nI r = nI (6 * r) := by rw [show (6 : Int32) = nI 6 from rfl, mul_nI 6 r (by omega) (by omega) (by omega)]
  have e' : nI r * (6 : Int32) = nI (6 * r) := by rw [Int32.mul_comm]; exact e
  exact ⟨by rw [e, nI_add], by rw [e', nI_add], e'⟩
theorem race_chk {x m : St} {s : Nat} (hs : s < 4) (h : ∀ i, i < 6 → x.1 (62 + s) i = m.1 28 (40 * s + i)) {K K' : Option (Int32 × St)} : ∀ (d f k : Nat), k + d = 6 → d < f → (∀ i, i < k → rng (m.1 28 (40 * s + i)) 0 9999) → (f_X5_add_l2 x (62 + s) K f (nI k) = some (-2, x) ∧ f_X12_race_l38 m (nI s) K' f (nI k) = some (-2, m)) ∨ (f_X5_add_l2 x (62 + s) K f (nI k) = K ∧ f_X12_race_l38 m (nI s) K' f (nI k) = K' ∧ ∀ i, i < 6 → rng (m.1 28 (40 * s + i)) 0 9999) := by
  have e6 : (6 : Int32).toInt = 6 := rfl
  have e0 : (0 : Int32).toInt = 0 := rfl
  have e9 : (9999 : Int32).toInt = 9999 := rfl
  have l0 : (0 : Int64).toInt = 0 := rfl
  have l9 : (9999 : Int64).toInt = 9999 := rfl
  intro d
  induction d with
  | zero =>
    intro f k hk hf hr
    obtain ⟨f, rfl⟩ : ∃ g, f = g + 1 := ⟨f - 1, by omega⟩
    unfold f_X5_add_l2 f_X12_race_l38
    have : (6 : Int32) ≤ nI k := by rw [le_nI (by omega)]; omega
    rw [if_pos this, if_pos this]
    exact Or.inr ⟨rfl, rfl, fun i hi => hr i (by omega)⟩
  | succ d ih =>
    intro f k hk hf hr
    obtain ⟨f, rfl⟩ : ∃ g, f = g + 1 := ⟨f - 1, by omega⟩
    rw [f_X5_add_l2, f_X12_race_l38]
    have : ¬ (6 : Int32) ≤ nI k := by rw [le_nI (by omega)]; omega
    rw [if_neg this, if_neg this]
    simp only [nmE, gdN (show k < 40 by omega) (show 40 ≤ 1000000 by omega), clampN (show k < 1000000 by omega), idx40 hs (show k < 200 by omega), gdN (show 40 * s + k < 160 by omega) (show 160 ≤ 1000000 by omega), clampN (show 40 * s + k < 1000000 by omega), nI_1]
    rw [m_in, h k (by omega), l0, l9]
    simp only [bpE]
    by_cases hv : 0 ≤ (m.1 28 (40 * s + k)).toInt ∧ (m.1 28 (40 * s + k)).toInt ≤ 9999
    · rw [iz_pos hv, if_neg ne10, if_neg (by rw [lt32]; omega), if_pos (by rw [le32]; omega)]
      refine ih f (k + 1) (by omega) (by omega) (fun i hi => ?_)
      by_cases e : i = k
      · subst e; exact hv
      · exact hr i (by omega)
    · rw [iz_neg hv, if_pos rfl]
      left
      refine ⟨?_, rfl⟩
      by_cases q : m.1 28 (40 * s + k) < 0
      · rw [if_pos q]
      · rw [if_neg q, if_neg (by rw [le32]; rw [lt32] at q; omega)]
theorem race_l89 {s n : Nat} (hs : s < 4) (hn : n < 20) {K : St → Option (Int32 × St)} : ∀ (d f k : Nat) (m : St), m.1 0 49 = nI n → k + d = 6 → d < f → ∃ m', f_X12_race_l89 (nI s) K f (nI k) m = K m' ∧ (∀ c, c ≠ 20 → m'.1 c = m.1 c) ∧ (∀ j, k ≤ j → j < 6 → m'.1 20 (6 * n + j) = m.1 28 (40 * s + j)) ∧ (∀ p, p < 6 * n + k ∨ 6 * n + 6 ≤ p → m'.1 20 p = m.1 20 p) := by
  have e6 : (6 : Int32).toInt = 6 := rfl
  intro d
  induction d with
  | zero =>
    intro f k m h0 hk hf
    obtain ⟨f, rfl⟩ : ∃ g, f = g + 1 := ⟨f - 1, by omega⟩
    unfold f_X12_race_l89
    have : (6 : Int32) ≤ nI k := by rw [le_nI (by omega)]; omega
    rw [if_pos this]
    exact ⟨m, rfl, fun _ _ => rfl, fun j a b => by omega, fun _ _ => rfl⟩
  | succ d ih =>
    intro f k m h0 hk hf
    obtain ⟨f, rfl⟩ : ∃ g, f = g + 1 := ⟨f - 1, by omega⟩
    rw [f_X12_race_l89]
    have : ¬ (6 : Int32) ≤ nI k := by rw [le_nI (by omega)]; omega
    rw [if_neg this]
    simp only [nmE, h0, idx40 hs (show k < 200 by omega), gdN (show 40 * s + k < 160 by omega) (show 160 ≤ 1000000 by omega), clampN (show 40 * s + k < 1000000 by omega), (idx6 hn (show k < 6 by omega)).1, gdN (show 6 * n + k < 120 by omega) (show 120 ≤ 1000000 by omega), clampN (show 6 * n + k < 1000000 by omega), nI_1]
    obtain ⟨m', q1, q2, q3, q4⟩ := ih f (k + 1) (sI m 20 (6 * n + k) (m.1 28 (40 * s + k))) (by rw [sI_ro _ 20 _ _ 0 (by omega)]; exact h0) (by omega) (by omega)
    refine ⟨m', q1, fun c c1 => by rw [q2 c c1, sI_ro _ 20 _ _ c c1], fun j j1 j2 => ?_, fun p hp => ?_⟩
    · by_cases e : j = k
      · subst e
        rw [q4 _ (by omega)]
        simp [sI_rd]
      · rw [q3 j (by omega) j2, sI_ro _ 20 _ _ 28 (by omega)]
    · rw [q4 p (by omega)]
      have : ¬ p = 6 * n + k := by omega
      simp [sI_rd, this]
theorem p_race {PA : (Nat → Int32) → Nat → (Nat → Int32) → Nat → Int32 → Prop} : P_race (InvP PA) := by
  intro nc x m a hI
  obtain ⟨nr, tc, h1, h2, h3, h4, h5, h6, h7, h8, h9⟩ := id hI
  obtain ⟨n, r1, r2, r3, r4⟩ := id h8
  unfold f_X11_race f_X12_race
  rw [xSheet, mSheet]
  simp only [bpE]
  by_cases ha : 0 ≤ a.toInt ∧ a.toInt ≤ 3
  · obtain ⟨s, hs, rfl⟩ := of_rng (n := 4) ha.1 (by omega)
    rw [iz_pos ha, xMissing hs]
    simp only [if_neg ne10, gdN hs (show 4 ≤ 1000000 by omega), nmE, clampN (show s < 1000000 by omega), bpE]
    rcases h9 s hs with ⟨g1, g2⟩ | ⟨g1, ⟨t, ht, g2, g2'⟩, q, g3, g4, g5, g6⟩
    · rw [g1, g2]
      exact ⟨-11, x, m, rfl, rfl, hI⟩
    · have hne : ¬ x.1 59 s = -1 := by rw [g2]; exact nI_nem (by omega)
      rw [if_neg hne, g1, g4, g5]
      simp only [if_true, if_neg ne10]
      by_cases hq : nI q = 6
      · have hq6 : q = 6 := nI_inj (by omega) (by omega) hq
        subst hq6
        simp only [if_pos hq]
        unfold f_X5_add
        rcases race_chk (K := (nm (x.1 56 1) (fun v10 => (if v10 < 20 then nm (x.1 56 1) (fun v12 => gd (¬ 0 < (0 : Int32) ∧ ¬ (v12 * 6) < (0 : Int32) ∧ ¬ 6 < (0 : Int32) ∧ Int32.toNatClampNeg 0 + Int32.toNatClampNeg 6 ≤ 40 ∧ Int32.toNatClampNeg (v12 * 6) + Int32.toNatClampNeg 6 ≤ 120) (nm (sA x 57 (va_cpy (x.1 (62 + s)) (x.1 57) (Int32.toNatClampNeg 0) (Int32.toNatClampNeg (v12 * 6)) (Int32.toNatClampNeg 6))) (fun σ14 => nm (σ14.1 56 1) (fun v15 => nm (sI σ14 56 1 (v15 + 1)) (fun σ16 => nm (σ16.1 56 1) (fun v17 => some (v17 - 1, σ16))))))) else some ((-4), x))))) (K' := (if m.1 0 49 = 20 then some ((-4), m) else f_X12_race_l89 (nI s) (fun (σ21 : St) => some ((sI σ21 0 49 (σ21.1 0 49 + 1)).1 0 49 - 1, sI σ21 0 49 (σ21.1 0 49 + 1))) FU 0 m)) hs (fun i hi => g6 i hi) 6 FU 0 rfl (by decide) (fun i hi => by omega) with ⟨c1, c2⟩ | ⟨c1, c2, c3⟩
        · have z0 : (0 : Int32) = nI 0 := rfl
          rw [← z0] at c1 c2
          rw [c1, c2]
          exact ⟨-2, x, m, rfl, rfl, hI⟩
        · have z0 : nI 0 = 0 := rfl
          rw [z0] at c1 c2
          rw [c1, c2]
          simp only [nmE, r2, r3]
          by_cases hf : n = 20
          · subst hf
            have : ¬ nI 20 < 20 := by decide
            have h20 : nI 20 = 20 := rfl
            rw [if_neg this, if_pos h20]
            exact ⟨-4, x, m, rfl, rfl, hI⟩
          · have hlt : n < 20 := by omega
            have q1 : nI n < 20 := by
              have : (20 : Int32).toInt = 20 := rfl
              rw [lt32, nI_rng (by omega)]; omega
            have q2 : ¬ nI n = 20 := fun e => by
              have := congrArg Int32.toInt e
              rw [nI_rng (by omega), show (20 : Int32).toInt = 20 from rfl] at this
              omega
            rw [if_pos q1, if_neg q2]
            have e6 := (idx6 hlt (show 0 < 6 by omega)).2.2
            have hg : ¬ 0 < (0 : Int32) ∧ ¬ (nI n * 6) < (0 : Int32) ∧ ¬ 6 < (0 : Int32) ∧ Int32.toNatClampNeg 0 + Int32.toNatClampNeg 6 ≤ 40 ∧ Int32.toNatClampNeg (nI n * 6) + Int32.toNatClampNeg 6 ≤ 120 := by
              rw [e6, clampN (by omega)]
              have c6 : Int32.toNatClampNeg 6 = 6 := rfl
              exact ⟨by decide, nI_pos (by omega), by decide, by decide, by omega⟩
            rw [gd_pos hg, e6, clampN (show 6 * n < 1000000 by omega)]
            obtain ⟨m1, u1, u2, u3, u4⟩ := race_l89 (K := (fun (σ21 : St) => some ((sI σ21 0 49 (σ21.1 0 49 + 1)).1 0 49 - 1, sI σ21 0 49 (σ21.1 0 49 + 1)))) hs hlt 6 FU 0 m r3 rfl (by decide)
            rw [z0] at u1
            rw [u1]
            simp only [bdE, sA_ro _ 57 _ 56 (show 56 ≠ 57 by omega), r2, sI_at, u2 0 (by omega), r3, nI_1, nI_pred]
            generalize hX : sI (sA x 57 (va_cpy (x.1 (62 + s)) (x.1 57) (Int32.toNatClampNeg 0) (6 * n) (Int32.toNatClampNeg 6))) 56 1 (nI (n + 1)) = x'
            generalize hM : sI m1 0 49 (nI (n + 1)) = m'
            have hxo : ∀ k, k < 56 ∨ 57 < k → x'.1 k = x.1 k := fun k hk => by rw [← hX, sI_ro _ 56 _ _ k (by omega), sA_ro _ 57 _ k (by omega)]
            have hmo : ∀ k, k ≠ 0 ∧ k ≠ 20 → m'.1 k = m.1 k := fun k hk => by rw [← hM, sI_ro _ 0 _ _ k (by omega), u2 k (by omega)]
            have hm0 : ∀ j, j ≠ 49 → m'.1 0 j = m.1 0 j := fun j hj => by rw [← hM, sI_rne _ 0 49 _ j hj, u2 0 (by omega)]
            have hx0 : ∀ j, j ≠ 1000 → x'.1 0 j = x.1 0 j := fun j hj => by rw [hxo 0 (by omega)]
            have hx37 : x'.1 37 4 = x.1 37 4 := by rw [hxo 37 (by omega)]
            have hr19 : x'.2.2.1 19 = x.2.2.1 19 := by rw [← hX]; rfl
            have hr31 : x'.2.2.1 31 2 = x.2.2.1 31 2 := by rw [← hX]; rfl
            have hl : x'.2.2.2 = x.2.2.2 := by rw [← hX]; rfl
            refine ⟨_, x', m', rfl, rfl, nr, tc, h1.cg (fun k a b => hxo k (by omega)) (hm0 11 (by omega)) (fun k a b => hmo k (by omega)), h2.cg (fun k a b => hxo k (by omega)) (hm0 15 (by omega)) (hm0 16 (by omega)) (fun k a b => hmo k (by omega)), h3.cg (hx0 4 (by omega)) (hx0 5 (by omega)) (fun k a b => hxo k (by omega)) (fun j a b => hm0 j (by omega)) (fun k a b => hmo k (by omega)), h4.cg (hxo 15 (by omega)) (hxo 16 (by omega)) (hm0 6 (by omega)) (hmo 3 (by omega)), h5.cg (hx0 9 (by omega)) (hx0 10 (by omega)) (fun k a => hxo k (by omega)) hr19 hr31 hl (hm0 3 (by omega)) (hm0 4 (by omega)) (hmo 1 (by omega)) (hmo 2 (by omega)), h6.cg (fun k a b => hxo k (by omega)) (hm0 33 (by omega)) (hmo 11 (by omega)) (hmo 12 (by omega)), h7.cg hx37 (fun k a b => hxo k (by omega)) (hm0 46 (by omega)) (fun k a b => hmo k (by omega)), ?_, h9.cg (fun k a b => hxo k (by omega)) (fun k a b => hmo k (by omega))⟩
            refine ⟨n + 1, by omega, by rw [← hX, sI_at], by rw [← hM, sI_at], fun i hi => ?_⟩
            have x57 : x'.1 57 i = if 6 * n ≤ i ∧ i < 6 * n + 6 then x.1 (62 + s) (i - 6 * n) else x.1 57 i := by
              rw [← hX, sI_ro _ 56 _ _ 57 (by omega), sA_row]
              unfold va_cpy
              have c0 : Int32.toNatClampNeg 0 = 0 := rfl
              have c6 : Int32.toNatClampNeg 6 = 6 := rfl
              rw [c0, c6, Nat.zero_add]
            have m20 : m'.1 20 i = m1.1 20 i := by rw [← hM, sI_ro _ 0 _ _ 20 (by omega)]
            rw [x57, m20]
            by_cases e : 6 * n ≤ i
            · rw [if_pos (by omega)]
              have := u3 (i - 6 * n) (by omega) (by omega)
              rw [show 6 * n + (i - 6 * n) = i by omega] at this
              rw [this]
              exact ⟨g6 _ (by omega), c3 _ (by omega)⟩
            · rw [if_neg (by omega), u4 i (by omega)]
              exact r4 i (by omega)
      · simp only [if_neg hq]
        exact ⟨_, x, m, rfl, rfl, hI⟩
  · rw [iz_neg ha]
    exact ⟨_, x, m, rfl, rfl, hI⟩
