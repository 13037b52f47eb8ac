/-- a stretch of strokes of one kind -/
theorem seg {nc nr tc rid n k j i0 e : Nat} {κ : Int32} (hn : n ≤ 60) (he : e ≤ n) (hk : ∀ q, i0 ≤ q → q < e → (if nI k ≤ nI q then (if nI q < nI n - nI j then (0 : Int32) else 2) else 1) = κ) : ∀ (d f i : Nat) (x m : St), i + d = e → i0 ≤ i → d < f → RS nc nr tc rid x m → RD nr i x m → ∃ x' m', f_X1_pullMany_l2 κ (nI (e - i0)) nc f (nI (i - i0)) x = some x' ∧ (∀ (K : St → Option (Int64 × St)) (F : Nat), f_X12_spurts_l63 (nI n) (nI k) (nI j) K (F + d) (nI i) m = f_X12_spurts_l63 (nI n) (nI k) (nI j) K F (nI e) m') ∧ FRs x m x' m' ∧ RD nr e x' m' := by
  intro d
  induction d with
  | zero =>
    intro f i x m hi h0 hf hS hD
    obtain ⟨f, rfl⟩ : ∃ g, f = g + 1 := ⟨f - 1, by omega⟩
    have hie : i = e := by omega
    subst hie
    have : nI (i - i0) ≤ nI (i - i0) := by rw [le_nI (by omega), nI_rng (by omega)]; omega
    exact ⟨x, m, by rw [f_X1_pullMany_l2, if_pos this], fun K F => rfl, FRs.rfl' x m, hD⟩
  | succ d ih =>
    intro f i x m hi h0 hf hS hD
    obtain ⟨f, rfl⟩ : ∃ g, f = g + 1 := ⟨f - 1, by omega⟩
    have h1 : ¬ nI (e - i0) ≤ nI (i - i0) := by rw [le_nI (by omega), nI_rng (by omega)]; omega
    have h2 : ¬ nI n ≤ nI i := by rw [le_nI (by omega), nI_rng (by omega)]; omega
    obtain ⟨x1, m1, q1, q2, q3, q4, q5, q6⟩ := pull_once (κ := κ) hS hD (by omega)
    obtain ⟨x', m', i1, i2, i3, i4⟩ := ih f (i + 1) x1 m1 (by omega) (by omega) (by omega) (q3.rs hS) q4
    refine ⟨x', m', ?_, fun K F => ?_, q3.trans i3, i4⟩
    · rw [f_X1_pullMany_l2, if_neg h1, q1, bdvE, nI_1, show i - i0 + 1 = i + 1 - i0 by omega]
      exact i1
    · rw [← i2 K F, show F + (d + 1) = (F + d) + 1 by omega, f_X12_spurts_l63, if_neg h2, jnE]
      have hkk := hk i h0 (by omega)
      by_cases c1 : nI k ≤ nI i
      · rw [if_pos c1] at hkk ⊢
        by_cases c2 : nI i < nI n - nI j
        · rw [if_pos c2] at hkk ⊢
          rw [← hkk] at q2
          dsimp only
          rw [q2, bdvE, nI_1]
        · rw [if_neg c2] at hkk ⊢
          rw [← hkk] at q2
          dsimp only
          rw [q2, bdvE, nI_1]
      · rw [if_neg c1] at hkk ⊢
        rw [← hkk] at q2
        dsimp only
        rw [q2, bdvE, nI_1]
/-- the best so far -/
def RelS (best best' : Int32) (F most : Int64) : Prop := (F = -4611686018427387904 ∧ most = -1) ∨ (best = best' ∧ F = most ∧ 0 ≤ F.toInt)
theorem spurts_l {nc nr tc n k : Nat} {x m : St} (hA : A9 PAt nc nr tc x m) (hn : n ≤ 60) (hk : k ≤ n) : ∀ (d f j : Nat) (best best' : Int32) (F most : Int64) (x2 m2 : St), j + d = n - k + 1 → d < f → FRw tc x m x2 m2 → RelS best best' F most → (j = 0 ∨ (best = best' ∧ F = most ∧ 0 ≤ F.toInt)) → ∃ b F' x' m', (∀ K : Int32 → Int64 → St → Option (Int64 × St), f_X11_spurts_l43 (nI n) (nI k) nc K f best F (nI j) x2 = K b F' x') ∧ (∀ K : Int32 → Int64 → St → Option (Int64 × St), f_X12_spurts_l48 (nI n) (nI k) K f best' most (nI j) m2 = K b F' m') ∧ FRw tc x m x' m' := by
  intro d
  induction d with
  | zero =>
    intro f j best best' F most x2 m2 hj hf hF hR h0
    obtain ⟨f, rfl⟩ : ∃ g, f = g + 1 := ⟨f - 1, by omega⟩
    have hlt : nI n - nI k < nI j := by rw [sub_nI hk (by omega), lt_nI (by omega), nI_rng (by omega)]; omega
    rcases h0 with h | ⟨h1, h2, h3⟩
    · omega
    · subst h1 h2
      exact ⟨best, F, x2, m2, fun K => by rw [f_X11_spurts_l43, if_pos hlt], fun K => by rw [f_X12_spurts_l48, if_pos hlt], hF⟩
  | succ d ih =>
    intro f j best best' F most x2 m2 hj hf hF hR h0
    obtain ⟨f, rfl⟩ : ∃ g, f = g + 1 := ⟨f - 1, by omega⟩
    have hjn : j ≤ n - k := by omega
    have hnl : ¬ nI n - nI k < nI j := by rw [sub_nI hk (by omega), lt_nI (by omega), nI_rng (by omega)]; omega
    have hA2 := hF.a9 hA
    obtain ⟨rid, a1, a2, a3, a4, a5, a6⟩ := ruleOf hA2
    obtain ⟨x3, m3, b1, b2, b3, b4, b5, _⟩ := start_row hA2 a1 a4
    have enj : nI n - nI j = nI (n - j) := sub_nI (by omega) (by omega)
    have enk : nI n - nI k - nI j = nI (n - j - k) := by rw [sub_nI hk (by omega), sub_nI (by omega) (by omega)]; congr 1; omega
    obtain ⟨x4, m4, c1, c2, c3, c4⟩ := seg (n := n) (k := k) (j := j) (i0 := 0) (e := k) (κ := 1) hn hk (fun q q1 q2 => by rw [if_neg (by rw [le_nI (by omega), nI_rng (by omega)]; omega)]) k FU 0 x3 m3 (by omega) (by omega) (by unfold FU; omega) b3 b4
    obtain ⟨x5, m5, d1, d2, d3, d4⟩ := seg (n := n) (k := k) (j := j) (i0 := k) (e := n - j) (κ := 0) hn (by omega) (fun q q1 q2 => by rw [if_pos (by rw [le_nI (by omega), nI_rng (by omega)]; omega), enj, if_pos (by rw [lt_nI (by omega), nI_rng (by omega)]; omega)]) (n - j - k) FU k x4 m4 (by omega) (by omega) (by unfold FU; omega) (c3.rs b3) c4
    obtain ⟨x6, m6, e1, e2, e3, e4⟩ := seg (n := n) (k := k) (j := j) (i0 := n - j) (e := n) (κ := 2) hn (by omega) (fun q q1 q2 => by rw [if_pos (by rw [le_nI (by omega), nI_rng (by omega)]; omega), enj, if_neg (by rw [lt_nI (by omega), nI_rng (by omega)]; omega)]) j FU (n - j) x5 m5 (by omega) (by omega) (by unfold FU; omega) (d3.rs (c3.rs b3)) d4
    rw [Nat.sub_self, show nI 0 = 0 from rfl] at c1 d1 e1
    rw [Nat.sub_zero] at c1
    rw [show n - (n - j) = j by omega] at e1
    have hFn : FRw tc x m x6 m6 := hF.trans (b5.trans ((FRw.of c3).trans ((FRw.of d3).trans (FRw.of e3))))
    obtain ⟨_, _, _, ⟨w1, w2, w3⟩, _⟩ := e4
    have hmod : ∀ K : St → Option (Int64 × St), f_X12_spurts_l63 (nI n) (nI k) (nI j) K FU 0 m3 = K m6 := fun K => by
      obtain ⟨G, hG⟩ : ∃ G, FU = ((G + 1 + j) + (n - j - k)) + k := ⟨4999 - n, by unfold FU; omega⟩
      rw [hG, show (0 : Int32) = nI 0 from rfl, c2 K, d2 K, e2 K, f_X12_spurts_l63, if_pos (by rw [le_nI (by omega), nI_rng (by omega)]; omega)]
    have hcls : ∀ K : Int32 → Int64 → St → Option (Int64 × St), f_X11_spurts_l43 (nI n) (nI k) nc K (f + 1) best F (nI j) x2 = if x6.2.1 31 11 ≤ F then f_X11_spurts_l43 (nI n) (nI k) nc K f best F (nI (j + 1)) x6 else f_X11_spurts_l43 (nI n) (nI k) nc K f (nI j) (x6.2.1 31 11) (nI (j + 1)) x6 := fun K => by
      rw [f_X11_spurts_l43, if_neg hnl]
      simp only [nmE, jnE, a3, gdN a2 (show 6 ≤ 1000000 by omega), clampN (show rid < 1000000 by omega), a5, moE, gd_pos a6, b1, bdvE, f_X1_pullMany, c1, enk, d1, e1, nI_1]
    have hmdl : ∀ K : Int32 → Int64 → St → Option (Int64 × St), f_X12_spurts_l48 (nI n) (nI k) K (f + 1) best' most (nI j) m2 = if most < m6.2.1 0 37 then f_X12_spurts_l48 (nI n) (nI k) K f (nI j) (m6.2.1 0 37) (nI (j + 1)) m6 else f_X12_spurts_l48 (nI n) (nI k) K f best' most (nI (j + 1)) m6 := fun K => by
      rw [f_X12_spurts_l48, if_neg hnl, b2, bdvE, hmod]
      simp only [nmE, jnE, nI_1]
    have lm : (-1 : Int64).toInt = -1 := rfl
    have lN : (-4611686018427387904 : Int64).toInt = -4611686018427387904 := rfl
    have new : ∃ b F' x' m', (∀ K : Int32 → Int64 → St → Option (Int64 × St), f_X11_spurts_l43 (nI n) (nI k) nc K f (nI j) (x6.2.1 31 11) (nI (j + 1)) x6 = K b F' x') ∧ (∀ K : Int32 → Int64 → St → Option (Int64 × St), f_X12_spurts_l48 (nI n) (nI k) K f (nI j) (m6.2.1 0 37) (nI (j + 1)) m6 = K b F' m') ∧ FRw tc x m x' m' :=
      ih f (j + 1) (nI j) (nI j) _ _ x6 m6 (by omega) (by omega) hFn (Or.inr ⟨rfl, w1, by rw [w1]; exact w2⟩) (Or.inr ⟨rfl, w1, by rw [w1]; exact w2⟩)
    rcases hR with ⟨z1, z2⟩ | ⟨z1, z2, z3⟩
    · have p1 : ¬ x6.2.1 31 11 ≤ F := by rw [z1, le64, lN, w1]; omega
      have p2 : most < m6.2.1 0 37 := by rw [z2, lt64, lm]; omega
      obtain ⟨b, F', x', m', i1, i2, i3⟩ := new
      exact ⟨b, F', x', m', fun K => by rw [hcls, if_neg p1]; exact i1 K, fun K => by rw [hmdl, if_pos p2]; exact i2 K, i3⟩
    · subst z1 z2
      by_cases p1 : x6.2.1 31 11 ≤ F
      · have p2 : ¬ F < m6.2.1 0 37 := by rw [lt64]; rw [le64, w1] at p1; omega
        obtain ⟨b, F', x', m', i1, i2, i3⟩ := ih f (j + 1) best best F F x6 m6 (by omega) (by omega) hFn (Or.inr ⟨rfl, rfl, z3⟩) (Or.inr ⟨rfl, rfl, z3⟩)
        exact ⟨b, F', x', m', fun K => by rw [hcls, if_pos p1]; exact i1 K, fun K => by rw [hmdl, if_neg p2]; exact i2 K, i3⟩
      · have p2 : F < m6.2.1 0 37 := by rw [lt64]; rw [le64, w1] at p1; omega
        obtain ⟨b, F', x', m', i1, i2, i3⟩ := new
        exact ⟨b, F', x', m', fun K => by rw [hcls, if_neg p1]; exact i1 K, fun K => by rw [hmdl, if_pos p2]; exact i2 K, i3⟩
theorem p_spurts : P_spurts (InvP PAt) := by
  intro nc x m a b w hI
  obtain ⟨nr, tc, hA⟩ := id hI
  have e0 : (0 : Int32).toInt = 0 := rfl
  have e1 : (1 : Int32).toInt = 1 := rfl
  have e60 : (60 : Int32).toInt = 60 := rfl
  have l0 : (0 : Int64).toInt = 0 := rfl
  have l1 : (1 : Int64).toInt = 1 := rfl
  have l60 : (60 : Int64).toInt = 60 := rfl
  unfold f_X11_spurts f_X12_spurts
  rw [w_in, w_in, w_in, m_in, m_in, m_in, i2l_toInt, e0, e1, e60, l0, l1, l60]
  simp only [bpE]
  by_cases h1 : 1 ≤ a.toInt ∧ a.toInt ≤ 60
  · by_cases h2 : 0 ≤ b.toInt ∧ b.toInt ≤ a.toInt
    · by_cases h3 : 0 ≤ w.toInt ∧ w.toInt ≤ 1
      · rw [iz_pos h1, iz_pos h2, iz_pos h3]
        simp only [if_neg ne10]
        obtain ⟨n, hn, rfl⟩ := of_rng (n := 61) (a := a) (by omega) (by omega)
        obtain ⟨k, hk, rfl⟩ := of_rng (n := 61) (a := b) h2.1 (by omega)
        rw [nI_rng (by omega), nI_rng (by omega)] at h2
        obtain ⟨bb, F', x', m', i1, i2, i3⟩ := spurts_l hA (show n ≤ 60 by omega) (show k ≤ n by omega) (n - k + 1) FU 0 (-1) 0 (-4611686018427387904) (-1) x m (by omega) (by unfold FU; omega) (FRw.rfl' tc x m) (Or.inl ⟨rfl, rfl⟩) (Or.inl rfl)
        rw [show nI 0 = 0 from rfl] at i1 i2
        rw [i1, i2]
        by_cases w0 : w = 0
        · rw [if_pos w0, if_pos w0]; exact ⟨_, x', m', rfl, rfl, nr, tc, i3.a9 hA⟩
        · rw [if_neg w0, if_neg w0]; exact ⟨_, x', m', rfl, rfl, nr, tc, i3.a9 hA⟩
      · rw [iz_pos h1, iz_pos h2, iz_neg h3]
        simp only [if_neg ne10, if_true]
        exact ⟨_, x, m, rfl, rfl, hI⟩
    · rw [iz_pos h1, iz_neg h2]
      simp only [if_neg ne10, if_true]
      exact ⟨_, x, m, rfl, rfl, hI⟩
  · rw [iz_neg h1]
    exact ⟨_, x, m, rfl, rfl, hI⟩
