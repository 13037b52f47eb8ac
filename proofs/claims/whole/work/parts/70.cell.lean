theorem idx40 {s : Nat} (hs : s < 4) {i : Nat} (hi : i < 200) : (40 : Int32) * nI s + nI i = nI (40 * s + i) := by
  rw [show (40 : Int32) = nI 40 from rfl, mul_nI 40 s (by omega) (by omega) (by omega), nI_add]
theorem isheet_put {x m : St} {s i n : Nat} {v : Int32} (h9 : ISheet x m) (hs : s < 4) (hn : n ≤ 40) (hi : i < n) : ISheet (sI x (62 + s) i v) (sI m 28 (40 * s + i) v) := by
  intro u hu
  have := h9 u hu
  rw [sI_ro _ (62 + s) i _ 59 (by omega), sI_ro _ (62 + s) i _ 60 (by omega), sI_ro _ 28 _ _ 25 (by omega), sI_ro _ 28 _ _ 26 (by omega), sI_ro _ 28 _ _ 27 (by omega)]
  rcases this with g | ⟨g1, g2, n', g3, g4, g5, g6⟩
  · exact Or.inl g
  · refine Or.inr ⟨g1, g2, n', g3, g4, g5, fun q hq => ?_⟩
    have := g6 q hq
    simp only [sI_rd]
    by_cases e : u = s
    · subst e
      by_cases e2 : q = i
      · subst e2; simp
      · rw [if_neg (by omega), if_neg (by omega)]; exact this
    · rw [if_neg (by omega), if_neg (by omega)]; exact this
theorem p_cell {PA : (Nat → Int32) → Nat → (Nat → Int32) → Nat → Int32 → Prop} : P_cell (InvP PA) := by
  intro nc x m a b c hI
  obtain ⟨nr, tc, h1, h2, h3, h4, h5, h6, h7, h8, h9⟩ := id hI
  have e1 : (1 : Int32).toInt = 1 := rfl
  have l0 : (0 : Int64).toInt = 0 := rfl
  unfold f_X11_cell f_X12_cell
  rw [xSheet, mSheet]
  simp only [bpE]
  by_cases ha : 0 ≤ a.toInt ∧ a.toInt ≤ 3
  · obtain ⟨s, hs, rfl⟩ := of_rng (n := 4) ha.1 (by omega)
    rw [iz_pos ha, xMissing hs]
    simp only [if_neg ne10, gdN hs (show 4 ≤ 1000000 by omega), nmE, clampN (show s < 1000000 by omega), bpE]
    rcases h9 s hs with ⟨g1, g2⟩ | ⟨g1, ⟨t, ht, g2, g2'⟩, n, g3, g4, g5, g6⟩
    · rw [g1, g2]
      exact ⟨-11, x, m, rfl, rfl, hI⟩
    · have hne : ¬ x.1 59 s = -1 := by rw [g2]; exact nI_nem (by omega)
      rw [if_neg hne, g1, g5, m_in, i2l_toInt, pred_toInt (by omega), l0, xHolds hs g3 g4, e1]
      simp only [if_true, if_neg ne10, bpE]
      by_cases hb : 0 ≤ b.toInt ∧ b.toInt ≤ (n : Int) - 1
      · rw [iz_pos hb, iz_pos (c := 0 ≤ b.toInt ∧ (0 : Int) ≤ 1 ∧ 1 ≤ (n : Int) ∧ b.toInt ≤ (n : Int) - 1) (by omega)]
        obtain ⟨i, hi, rfl⟩ := of_rng (n := n) hb.1 (by omega)
        simp only [if_neg ne10]
        unfold f_X7_put
        simp only [gdN hs (show 4 ≤ 1000000 by omega), nmE, clampN (show s < 1000000 by omega), idx40 hs (show i < 200 by omega), gdN (show 40 * s + i < 160 by omega) (show 160 ≤ 1000000 by omega), gdN (show i < 40 by omega) (show 40 ≤ 1000000 by omega), clampN (show i < 1000000 by omega), clampN (show 40 * s + i < 1000000 by omega), jnE, g2, g2']
        have fin : ∀ v : Int32, InvP PA nc (sI x (62 + s) i v) (sI m 28 (40 * s + i) v) := fun v => inv_sheet hI (fun k hk => sI_ro _ _ _ _ k (by omega)) rfl (fun k hk => sI_ro _ _ _ _ k (by omega)) (isheet_put h9 hs g3 hi)
        by_cases t0 : nI t = 0
        · simp only [if_pos t0, bdvE]
          exact ⟨_, _, _, rfl, rfl, fin _⟩
        · by_cases t1 : nI t = 1
          · simp only [if_neg t0, if_pos t1, bdvE]
            exact ⟨_, _, _, rfl, rfl, fin _⟩
          · simp only [if_neg t0, if_neg t1, bdvE]
            exact ⟨_, _, _, rfl, rfl, fin _⟩
      · rw [iz_neg hb, iz_neg (c := 0 ≤ b.toInt ∧ (0 : Int) ≤ 1 ∧ 1 ≤ (n : Int) ∧ b.toInt ≤ (n : Int) - 1) (by omega)]
        simp only [if_true]
        exact ⟨_, x, m, rfl, rfl, hI⟩
  · rw [iz_neg ha]
    exact ⟨_, x, m, rfl, rfl, hI⟩
/-- the model's loop of copy, up or down -/
theorem copy_l {s o i j n : Nat} {t : Int32} {idx : Nat → Nat} (hs : s < 4) (ho : o < 4) (hi : i + n ≤ 40) (hj : j + n ≤ 40) (ht : (t = 0 ∧ ∀ q, q < n → idx q = q) ∨ (t = 1 ∧ ∀ q, q < n → idx q = n - 1 - q)) (hd : ∀ k q, k < n → q < k → 40 * s + i + idx k ≠ 40 * o + j + idx q) (m : St) : ∀ (d f k : Nat) (σ : St), k + d = n → d < f → (∀ c, c ≠ 28 → σ.1 c = m.1 c) → (∀ q, q < k → σ.1 28 (40 * o + j + idx q) = m.1 28 (40 * s + i + idx q)) → (∀ p, (∀ q, q < k → p ≠ 40 * o + j + idx q) → σ.1 28 p = m.1 28 p) → ∃ m', f_X12_copy_l121 (nI s) (nI i) (nI o) (nI j) (nI n) t f (nI k) σ = some (nI n, m') ∧ (∀ c, c ≠ 28 → m'.1 c = m.1 c) ∧ (∀ q, q < n → m'.1 28 (40 * o + j + idx q) = m.1 28 (40 * s + i + idx q)) ∧ (∀ p, (∀ q, q < n → p ≠ 40 * o + j + idx q) → m'.1 28 p = m.1 28 p) := by
  intro d
  induction d with
  | zero =>
    intro f k σ hk hf s1 s2 s3
    obtain ⟨f, rfl⟩ : ∃ g, f = g + 1 := ⟨f - 1, by omega⟩
    unfold f_X12_copy_l121
    have : nI n ≤ nI k := by rw [le_nI (by omega), nI_rng (by omega)]; omega
    rw [if_pos this]
    have hkn : k = n := by omega
    subst hkn
    exact ⟨σ, rfl, s1, s2, s3⟩
  | succ d ih =>
    intro f k σ hk hf s1 s2 s3
    obtain ⟨f, rfl⟩ : ∃ g, f = g + 1 := ⟨f - 1, by omega⟩
    have hidx : idx k < n := by
      rcases ht with ⟨_, h⟩ | ⟨_, h⟩
      · rw [h k (by omega)]; omega
      · rw [h k (by omega)]; omega
    have step : f_X12_copy_l121 (nI s) (nI i) (nI o) (nI j) (nI n) t (f + 1) (nI k) σ = f_X12_copy_l121 (nI s) (nI i) (nI o) (nI j) (nI n) t f (nI (k + 1)) (sI σ 28 (40 * o + j + idx k) (σ.1 28 (40 * s + i + idx k))) := by
      have hnle : ¬ nI n ≤ nI k := by rw [le_nI (by omega), nI_rng (by omega)]; omega
      have en : (nI n - 1) - nI k = nI (n - 1 - k) := by
        rw [show (1 : Int32) = nI 1 from rfl, sub_nI (by omega) (by omega), sub_nI (by omega) (by omega)]
      have rest : ∀ p, p < n → (nm (((40 * nI s) + nI i) + nI p) (fun v32 => gd (inb v32 160) (nm (σ.1 28 (Int32.toNatClampNeg v32)) (fun v34 => gd (inb (((40 * nI o) + nI j) + nI p) 160) (nm (sI σ 28 (Int32.toNatClampNeg (((40 * nI o) + nI j) + nI p)) v34) (fun σ36 => f_X12_copy_l121 (nI s) (nI i) (nI o) (nI j) (nI n) t f (nI k + 1) σ36)))))) = f_X12_copy_l121 (nI s) (nI i) (nI o) (nI j) (nI n) t f (nI (k + 1)) (sI σ 28 (40 * o + j + p) (σ.1 28 (40 * s + i + p))) := fun p hp => by
        simp only [nmE, idx40 hs (show i < 200 by omega), idx40 ho (show j < 200 by omega), nI_add, gdN (show 40 * s + i + p < 160 by omega) (show 160 ≤ 1000000 by omega), gdN (show 40 * o + j + p < 160 by omega) (show 160 ≤ 1000000 by omega), clampN (show 40 * s + i + p < 1000000 by omega), clampN (show 40 * o + j + p < 1000000 by omega), nI_1]
      rw [f_X12_copy_l121, if_neg hnle, jnE]
      rcases ht with ⟨t0, h⟩ | ⟨t1, h⟩
      · rw [if_pos t0, h k (by omega)]
        exact rest k (by omega)
      · have t2 : ¬ t = 0 := by rw [t1]; decide
        rw [if_neg t2, h k (by omega), en]
        exact rest (n - 1 - k) (by omega)
    have inj : ∀ q, q < k → 40 * o + j + idx q ≠ 40 * o + j + idx k := fun q hq => by
      rcases ht with ⟨_, h⟩ | ⟨_, h⟩
      · rw [h k (by omega), h q (by omega)]; omega
      · rw [h k (by omega), h q (by omega)]; omega
    have hrd : σ.1 28 (40 * s + i + idx k) = m.1 28 (40 * s + i + idx k) := s3 _ (fun q hq => hd k q (by omega) hq)
    rw [step]
    refine ih f (k + 1) _ (by omega) (by omega) (fun c hc => by rw [sI_ro _ 28 _ _ c hc, s1 c hc]) (fun q hq => ?_) (fun p hp => ?_)
    · by_cases e : q = k
      · subst e; rw [sI_at, hrd]
      · rw [sI_rne _ 28 _ _ _ (inj q (by omega)), s2 q (by omega)]
    · rw [sI_rne _ 28 _ _ p (hp k (by omega)), s3 p (fun q hq => hp q (by omega))]
theorem p_copy {PA : (Nat → Int32) → Nat → (Nat → Int32) → Nat → Int32 → Prop} : P_copy (InvP PA) := by
  intro nc x m a b c d e hI
  obtain ⟨nr, tc, h1, h2, h3, h4, h5, h6, h7, h8, h9⟩ := id hI
  have e0 : (0 : Int32).toInt = 0 := rfl
  unfold f_X11_copy f_X12_copy
  rw [xSheet, mSheet, xSheet, mSheet]
  simp only [bpE]
  by_cases ha : 0 ≤ a.toInt ∧ a.toInt ≤ 3
  · by_cases hc : 0 ≤ c.toInt ∧ c.toInt ≤ 3
    · obtain ⟨s, hs, rfl⟩ := of_rng (n := 4) ha.1 (by omega)
      obtain ⟨o, ho, rfl⟩ := of_rng (n := 4) hc.1 (by omega)
      rw [iz_pos ha, iz_pos hc, xMissing hs, xMissing ho]
      simp only [if_neg ne10, gdN hs (show 4 ≤ 1000000 by omega), gdN ho (show 4 ≤ 1000000 by omega), nmE, clampN (show s < 1000000 by omega), clampN (show o < 1000000 by omega), bpE]
      rcases h9 s hs with ⟨g1, g2⟩ | ⟨g1, ⟨t, ht, g2, g2'⟩, n1, g3, g4, g5, g6⟩
      · rw [g1, g2]
        exact ⟨-11, x, m, rfl, rfl, hI⟩
      · have hne : ¬ x.1 59 s = -1 := by rw [g2]; exact nI_nem (by omega)
        rw [if_neg hne, g1]
        simp only [if_true, if_neg ne10]
        rcases h9 o ho with ⟨k1, k2⟩ | ⟨k1, ⟨t', ht', k2, k2'⟩, n2, k3, k4, k5, k6⟩
        · rw [k1, k2]
          exact ⟨-11, x, m, rfl, rfl, hI⟩
        · have hne' : ¬ x.1 59 o = -1 := by rw [k2]; exact nI_nem (by omega)
          rw [if_neg hne', k1, g2, g2', k2, k2', g5, k5, xHolds hs g3 g4, xHolds ho k3 k4]
          simp only [if_true, if_neg ne10, bpE]
          by_cases htt : nI t = nI t'
          · simp only [if_pos htt]
            by_cases q1 : 0 ≤ b.toInt ∧ 0 ≤ e.toInt ∧ e.toInt ≤ n1 ∧ b.toInt ≤ (n1 : Int) - e.toInt
            · have en1 := nI_rng (n := n1) (by omega)
              have en2 := nI_rng (n := n2) (by omega)
              have u1 : ¬ e < 0 := by rw [lt32]; omega
              have u2 : ¬ b < 0 := by rw [lt32]; omega
              have s1 : (nI n1 - e).toInt = (n1 : Int) - e.toInt := by rw [sub32 (by omega), en1]
              have s2 : (nI n2 - e).toInt = (n2 : Int) - e.toInt := by rw [sub32 (by omega), en2]
              have u3 : ¬ nI n1 - e < b := by rw [lt32, s1]; omega
              rw [iz_pos q1]
              simp only [if_neg ne10, if_neg u1, if_neg u2, if_neg u3]
              by_cases q2 : 0 ≤ d.toInt ∧ 0 ≤ e.toInt ∧ e.toInt ≤ n2 ∧ d.toInt ≤ (n2 : Int) - e.toInt
              · have u4 : ¬ d < 0 := by rw [lt32]; omega
                have u5 : d ≤ nI n2 - e := by rw [le32, s2]; omega
                rw [iz_pos q2]
                simp only [if_neg ne10, if_neg u4, if_pos u5]
                obtain ⟨i, hi, rfl⟩ := of_rng (n := 41) q1.1 (by omega)
                obtain ⟨j, hj, rfl⟩ := of_rng (n := 41) q2.1 (by omega)
                obtain ⟨n, hn, rfl⟩ := of_rng (n := 41) q1.2.1 (by omega)
                rw [nI_rng (by omega), nI_rng (by omega)] at q1 q2
                have hg : ¬ nI i < (0 : Int32) ∧ ¬ nI j < (0 : Int32) ∧ ¬ nI n < (0 : Int32) ∧ Int32.toNatClampNeg (nI i) + Int32.toNatClampNeg (nI n) ≤ 40 ∧ Int32.toNatClampNeg (nI j) + Int32.toNatClampNeg (nI n) ≤ 40 := by
                  rw [clampN (by omega), clampN (by omega), clampN (by omega)]
                  exact ⟨u2, u4, u1, by omega, by omega⟩
                rw [gd_pos hg]
                simp only [clampN (show i < 1000000 by omega), clampN (show j < 1000000 by omega), clampN (show n < 1000000 by omega), jnE]
                have fin : ∀ (T : Int32) (idx : Nat → Nat), (T = 0 ∧ ∀ q, q < n → idx q = q) ∨ (T = 1 ∧ ∀ q, q < n → idx q = n - 1 - q) → (∀ k q, k < n → q < k → 40 * s + i + idx k ≠ 40 * o + j + idx q) → ∃ (r : Int32) (x' m' : St), (some (nI n, sA x (62 + o) (va_cpy (x.1 (62 + s)) (x.1 (62 + o)) i j n)) : Option (Int32 × St)) = some (r, x') ∧ f_X12_copy_l121 (nI s) (nI i) (nI o) (nI j) (nI n) T FU 0 m = some (r, m') ∧ InvP PA nc x' m' := by
                  intro T idx hT hd
                  obtain ⟨m', v1, v2, v3, v4⟩ := copy_l hs ho (show i + n ≤ 40 by omega) (show j + n ≤ 40 by omega) hT hd m n FU 0 m (by omega) (by unfold FU; omega) (fun _ _ => rfl) (fun q hq => by omega) (fun _ _ => rfl)
                  refine ⟨nI n, _, m', rfl, v1, inv_sheet hI (fun k hk => sA_ro _ _ _ k (by omega)) rfl (fun k hk => v2 k (by omega)) fun u hu => ?_⟩
                  have hI9 := h9 u hu
                  rw [sA_ro _ _ _ 59 (by omega), sA_ro _ _ _ 60 (by omega), v2 25 (by omega), v2 26 (by omega), v2 27 (by omega)]
                  have hidx : ∀ q, q < n → idx q < n := fun q hq => by
                    rcases hT with ⟨_, h⟩ | ⟨_, h⟩
                    · rw [h q hq]; omega
                    · rw [h q hq]; omega
                  have hsur : ∀ p, p < n → ∃ q, q < n ∧ idx q = p := fun p hp => by
                    rcases hT with ⟨_, h⟩ | ⟨_, h⟩
                    · exact ⟨p, hp, h p hp⟩
                    · exact ⟨n - 1 - p, by omega, by rw [h _ (by omega)]; omega⟩
                  rcases hI9 with g | ⟨w1, w2, n', w3, w4, w5, w6⟩
                  · exact Or.inl g
                  · refine Or.inr ⟨w1, w2, n', w3, w4, w5, fun p hp => ?_⟩
                    by_cases eo : u = o
                    · subst eo
                      rw [sA_row]
                      unfold va_cpy
                      by_cases hin : j ≤ p ∧ p < j + n
                      · rw [if_pos hin]
                        obtain ⟨q, hq, eq⟩ := hsur (p - j) (by omega)
                        have := v3 q hq
                        rw [eq] at this
                        rw [show 40 * u + p = 40 * u + j + (p - j) by omega, this]
                        have := g6 (i + (p - j)) (by omega)
                        rw [this, Nat.add_assoc]
                      · rw [if_neg hin, v4 _ (fun q hq => by have := hidx q hq; omega)]
                        exact w6 p hp
                    · rw [sA_ro _ _ _ (62 + u) (by omega), v4 _ (fun q hq => by have := hidx q hq; omega)]
                      exact w6 p hp
                by_cases eso : nI s = nI o
                · have eso2 : s = o := nI_inj (by omega) (by omega) eso
                  by_cases hji : nI j ≤ nI i
                  · rw [if_pos eso, if_pos hji]
                    rw [le_nI (by omega), nI_rng (by omega)] at hji
                    exact fin 0 (fun q => q) (Or.inl ⟨rfl, fun _ _ => rfl⟩) (fun k q hk hq => by omega)
                  · rw [if_pos eso, if_neg hji]
                    rw [le_nI (by omega), nI_rng (by omega)] at hji
                    exact fin 1 (fun q => n - 1 - q) (Or.inr ⟨rfl, fun _ _ => rfl⟩) (fun k q hk hq => by omega)
                · rw [if_neg eso]
                  have eso2 : s ≠ o := fun h => eso (by rw [h])
                  exact fin 0 (fun q => q) (Or.inl ⟨rfl, fun _ _ => rfl⟩) (fun k q hk hq => by omega)
              · rw [iz_neg q2]
                simp only [if_true]
                by_cases u4 : d < 0
                · rw [if_pos u4]; exact ⟨_, x, m, rfl, rfl, hI⟩
                · have u5 : ¬ d ≤ nI n2 - e := by rw [le32, s2]; rw [lt32] at u4; omega
                  rw [if_neg u4, if_neg u5]; exact ⟨_, x, m, rfl, rfl, hI⟩
            · rw [iz_neg q1]
              simp only [if_true]
              have en1 := nI_rng (n := n1) (by omega)
              refine ⟨-12, x, m, rfl, ?_, hI⟩
              by_cases u1 : e < 0
              · rw [if_pos u1]
              · by_cases u2 : b < 0
                · rw [if_neg u1, if_pos u2]
                · by_cases u4 : d < 0
                  · rw [if_neg u1, if_neg u2, if_pos u4]
                  · have s1 : (nI n1 - e).toInt = (n1 : Int) - e.toInt := by rw [lt32] at u1; have := bd32 e; rw [sub32 (by omega), en1]
                    have u3 : nI n1 - e < b := by rw [lt32] at u1 u2 ⊢; rw [s1]; omega
                    rw [if_neg u1, if_neg u2, if_neg u4, if_pos u3]
          · simp only [if_neg htt]
            exact ⟨_, x, m, rfl, rfl, hI⟩
    · rw [iz_pos ha, iz_neg hc]
      simp only [if_true, if_neg ne10]
      exact ⟨_, x, m, rfl, rfl, hI⟩
  · rw [iz_neg ha]
    exact ⟨_, x, m, rfl, rfl, hI⟩
