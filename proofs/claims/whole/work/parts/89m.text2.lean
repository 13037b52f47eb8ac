theorem text_l14 {tc T : Nat} (htc : tc < 6) (hT : T ≤ 160) : ∀ (d f k : Nat) (m : St), m.1 0 6 = nI T → m.1 0 3 = nI tc → k + d = T → d < f → ∃ m', (∀ K : St → Option (Int32 × St), f_X12_text_l14 K f (nI k) m = K m') ∧ (∀ c, c ≠ 1 → m'.1 c = m.1 c) ∧ m'.2 = m.2 ∧ (∀ i, k ≤ i → i < T → m'.1 1 (160 * tc + i) = m.1 3 i) ∧ (∀ q, q < 160 * tc + k → m'.1 1 q = m.1 1 q) := by
  intro d
  induction d with
  | zero =>
    intro f k m h1 h2 hk hf
    obtain ⟨f, rfl⟩ : ∃ g, f = g + 1 := ⟨f - 1, by omega⟩
    have : nI T ≤ nI k := by rw [le_nI (by omega), nI_rng (by omega)]; omega
    exact ⟨m, fun K => by rw [f_X12_text_l14, nmE, h1, if_pos this], fun _ _ => rfl, rfl, fun i a b => by omega, fun _ _ => rfl⟩
  | succ d ih =>
    intro f k m h1 h2 hk hf
    obtain ⟨f, rfl⟩ : ∃ g, f = g + 1 := ⟨f - 1, by omega⟩
    have hnk : ¬ nI T ≤ nI k := by rw [le_nI (by omega), nI_rng (by omega)]; omega
    have e160 : (160 : Int32) * nI tc + nI k = nI (160 * tc + k) := by rw [show (160 : Int32) = nI 160 from rfl, mul_nI 160 tc (by omega) (by omega) (by omega), nI_add]
    obtain ⟨m', q1, q2, q3, q4, q5⟩ := ih f (k + 1) (sI m 1 (160 * tc + k) (m.1 3 k)) (by rw [sI_ro _ 1 _ _ 0 (by omega)]; exact h1) (by rw [sI_ro _ 1 _ _ 0 (by omega)]; exact h2) (by omega) (by omega)
    refine ⟨m', fun K => ?_, fun c hc => by rw [q2 c hc, sI_ro _ 1 _ _ c hc], by rw [q3]; rfl, fun i i1 i2 => ?_, fun q hq => ?_⟩
    · rw [f_X12_text_l14, nmE, h1, if_neg hnk, nmE, h2, e160, gdN (by omega) (by omega), nmE, gdN (by omega) (by omega), nmE, clampN (show k < 1000000 by omega), clampN (show 160 * tc + k < 1000000 by omega), nI_1]
      exact q1 K
    · by_cases e : i = k
      · subst e; rw [q5 _ (by omega), sI_at]
      · rw [q4 i (by omega) i2, sI_ro _ 1 _ _ 3 (by omega)]
    · rw [q5 q (by omega), sI_rne _ 1 _ _ q (by omega)]
theorem ruleSt_1 (σ : St) (N k : Nat) : (ruleSt σ N).1 k = if k = N + 1 then va_cpy (σ.1 18) (fun _ => 0) 0 0 (σ.1 17 2).toNatClampNeg else if k = N then upd (σ.1 N) 1 (σ.1 17 3) else σ.1 k := rfl
theorem ruleSt_4 (σ : St) (N c : Nat) : (ruleSt σ N).2.2.2 c = if c = N + 1 then (σ.1 17 2).toNatClampNeg else σ.2.2.2 c := rfl
theorem p_text : P_text (InvP PAt) := by
  intro nc x m hI
  obtain ⟨nr, tc, h1, h2, h3, h4, h5, h6, h7, h8, h9⟩ := id hI
  obtain ⟨T, t1, t2, t3, t4⟩ := id h4
  obtain ⟨a1, a2, a3, a4, a5, ⟨r0, r1, r2, r3⟩, a7, a8, a9⟩ := id h5
  by_cases hf : tc = 6
  · subst hf
    refine ⟨-4, x, m, nc, ?_, ?_, hI⟩
    · rw [f_X11_text, nmE, a4, if_neg (show ¬ nI 6 < 6 by decide)]
    · rw [f_X12_text, nmE, a5, if_pos (show nI 6 = 6 from rfl)]
  have htc : tc < 6 := by omega
  -- the class reads
  obtain ⟨q, x1, b1, b2, b3, b4⟩ := text_read (B := m.1 3) t1 t2 t4
  -- the model lays the text
  obtain ⟨m1, c1, c2, c3, c4, c5⟩ := text_l14 htc t1 T FU 0 m t3 a5 (by omega) (by unfold FU; omega)
  rw [show nI 0 = 0 from rfl] at c1
  have m10 : ∀ j, m1.1 0 j = m.1 0 j := fun j => by rw [c2 0 (by omega)]
  have hcls : f_X11_text nc x = nm (sI x1 15 1 0) (fun σ2 => (if q = (-1) then nm (σ2.1 0 9) (fun v3 => gd (¬ σ2.1 17 2 < 0 ∧ (σ2.1 17 2).toNatClampNeg < 160 ∧ inb v3 6 ∧ shX nc = (0, 6) ∧ dynOk nc σ2 = true) (nm (sR (ruleSt σ2 nc) 19 v3.toNatClampNeg (some nc)) (fun σ3 => nm (σ3.1 0 9) (fun v4 => nm (sI σ3 0 9 (v4 + 1)) (fun σ4 => nm (σ4.1 0 9) (fun v5 => some (v5 - 1, σ4, nc + 2))))))) else some ((-100) - q, σ2, nc))) := by
    rw [f_X11_text, nmE, a4, if_pos (show nI tc < 6 by rw [nI_ltk (by omega), show (6 : Int32).toInt = 6 from rfl]; omega), b1, bdE]
  have h03 : (sI (sI m1 2 tc (nI T)) 0 6 0).1 0 3 = nI tc := by rw [sI_rne _ 0 _ _ 3 (by omega), sI_ro _ 2 _ _ 0 (by omega), m10]; exact a5
  have hmodel : f_X12_text m = bd (f_X12_read (sI (sI m1 2 tc (nI T)) 0 6 0) (nI tc) (-1) 0 0 0 0) (fun v20 σ21 => nm (σ21.1 0 24) (fun v22 => (if v22 = 0 then nm (σ21.1 0 3) (fun v24 => nm (sI σ21 0 3 (v24 + 1)) (fun σ25 => nm (σ25.1 0 3) (fun v26 => some (v26 - 1, σ25)))) else nm (σ21.1 0 25) (fun v27 => some ((-100) - v27, σ21))))) := by
    rw [f_X12_text, nmE, a5, if_neg (show ¬ nI tc = 6 from fun e => hf (nI_inj (b := 6) (by omega) (by omega) e)), c1, show m1.1 0 3 = nI tc by rw [m10]; exact a5, show m1.1 0 6 = nI T by rw [m10]; exact t3, nmE, nmE, gdN htc (by omega), nmE, clampN (by omega), nmE, nmE, h03]
  generalize hm2 : sI (sI m1 2 tc (nI T)) 0 6 0 = m2 at hmodel
  have m2o : ∀ c, c ≠ 0 → c ≠ 1 → c ≠ 2 → m2.1 c = m.1 c := fun c d1 d2 d3 => by rw [← hm2, sI_ro _ 0 _ _ c d1, sI_ro _ 2 _ _ c d3, c2 c d2]
  have m20 : ∀ j, j ≠ 6 → m2.1 0 j = m.1 0 j := fun j hj => by rw [← hm2, sI_rne _ 0 _ _ j hj, sI_ro _ 2 _ _ 0 (by omega), m10]
  have m206 : m2.1 0 6 = 0 := by rw [← hm2, sI_at]
  have m21 : m2.1 1 = m1.1 1 := by rw [← hm2, sI_ro _ 0 _ _ 1 (by omega), sI_ro _ 2 _ _ 1 (by omega)]
  have m22 : ∀ j, m2.1 2 j = if j = tc then nI T else m.1 2 j := fun j => by
    rw [← hm2, sI_ro _ 0 _ _ 2 (by omega)]
    by_cases e : j = tc
    · subst e; rw [sI_at, if_pos rfl]
    · rw [sI_rne _ 2 _ _ j e, if_neg e, c2 2 (by omega)]
  have hbytes : ∀ i, i < T → m2.1 1 (160 * tc + i) = m.1 3 i := fun i hi => by rw [m21]; exact c4 i (by omega) hi
  -- what stays of old texts
  have old : ∀ (M X : St), (∀ c, c ≠ 0 → M.1 c = m2.1 c) → (∀ c, 66 ≤ c → c < 66 + 2 * tc → X.1 c = x.1 c) → (∀ c, 66 ≤ c → c < 66 + 2 * tc → X.2.2.2 c = x.2.2.2 c) → (∀ j, j < tc → X.2.2.1 19 j = x.2.2.1 19 j) → ∀ j, j < tc → X.2.2.1 19 j = some (66 + 2 * j) ∧ ∃ n, n ≤ 160 ∧ M.1 2 j = nI n ∧ PAt (fun i => M.1 1 (160 * j + i)) n (X.1 (67 + 2 * j)) (X.2.2.2 (67 + 2 * j)) (X.1 (66 + 2 * j) 1) := by
    intro M X e1 e2 e3 e4 j hj
    obtain ⟨p1, n, p2, p3, L1, L2, q1, q2, q3, q4, q5⟩ := a7 j hj
    refine ⟨by rw [e4 j hj]; exact p1, n, p2, ?_, L1, L2, by rw [e3 _ (by omega) (by omega)]; exact q1, by rw [e3 _ (by omega) (by omega)]; exact q2, by rw [e2 _ (by omega) (by omega)]; exact q3, fun k hk => ?_, ?_⟩
    · rw [e1 2 (by omega), m22, if_neg (by omega)]; exact p3
    · rw [e2 _ (by omega) (by omega)]
      rw [e3 _ (by omega) (by omega)] at hk
      exact q4 k hk
    · intro mm jj r seat speed stroke which g1 g2
      refine q5 mm jj r seat speed stroke which g1 (fun i hi => ?_)
      rw [g2 i hi]
      dsimp only
      rw [e1 1 (by omega), m21, c5 _ (by omega)]
  have hseat0 : ∃ k, k < 8 ∧ (0 : Int32) = nI k := ⟨0, by omega, rfl⟩
  rcases b4 with ⟨rfl, L1, L2, l1, l2, l3, l4, l5⟩ | ⟨w, w1, rfl, w2⟩
  · -- a text more
    obtain ⟨v1, v2, m3, d1, d2, d3, _, _, _, _, d4⟩ := l5 m2 tc (-1) 0 0 0 0 htc hbytes (by rw [m22, if_pos rfl]) (Or.inl rfl) hseat0
    rw [d1, bdE, nmE, d4, if_pos rfl, nmE, nmE, nmE, d3 3 (by omega), m20 3 (by omega), a5, nI_1, sI_at, nI_pred] at hmodel
    -- the class
    have g0 : (sI x1 15 1 0).1 0 9 = nI tc := by rw [sI_ro _ 15 _ _ 0 (by omega), b2 0 (by omega) (by omega)]; exact a4
    have g17 : (sI x1 15 1 0).1 17 2 = nI (L1.length + L2.length) := by rw [sI_ro _ 15 _ _ 17 (by omega)]; exact l2
    have g173 : (sI x1 15 1 0).1 17 3 = nI L1.length := by rw [sI_ro _ 15 _ _ 17 (by omega)]; exact l3
    have g22 : (sI x1 15 1 0).2 = x.2 := b3
    have hgd : ¬ (sI x1 15 1 0).1 17 2 < 0 ∧ ((sI x1 15 1 0).1 17 2).toNatClampNeg < 160 ∧ inb ((sI x1 15 1 0).1 0 9) 6 ∧ shX nc = (0, 6) ∧ dynOk nc (sI x1 15 1 0) = true := by
      rw [g17, clampN (by omega)]
      refine ⟨nI_pos (by omega), l1, by rw [g0]; exact inb_nI htc (by omega), by rw [a1]; exact shRule, ?_⟩
      unfold dynOk
      rw [g22]
      simp only [Bool.and_eq_true, List.all_eq_true, List.mem_range]
      constructor
      · intro i hi
        by_cases hit : i < tc
        · rw [(a7 i hit).1]; simp; omega
        · rw [a8 i (by omega) hi]; rfl
      · rcases a9 with e | ⟨j, hj, e⟩
        · rw [e]; rfl
        · rw [e]; simp; omega
    rw [nmE, if_pos rfl, nmE, gd_pos hgd, g0, nmE, clampN (by omega), nmE] at hcls
    have hr0 : (sR (ruleSt (sI x1 15 1 0) nc) 19 tc (some nc)).1 0 9 = nI tc := by
      show (ruleSt (sI x1 15 1 0) nc).1 0 9 = nI tc
      rw [ruleSt_1, if_neg (by omega), if_neg (by omega)]; exact g0
    rw [hr0, nmE, nmE, sI_at, nI_1, nI_pred] at hcls
    generalize hX : sI (sR (ruleSt (sI x1 15 1 0) nc) 19 tc (some nc)) 0 9 (nI (tc + 1)) = X at hcls
    generalize hM : sI m3 0 3 (nI (tc + 1)) = M at hmodel
    have hxo : ∀ k, k ≠ 0 → k ≠ 15 → k ≠ 17 → k ≠ 18 → k ≠ nc → k ≠ nc + 1 → X.1 k = x.1 k := fun k e1 e2 e3 e4 e5 e6 => by
      rw [← hX, sI_ro _ 0 _ _ k e1]
      show (ruleSt (sI x1 15 1 0) nc).1 k = x.1 k
      rw [ruleSt_1, if_neg e6, if_neg e5, sI_ro _ 15 _ _ k e2, b2 k e3 e4]
    have hx0 : ∀ j, j ≠ 9 → X.1 0 j = x.1 0 j := fun j hj => by
      rw [← hX, sI_rne _ 0 _ _ j hj]
      show (ruleSt (sI x1 15 1 0) nc).1 0 j = x.1 0 j
      rw [ruleSt_1, if_neg (by omega), if_neg (by omega), sI_ro _ 15 _ _ 0 (by omega), b2 0 (by omega) (by omega)]
    have hx37 : X.1 37 4 = x.1 37 4 := by rw [hxo 37 (by omega) (by omega) (by omega) (by omega) (by omega) (by omega)]
    have hxn1 : X.1 nc 1 = nI L1.length := by
      rw [← hX, sI_ro _ 0 _ _ nc (by omega)]
      show (ruleSt (sI x1 15 1 0) nc).1 nc 1 = _
      rw [ruleSt_1, if_neg (by omega), if_pos rfl, upd_eq, if_pos rfl]; exact g173
    have hxs : ∀ k, k < L1.length + L2.length → X.1 (nc + 1) k = (L1 ++ L2).getD k 0 := fun k hk => by
      rw [← hX, sI_ro _ 0 _ _ (nc + 1) (by omega)]
      show (ruleSt (sI x1 15 1 0) nc).1 (nc + 1) k = _
      rw [ruleSt_1, if_pos rfl, g17, clampN (by omega)]
      unfold va_cpy
      rw [if_pos (by omega), sI_ro _ 15 _ _ 18 (by omega)]
      have := l4 k (by simp; omega)
      rw [Nat.zero_add] at this
      rw [show 0 + (k - 0) = k by omega, this]
    have hlen : ∀ c, X.2.2.2 c = if c = nc + 1 then L1.length + L2.length else x.2.2.2 c := fun c => by
      rw [← hX]
      show (ruleSt (sI x1 15 1 0) nc).2.2.2 c = _
      rw [ruleSt_4]
      by_cases e : c = nc + 1
      · rw [if_pos e, if_pos e, g17, clampN (by omega)]
      · rw [if_neg e, if_neg e, g22]
    have href : ∀ k j, X.2.2.1 k j = if k = 19 ∧ j = tc then some nc else x.2.2.1 k j := fun k j => by
      rw [← hX]
      show (sR (ruleSt (sI x1 15 1 0) nc) 19 tc (some nc)).2.2.1 k j = _
      have hr : (ruleSt (sI x1 15 1 0) nc).2.2.1 = x.2.2.1 := by
        show (sI x1 15 1 0).2.2.1 = _
        rw [g22]
      unfold sR va_up
      dsimp only
      rw [hr]
      by_cases e1 : k = 19
      · subst e1
        by_cases e2 : j = tc
        · subst e2; simp
        · simp [e2]
      · simp [e1]
    have hm0 : ∀ j, j ≠ 3 ∧ j ≠ 6 ∧ (j < 17 ∨ 30 < j) → M.1 0 j = m.1 0 j := fun j hj => by rw [← hM, sI_rne _ 0 _ _ j (by omega), d3 j (by omega), m20 j (by omega)]
    have hmo : ∀ k, k ≠ 0 ∧ k ≠ 1 ∧ k ≠ 2 → M.1 k = m.1 k := fun k hk => by rw [← hM, sI_ro _ 0 _ _ k (by omega), d2 k (by omega), m2o k (by omega) (by omega) (by omega)]
    have hMm : ∀ c, c ≠ 0 → M.1 c = m2.1 c := fun c hc => by rw [← hM, sI_ro _ 0 _ _ c hc, d2 c hc]
    refine ⟨nI tc, X, M, nc + 2, hcls, hmodel, nr, tc + 1, ?_, ?_, ?_, ?_, ?_, ?_, ?_, ?_, ?_⟩
    · exact h1.cg (fun k a b => hxo k (by omega) (by omega) (by omega) (by omega) (by omega) (by omega)) (hm0 11 (by omega)) (fun k a b => hmo k (by omega))
    · exact h2.cg (fun k a b => hxo k (by omega) (by omega) (by omega) (by omega) (by omega) (by omega)) (hm0 15 (by omega)) (hm0 16 (by omega)) (fun k a b => hmo k (by omega))
    · have := h3.cg (hx0 4 (by omega)) (hx0 5 (by omega)) (fun k a b => hxo k (by omega) (by omega) (by omega) (by omega) (by omega) (by omega)) (fun j a b => hm0 j (by omega)) (fun k a b => hmo k (by omega))
      rcases this with z | ⟨z1, kr, z2, z3, z4, z5, z6, z7, z8, z9, z10, z11, jj, y1, y2⟩
      · exact Or.inl z
      · exact Or.inr ⟨z1, kr, z2, z3, z4, z5, z6, z7, z8, z9, z10, z11, jj, by omega, y2⟩
    · refine ⟨0, by omega, ?_, ?_, fun i hi => by omega⟩
      · rw [← hX, sI_ro _ 0 _ _ 15 (by omega)]
        show (ruleSt (sI x1 15 1 0) nc).1 15 1 = _
        rw [ruleSt_1, if_neg (by omega), if_neg (by omega)]; exact sI_at _ _ _ _
      · rw [← hM, sI_rne _ 0 _ _ 6 (by omega), d3 6 (by omega)]; exact m206
    · refine ⟨by omega, by omega, by omega, by rw [← hX, sI_at], by rw [← hM, sI_at], ⟨r0, by omega, by rw [hx0 10 (by omega)]; exact r2, by rw [hm0 4 (by omega)]; exact r3⟩, fun j hj => ?_, fun i i1 i2 => ?_, ?_⟩
      · by_cases e : j = tc
        · subst e
          refine ⟨by rw [href, if_pos ⟨rfl, rfl⟩, a1], T, t1, by rw [hMm 2 (by omega), m22, if_pos rfl], L1, L2, ?_, ?_, ?_, fun k hk => ?_, ?_⟩
          · rw [hlen, if_pos (by omega)]
          · rw [hlen, if_pos (by omega)]; omega
          · rw [← a1]; exact hxn1
          · rw [hlen, if_pos (by omega)] at hk
            rw [show 67 + 2 * j = nc + 1 by omega]; exact hxs k hk
          · intro mm jj r seat speed stroke which g1 g2
            refine l5.ok mm jj r seat speed stroke which g1 (fun i hi => ?_)
            rw [g2 i hi]
            dsimp only
            rw [hMm 1 (by omega), hbytes i hi]
        · exact old M X hMm (fun c e1 e2 => hxo c (by omega) (by omega) (by omega) (by omega) (by omega) (by omega)) (fun c e1 e2 => by rw [hlen, if_neg (by omega)]) (fun j hj => by rw [href, if_neg (by omega)]) j (by omega)
      · rw [href, if_neg (by omega)]; exact a8 i (by omega) i2
      · rw [href, if_neg (by omega)]
        rcases a9 with e | ⟨j, hj, e⟩
        · exact Or.inl e
        · exact Or.inr ⟨j, by omega, e⟩
    · exact h6.cg (fun k a b => hxo k (by omega) (by omega) (by omega) (by omega) (by omega) (by omega)) (hm0 33 (by omega)) (hmo 11 (by omega)) (hmo 12 (by omega))
    · exact h7.cg hx37 (fun k a b => hxo k (by omega) (by omega) (by omega) (by omega) (by omega) (by omega)) (hm0 46 (by omega)) (fun k a b => hmo k (by omega))
    · exact h8.cg (hxo 56 (by omega) (by omega) (by omega) (by omega) (by omega) (by omega)) (hxo 57 (by omega) (by omega) (by omega) (by omega) (by omega) (by omega)) (hm0 49 (by omega)) (hmo 20 (by omega))
    · exact h9.cg (fun k a b => hxo k (by omega) (by omega) (by omega) (by omega) (by omega) (by omega)) (fun k a b => hmo k (by omega))
  · -- a fault
    obtain ⟨v, m3, d1, d2, d3, d4, d5⟩ := w2 m2 tc (-1) 0 0 0 0 htc hbytes (by rw [m22, if_pos rfl]) (Or.inl rfl) hseat0
    rw [d1, bdE, nmE, d4, if_neg ne10, nmE, d5] at hmodel
    rw [nmE, if_neg (nI_nem (by omega))] at hcls
    have hxo : ∀ k, k ≠ 15 ∧ k ≠ 17 ∧ k ≠ 18 → (sI x1 15 1 0).1 k = x.1 k := fun k hk => by rw [sI_ro _ 15 _ _ k (by omega), b2 k (by omega) (by omega)]
    have hx0 : ∀ j, j ≠ 1000 → (sI x1 15 1 0).1 0 j = x.1 0 j := fun j hj => by rw [hxo 0 (by omega)]
    have hx37 : (sI x1 15 1 0).1 37 4 = x.1 37 4 := by rw [hxo 37 (by omega)]
    have hx2 : (sI x1 15 1 0).2 = x.2 := b3
    have hm0 : ∀ j, j ≠ 6 ∧ (j < 17 ∨ 30 < j) → m3.1 0 j = m.1 0 j := fun j hj => by rw [d3 j (by omega), m20 j (by omega)]
    have hmo : ∀ k, k ≠ 0 ∧ k ≠ 1 ∧ k ≠ 2 → m3.1 k = m.1 k := fun k hk => by rw [d2 k (by omega), m2o k (by omega) (by omega) (by omega)]
    refine ⟨_, _, m3, nc, hcls, hmodel, nr, tc, h1.cg (fun k a b => hxo k (by omega)) (hm0 11 (by omega)) (fun k a b => hmo k (by omega)), h2.cg (fun k a b => hxo k (by omega)) (hm0 15 (by omega)) (hm0 16 (by omega)) (fun k a b => hmo k (by omega)), h3.cg (hx0 4 (by omega)) (hx0 5 (by omega)) (fun k a b => hxo k (by omega)) (fun j a b => hm0 j (by omega)) (fun k a b => hmo k (by omega)), ⟨0, by omega, sI_at _ _ _ _, by rw [d3 6 (by omega)]; exact m206, fun i hi => by omega⟩, ?_, h6.cg (fun k a b => hxo k (by omega)) (hm0 33 (by omega)) (hmo 11 (by omega)) (hmo 12 (by omega)), h7.cg hx37 (fun k a b => hxo k (by omega)) (hm0 46 (by omega)) (fun k a b => hmo k (by omega)), h8.cg (hxo 56 (by omega)) (hxo 57 (by omega)) (hm0 49 (by omega)) (hmo 20 (by omega)), h9.cg (fun k a b => hxo k (by omega)) (fun k a b => hmo k (by omega))⟩
    refine ⟨a1, a2, a3, by rw [hx0 9 (by omega)]; exact a4, by rw [hm0 3 (by omega)]; exact a5, ⟨r0, r1, by rw [hx0 10 (by omega)]; exact r2, by rw [hm0 4 (by omega)]; exact r3⟩, fun j hj => ?_, by rw [hx2]; exact a8, by rw [hx2]; exact a9⟩
    exact old m3 (sI x1 15 1 0) d2 (fun c e1 e2 => hxo c (by omega)) (fun c e1 e2 => by rw [hx2]) (fun j hj => by rw [hx2]) j hj
