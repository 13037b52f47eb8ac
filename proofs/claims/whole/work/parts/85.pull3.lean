theorem min_eq {a b : Int32} {X Y : Int64} (h1 : X.toInt = a.toInt) (h2 : Y.toInt = b.toInt) : (if X ≤ Y then X else Y) = Int32.toInt64 (if a < b then a else b) := by
  rw [eq64, i2l_toInt]
  by_cases c : a < b
  · rw [if_pos c]
    rw [lt32] at c
    rw [if_pos (by rw [le64]; omega), h1]
  · rw [if_neg c]
    rw [lt32] at c
    by_cases c2 : X ≤ Y
    · rw [if_pos c2]; rw [le64] at c2; omega
    · rw [if_neg c2, h2]
theorem minr {a b : Int32} : (if a < b then a else b).toInt ≤ a.toInt ∧ (if a < b then a else b).toInt ≤ b.toInt ∧ (0 ≤ a.toInt → 0 ≤ b.toInt → 0 ≤ (if a < b then a else b).toInt) := by
  by_cases c : a < b
  · rw [if_pos c]; rw [lt32] at c; omega
  · rw [if_neg c]; rw [lt32] at c; omega
theorem l2i {X : Int64} {a : Int32} (h : X.toInt = a.toInt) : X.toInt32 = a := by
  have := bd32 a
  rw [eq32, Int64.toInt_toInt32, h]
  exact Int.bmod_eq_of_le (by omega) (by omega)
/-- ONE STROKE -/
theorem pull_once {nc nr tc rid c : Nat} {x m : St} {κ : Int32} (hS : RS nc nr tc rid x m) (hD : RD nr c x m) (hc : c < 100000) : ∃ x' m', f_X1_pullOnce nc x κ = some x' ∧ f_X12_strokes m κ = some m' ∧ FRs x m x' m' ∧ RD nr (c + 1) x' m' ∧ (∀ q, q < 8 → m'.2.1 14 q = Int32.toInt64 (x'.1 33 q) ∧ rng (x'.1 33 q) 0 2808) ∧ ((m.2.1 0 38).toInt = 0 → (m'.2.1 0 38).toInt = tS (m.1 9) (x'.1 33) 8) := by
  obtain ⟨a1, a2, a3, ⟨a4, a4'⟩, ⟨a5, a5'⟩, a6, ⟨a7, a7', a7''⟩, a8, a9, a10, a11⟩ := id hS
  obtain ⟨d1, ⟨d2, d2'⟩, ⟨d3, d3'⟩, d4, d5, d6, d7⟩ := id hD
  obtain ⟨r1, r2, r3, r4⟩ := id a1
  have e0 : (0 : Int32).toInt = 0 := rfl
  have z0 : nI 0 = 0 := rfl
  have h100 : (100 : Int32).toInt = 100 := rfl
  have l100 : (100 : Int64).toInt = 100 := rfl
  have h99 : (99999 : Int32).toInt = 99999 := rfl
  have l99 : (99999 : Int64).toInt = 99999 := rfl
  have i08 : inb 0 8 := by decide
  obtain ⟨v1, v2, x0, s1, s2, _, ⟨x2, s3, s4, s5⟩, s6⟩ := says (k := 0) hS hD (by omega) (a6 0 (by omega)).2
  obtain ⟨m1, e1, e2, e3, e4, e5⟩ := s6 1
  rw [if_neg ne10, z0] at e1
  rw [z0] at s1
  have r31 : x0.2.2.1 31 2 = some (66 + 2 * rid) := by rw [s2]; exact a9
  have hgd : shX (66 + 2 * rid) = (0, 6) ∧ 66 + 2 * rid + 1 < nc := ⟨shRule, by omega⟩
  -- the water
  have hcl := clamp_rng (t := v2) (N := 99999) (by decide)
  rw [h99] at hcl
  have hce := clamp_eq (t := v2) (N := 99999) (by decide)
  generalize hG : (if 0 < (if v2 < 99999 then v2 else 99999) then (if v2 < 99999 then v2 else (99999 : Int32)) else 0) = G at hcl hce
  unfold rng at a4' a5' d2'
  have gm1 : 0 ≤ G.toInt * (m.1 0 15).toInt := Int.mul_nonneg hcl.1 (by omega)
  have gm2 : G.toInt * (m.1 0 15).toInt ≤ 99999 * 999 := Int.mul_le_mul hcl.2 a4'.2 (by omega) (by omega)
  have w32 : (G * x.1 6 3 / 100 + x.1 6 4).toInt = G.toInt * (m.1 0 15).toInt / 100 + (m.1 0 16).toInt := by
    have t1 : (G * x.1 6 3).toInt = G.toInt * (m.1 0 15).toInt := by rw [a4, mul32 (by omega)]
    have t2 : (G * x.1 6 3 / 100).toInt = G.toInt * (m.1 0 15).toInt / 100 := by rw [div32 (by omega) (by omega), t1, h100, Int.tdiv_eq_ediv_of_nonneg gm1]
    rw [add32 (by rw [t2, a5]; omega), t2, a5]
  have w64 : (Int32.toInt64 G * Int32.toInt64 (m.1 0 15) / 100 + Int32.toInt64 (m.1 0 16)).toInt = G.toInt * (m.1 0 15).toInt / 100 + (m.1 0 16).toInt := by
    have t1 : (Int32.toInt64 G * Int32.toInt64 (m.1 0 15)).toInt = G.toInt * (m.1 0 15).toInt := by rw [mul64 (by rw [i2l_toInt, i2l_toInt]; omega), i2l_toInt, i2l_toInt]
    have t2 : (Int32.toInt64 G * Int32.toInt64 (m.1 0 15) / 100).toInt = G.toInt * (m.1 0 15).toInt / 100 := by rw [div64 (by omega) (by omega), t1, l100, Int.tdiv_eq_ediv_of_nonneg gm1]
    rw [add64 (by rw [t2, i2l_toInt]; omega), t2, i2l_toInt]
  have hwat : f_X1_waterNow nc x = some ((if 0 < G * x.1 6 3 / 100 + x.1 6 4 then G * x.1 6 3 / 100 + x.1 6 4 else 0), x2) := by
    unfold f_X1_waterNow
    rw [gd_pos i08, nmE, c0N, (a6 0 (by omega)).1, s1, bdvE, jnE, r31, moE, moE, gd_pos hgd, s3, bdE]
    simp only [nmE, hG, s4 6 (by omega) (by omega)]
  generalize hw : (if 0 < G * x.1 6 3 / 100 + x.1 6 4 then G * x.1 6 3 / 100 + x.1 6 4 else (0 : Int32)) = w at hwat
  obtain ⟨t12, ht12, hte⟩ : ∃ t12 : Int64, (if 0 ≤ Int32.toInt64 G * Int32.toInt64 (m.1 0 15) / 100 + Int32.toInt64 (m.1 0 16) then Int32.toInt64 G * Int32.toInt64 (m.1 0 15) / 100 + Int32.toInt64 (m.1 0 16) else 0) = t12 ∧ t12.toInt = w.toInt := by
    refine ⟨_, rfl, ?_⟩
    rw [← hw]
    by_cases p : 0 ≤ Int32.toInt64 G * Int32.toInt64 (m.1 0 15) / 100 + Int32.toInt64 (m.1 0 16)
    · rw [if_pos p, w64]
      rw [le64, w64, show (0 : Int64).toInt = 0 from rfl] at p
      by_cases q : 0 < G * x.1 6 3 / 100 + x.1 6 4
      · rw [if_pos q, w32]
      · rw [if_neg q]; rw [lt32, w32] at q; omega
    · rw [if_neg p]
      rw [le64, w64, show (0 : Int64).toInt = 0 from rfl] at p
      rw [if_neg (by rw [lt32, w32]; omega)]; rfl
  have hwr : 0 ≤ w.toInt ∧ w.toInt ≤ 1100000 := by
    rw [← hw]
    by_cases q : 0 < G * x.1 6 3 / 100 + x.1 6 4
    · rw [if_pos q, w32]; rw [lt32, w32] at q; omega
    · rw [if_neg q]; omega
  have hx2 : RS nc nr tc rid x2 m1 ∧ RD nr c x2 m1 ∧ FRs x m x2 m1 := by
    have hF : FRs x m x2 m1 := ⟨fun q hq => s4 q (by omega) (by omega), by rw [s4 31 (by omega) (by omega)], by rw [s5], fun q a b => e2 q a, fun j hj => e3 j (by omega)⟩
    refine ⟨hF.rs hS, ?_, hF⟩
    unfold RD
    rw [s4 36 (by omega) (by omega), s4 31 (by omega) (by omega), e2 13 (by omega), e3 36 (by omega), e3 41 (by omega), s5, e5 37 (by omega), e5 38 (by omega), e5 39 (by omega), e5 40 (by omega)]
    exact hD
  obtain ⟨hS2, hD2, hF2⟩ := hx2
  obtain ⟨all, A, x3, m3, p1, p2, p3, p4, p5, p6, p7, p8, p9, p10⟩ := pull_l (κ := κ) 8 FU 0 0 0 x2 m1 (by omega) (by decide) hS2 hD2 (fun q hq => by omega) (by decide) (by decide) (by decide)
  have hS3 := p3.rs hS2
  have hF3 := hF2.trans p3
  obtain ⟨b1, b2, b3, b4, b5, b6, b7, b8, b9, b10, b11⟩ := id hS3
  obtain ⟨q1, ⟨q2, q2'⟩, ⟨q3, q3'⟩, ⟨q4, q4', q4''⟩, q5, q6, q7⟩ := id p4
  obtain ⟨sl, hsl⟩ := slips_some κ
  have hslr := slips_rng hsl
  have hW := wAcc_rng (nr := nr) (s := m3.1 8) (w := m3.1 4) b1.1 8 (by omega) (fun i hi => (b6 i hi).2) (fun j hj => (b1.2.2.2 j hj).2.1)
  have hWm := mWeight (m := m3) b1.1 (fun k hk => (b6 k hk).2)
  generalize hWW : wAcc (m3.1 8) (m3.1 4) 8 = W at hW hWm b11
  have e200 : (200 : Int32).toInt = 200 := rfl
  have hW2 : (W + 200).toInt = W.toInt + 200 := by rw [add32 (by omega), e200]
  unfold rng at q2'
  rw [z0] at p1 p2
  -- speeds
  have u1 : (all * 100).toInt = all.toInt * 100 := by rw [mul32 (by rw [h100]; omega), h100]
  have u2 : (all * 100 / (W + 200)).toInt = (all.toInt * 100) / (W.toInt + 200) := by rw [div32 (by omega) (by omega), u1, hW2, Int.tdiv_eq_ediv_of_nonneg (by omega)]
  have u3 : 0 ≤ (all.toInt * 100) / (W.toInt + 200) := Int.ediv_nonneg (by omega) (by omega)
  have u4 : (all.toInt * 100) / (W.toInt + 200) ≤ 2246400 := Int.le_trans (Int.ediv_le_self _ (by omega)) (by omega)
  have U1 : (A * 100).toInt = all.toInt * 100 := by rw [mul64 (by rw [l100]; omega), l100, p6]
  have U2 : (A * 100 / Int32.toInt64 (W + 200)).toInt = (all.toInt * 100) / (W.toInt + 200) := by rw [div64 (by omega) (by rw [i2l_toInt]; omega), U1, i2l_toInt, hW2, Int.tdiv_eq_ediv_of_nonneg (by omega)]
  generalize hQ : (all.toInt * 100) / (W.toInt + 200) = Q at u2 u3 u4 U2
  have v1a : (m3.1 0 36 + all * 100 / (W + 200)).toInt = (m3.1 0 36).toInt + Q := by rw [add32 (by rw [u2]; omega), u2]
  have V1 : (Int32.toInt64 (m3.1 0 36) + A * 100 / Int32.toInt64 (W + 200)).toInt = (m3.1 0 36 + all * 100 / (W + 200)).toInt := by rw [add64 (by rw [U2, i2l_toInt]; omega), U2, i2l_toInt, v1a]
  generalize hsp1 : m3.1 0 36 + all * 100 / (W + 200) = sp1 at v1a V1
  generalize hSP1 : Int32.toInt64 (m3.1 0 36) + A * 100 / Int32.toInt64 (W + 200) = SP1 at V1
  have hlo := min_eq V1 hte
  have hlr := minr (a := sp1) (b := w)
  generalize hlos : (if sp1 < w then sp1 else w) = lo at hlo hlr
  have v2a : (sp1 - lo).toInt = sp1.toInt - lo.toInt := sub32 (by omega)
  have V2 : (SP1 - Int32.toInt64 lo).toInt = (sp1 - lo).toInt := by rw [sub64 (by rw [i2l_toInt]; omega), i2l_toInt, V1, v2a]
  generalize hsp2 : sp1 - lo = sp2 at v2a V2
  generalize hSP2 : SP1 - Int32.toInt64 lo = SP2 at V2
  have sm1 : 0 ≤ (m3.1 0 36).toInt * sl.toInt := Int.mul_nonneg q2'.1 hslr.1
  have sm2 : (m3.1 0 36).toInt * sl.toInt ≤ 99999 * 5 := Int.mul_le_mul q2'.2 hslr.2 hslr.1 (by omega)
  have sx1 : (m3.1 0 36 * sl).toInt = (m3.1 0 36).toInt * sl.toInt := mul32 (by omega)
  have sx2 : (m3.1 0 36 * sl / 100).toInt = (m3.1 0 36).toInt * sl.toInt / 100 := by rw [div32 (by omega) (by omega), sx1, h100, Int.tdiv_eq_ediv_of_nonneg sm1]
  have SX1 : (Int32.toInt64 sl * Int32.toInt64 (m3.1 0 36)).toInt = (m3.1 0 36).toInt * sl.toInt := by rw [mul64 (by rw [i2l_toInt, i2l_toInt, Int.mul_comm]; omega), i2l_toInt, i2l_toInt, Int.mul_comm]
  have SX2 : (Int32.toInt64 sl * Int32.toInt64 (m3.1 0 36) / 100).toInt = (m3.1 0 36 * sl / 100).toInt := by rw [div64 (by omega) (by omega), SX1, l100, Int.tdiv_eq_ediv_of_nonneg sm1, sx2]
  have hso := min_eq V2 SX2
  have hsr := minr (a := sp2) (b := m3.1 0 36 * sl / 100)
  generalize hsos : (if sp2 < m3.1 0 36 * sl / 100 then sp2 else m3.1 0 36 * sl / 100) = so at hso hsr
  have v3a : (sp2 - so).toInt = sp2.toInt - so.toInt := sub32 (by omega)
  have V3 : (SP2 - Int32.toInt64 so).toInt = (sp2 - so).toInt := by rw [sub64 (by rw [i2l_toInt]; omega), i2l_toInt, V2, v3a]
  generalize hsp3 : sp2 - so = sp3 at v3a V3
  generalize hSP3 : SP2 - Int32.toInt64 so = SP3 at V3
  have hfo := min_eq V3 (show (99999 : Int64).toInt = (99999 : Int32).toInt from rfl)
  have hfr := minr (a := sp3) (b := 99999)
  rw [h99] at hfr
  generalize hsf : (if sp3 < 99999 then sp3 else (99999 : Int32)) = fs at hfo hfr
  have hL : (Int32.toInt64 fs).toInt32 = fs := l2i (i2l_toInt fs)
  have hpos : ¬ W + 200 ≤ 0 := by rw [le32, hW2]; omega
  have hnz : ¬ W + 200 = 0 := fun e => by rw [e] at hW2; omega
  have hnz64 : ¬ Int32.toInt64 (W + 200) = 0 := fun e => by
    have := i2l_toInt (W + 200)
    rw [e, hW2, show (0 : Int64).toInt = 0 from rfl] at this
    omega
  have hcls : f_X1_pullOnce nc x κ = some (sI (sL (sI (sL (sI (sL (sI (sI x3 31 10 sp1) 31 10 sp2) 31 13 (x3.2.1 31 13 + Int32.toInt64 lo)) 31 10 sp3) 31 14 (x3.2.1 31 14 + Int32.toInt64 so)) 31 10 fs) 31 11 (x3.2.1 31 11 + Int32.toInt64 fs)) 31 8 (nI (c + 1))) := by
    unfold f_X1_pullOnce
    rw [hwat, bdE, p1]
    simp only [nmE, jnE, b11, if_neg hpos, gd_pos hnz, q2, q3, sI_at, sL_1, sI_2, sL_rd, slips_eq, hsl, bpE, hsp1, hlos, hsp2, hsos, hsp3, hsf]
    simp [sL_rd, sI_2, sL_1, sI_rd, q3, nI_1]
  have hmod : f_X12_strokes m κ = some (sI (sL (sI (sL (sL m3 0 39 (m3.2.1 0 39 + Int32.toInt64 lo)) 0 40 (m3.2.1 0 40 + Int32.toInt64 so)) 0 36 fs) 0 37 (m3.2.1 0 37 + Int32.toInt64 fs)) 0 41 (nI (c + 1))) := by
    unfold f_X12_strokes
    rw [nmE, a8, gd_pos i08, nmE, c0N, nmE, nmE, d3', e1, bdE, hce, bpE, nmE, nmE, nmE, e3 15 (by omega), e3 16 (by omega), jnI, ht12, p2]
    simp only [nmE, jnI, hWm, bpE, gd_pos hnz64, hSP1, hlo, hSP2, hsl, sL_1, hso, hSP3, hfo, hL, sI_2, sI_at]
    simp [sL_rd, sI_2, sL_1, sI_rd, q3', nI_1]
  refine ⟨_, _, hcls, hmod, ?_, ?_, ?_, ?_⟩
  · refine hF3.trans ⟨fun q hq => ?_, ?_, rfl, fun q a b => ?_, fun j hj => ?_⟩
    · simp only [sI_ro _ 31 _ _ q (show q ≠ 31 by omega), sL_1]
    · simp [sI_rd, sL_1]
    · simp only [sI_ro _ 0 _ _ q a, sL_1]
    · have n36 : j ≠ 36 := by omega
      have n41 : j ≠ 41 := by omega
      simp [sI_rd, sL_1, n36, n41]
  · have hfs : 0 ≤ fs.toInt ∧ fs.toInt ≤ 99999 := by omega
    have hway : (m3.2.1 0 37 + Int32.toInt64 fs).toInt = (m3.2.1 0 37).toInt + fs.toInt := by rw [add64 (by rw [i2l_toInt]; omega), i2l_toInt]
    unfold RD
    simp [sI_rd, sL_1, sL_rd, sI_2, q4, q5, q6, q7, hway]
    exact ⟨q1, hfs, by omega, by omega⟩
  · intro q hq
    simp [sI_rd, sL_1, sL_rd, sI_2]
    exact p5 q hq
  · intro hT
    simp [sI_rd, sL_1, sL_rd, sI_2]
    have h9 : m1.1 9 = m.1 9 := e2 9 (by omega)
    rw [← h9]
    exact p10 (by rw [e5 38 (by omega), hT]; rfl)
