/-- what a stroke leaves as it is -/
def FRs (x m x' m' : St) : Prop := (∀ c, c < 31 ∨ c = 32 ∨ 36 < c → x'.1 c = x.1 c) ∧ x'.1 31 7 = x.1 31 7 ∧ x'.2.2 = x.2.2 ∧ (∀ c, c ≠ 0 → c ≠ 13 → m'.1 c = m.1 c) ∧ (∀ j, j < 17 ∨ (30 < j ∧ j ≠ 36 ∧ j ≠ 41) → m'.1 0 j = m.1 0 j)
theorem FRs.rfl' (x m : St) : FRs x m x m := ⟨fun _ _ => rfl, rfl, rfl, fun _ _ _ => rfl, fun _ _ => rfl⟩
theorem FRs.trans {x m x' m' x'' m'' : St} (h : FRs x m x' m') (g : FRs x' m' x'' m'') : FRs x m x'' m'' := by
  obtain ⟨a1, a2, a3, a4, a5⟩ := h
  obtain ⟨b1, b2, b3, b4, b5⟩ := g
  exact ⟨fun c hc => by rw [b1 c hc, a1 c hc], by rw [b2, a2], by rw [b3, a3], fun c c1 c2 => by rw [b4 c c1 c2, a4 c c1 c2], fun j hj => by rw [b5 j hj, a5 j hj]⟩
theorem FRs.rs {nc nr tc rid : Nat} {x m x' m' : St} (h : FRs x m x' m') (hS : RS nc nr tc rid x m) : RS nc nr tc rid x' m' := hS.cg h.1 h.2.1 h.2.2.1 h.2.2.2.1 (fun j hj => h.2.2.2.2 j (Or.inl hj))
/-- one rower's drive -/
theorem drive_eq {nc nr tc rid c k i : Nat} {x m : St} {κ : Int32} (hS : RS nc nr tc rid x m) (hD : RD nr c x m) (hk : k < 8) (hi : i < nr) (hsit : m.1 8 k = nI i) : ∃ g pu D x' m1, f_X1_driveOf nc x (nI k) (nI i) κ = some (D, x') ∧ f_X12_givesOf m (nI k) = some (g, m1) ∧ f_X12_pullOf κ g (nI k) = some pu ∧ rng D 0 2808 ∧ (Int32.toInt64 pu * Int32.toInt64 (m.1 10 k)) / 4 = Int32.toInt64 D ∧ (∃ co w r, f_X12_costOf κ g = some co ∧ f_X12_within (m.1 13 i - co) 0 9999 = some w ∧ f_X12_within (w + m.1 7 i) 0 9999 = some r ∧ rng r 0 9999 ∧ x'.1 36 i = r ∧ (∀ j, j ≠ i → x'.1 36 j = x.1 36 j)) ∧ (∀ q, q ≠ 34 → q ≠ 35 → q ≠ 36 → x'.1 q = x.1 q) ∧ x'.2 = x.2 ∧ (∀ q, q ≠ 0 → m1.1 q = m.1 q) ∧ (∀ q, q < 17 ∨ 30 < q → m1.1 0 q = m.1 0 q) ∧ (∀ q, q ≠ 0 → m1.2.1 q = m.2.1 q) ∧ (∀ q, q ≠ 21 → m1.2.1 0 q = m.2.1 0 q) := by
  obtain ⟨v1, v2, x0, s1, s2, ⟨x1, s3, s4, s5⟩, _, s6⟩ := says hS hD hk (Or.inr ⟨i, hi, rfl⟩)
  obtain ⟨a1, a2, a3, a4, a5, a6, ⟨a7, a7', a7''⟩, a8, a9, a10, a11⟩ := hS
  obtain ⟨d1, ⟨d2, d2'⟩, ⟨d3, d3'⟩, d4⟩ := hD
  obtain ⟨m1, e1, e2, e3, e4', e5⟩ := s6 0
  obtain ⟨r1, r2, r3, r4⟩ := a1
  have h16 : i < 16 := by omega
  have r31 : x0.2.2.1 31 2 = some (66 + 2 * rid) := by rw [s2]; exact a9
  have hgd : shX (66 + 2 * rid) = (0, 6) ∧ 66 + 2 * rid + 1 < nc := ⟨shRule, by omega⟩
  rw [if_pos rfl] at e1
  -- the model gives
  have hgive : f_X12_givesOf m (nI k) = some (if m.1 13 i = 0 then (if 0 < (if v1 < 999 then v1 else 999) then (if v1 < 999 then v1 else 999) else 0) / 2 else (if 0 < (if v1 < 999 then v1 else 999) then (if v1 < 999 then v1 else 999) else 0), m1) := by
    unfold f_X12_givesOf
    rw [gdN hk (by omega), nmE, clampN (by omega), hsit, nmE, a8, nmE, nmE, d3', e1, bdE, clamp_eq (by decide), bpE, gdN h16 (by omega), nmE, clampN (by omega), e2 13 (by omega)]
    by_cases z : m.1 13 i = 0
    · rw [if_pos z, if_pos z]
    · rw [if_neg z, if_neg z]
  have hcl := clamp_rng (t := v1) (N := 999) (by decide)
  rw [show (999 : Int32).toInt = 999 from rfl] at hcl
  have hgr : 0 ≤ (if m.1 13 i = 0 then (if 0 < (if v1 < 999 then v1 else 999) then (if v1 < 999 then v1 else 999) else 0) / 2 else (if 0 < (if v1 < 999 then v1 else 999) then (if v1 < 999 then v1 else (999 : Int32)) else 0)).toInt ∧ (if m.1 13 i = 0 then (if 0 < (if v1 < 999 then v1 else 999) then (if v1 < 999 then v1 else 999) else 0) / 2 else (if 0 < (if v1 < 999 then v1 else 999) then (if v1 < 999 then v1 else (999 : Int32)) else 0)).toInt ≤ 999 := by
    by_cases z : m.1 13 i = 0
    · rw [if_pos z]; exact half_rng hcl.1 hcl.2
    · rw [if_neg z]; exact hcl
  have x136 : x1.1 36 i = m.1 13 i := by rw [s4 36 (by omega) (by omega)]; exact (d1 i hi).1
  have hx1 : f_X1_driveOf nc x (nI k) (nI i) κ = (fun g => nm (m.1 13 i) (fun v13 => bp (f_X3_cost κ g) (fun v14 => nm (v13 - v14) (fun v15 => nm (if 0 < v15 then v15 else 0) (fun v16 => nm (x.1 5 i) (fun v18 => nm (v16 + v18) (fun v19 => nm (if v19 < 9999 then v19 else 9999) (fun v20 => nm (sI x1 36 i v20) (fun σ22 => bp (f_X3_pull κ g (nI k)) (fun v23 => nm (x.1 9 k) (fun v25 => some ((v23 * v25) / 4, σ22)))))))))))) (if m.1 13 i = 0 then (if 0 < (if v1 < 999 then v1 else 999) then (if v1 < 999 then v1 else 999) else 0) / 2 else (if 0 < (if v1 < 999 then v1 else 999) then (if v1 < 999 then v1 else 999) else 0)) := by
    unfold f_X1_driveOf
    rw [s1, bdvE, jnE, r31, moE, moE, gd_pos hgd, s3, bdE]
    simp only [nmE, gdN h16 (show 16 ≤ 1000000 by omega), gdN hk (show 8 ≤ 1000000 by omega), clampN (show i < 1000000 by omega), clampN (show k < 1000000 by omega), x136, s4 5 (by omega) (by omega), sI_ro _ 36 _ _ 9 (show 9 ≠ 36 by omega), s4 9 (by omega) (by omega), jnI]
  generalize (if m.1 13 i = 0 then (if 0 < (if v1 < 999 then v1 else 999) then (if v1 < 999 then v1 else 999) else 0) / 2 else (if 0 < (if v1 < 999 then v1 else 999) then (if v1 < 999 then v1 else (999 : Int32)) else 0)) = g at hgive hgr hx1
  obtain ⟨pu, hpu⟩ := pull_some κ g (nI k)
  obtain ⟨co, hco⟩ := cost_some κ g
  have hpr := pull_rng hgr.1 hgr.2 hpu
  have hcr := cost_rng hgr.1 hgr.2 hco
  obtain ⟨⟨t1, t2, t3, t4⟩, t5, t6, t7, t8⟩ := r4 i hi
  obtain ⟨w, w1, r, w2, w3, w4⟩ := store_eq (d1 i hi).2 hcr t8
  dsimp only at hx1
  rw [cost_eq, hco, pull_eq hgr.1 hgr.2, hpu] at hx1
  simp only [nmE, bpE] at hx1
  have hge := (a3 k hk)
  unfold gearsOk rng at hge
  have e4 : (4 : Int32).toInt = 4 := rfl
  have l4 : (4 : Int64).toInt = 4 := rfl
  have hmul1 : 0 ≤ pu.toInt * (m.1 10 k).toInt := Int.mul_nonneg hpr.1 (by have := hge.2.1; omega)
  have hmul2 : pu.toInt * (m.1 10 k).toInt ≤ 1248 * 9 := Int.mul_le_mul hpr.2 hge.2.2 (by have := hge.2.1; omega) (by omega)
  have hm32 : (pu * x.1 9 k).toInt = pu.toInt * (m.1 10 k).toInt := by rw [hge.1, mul32 (by omega)]
  have hd32 : (pu * x.1 9 k / 4).toInt = pu.toInt * (m.1 10 k).toInt / 4 := by rw [div32 (by omega) (by omega), hm32, e4, Int.tdiv_eq_ediv_of_nonneg hmul1]
  have hm64 : (Int32.toInt64 pu * Int32.toInt64 (m.1 10 k)).toInt = pu.toInt * (m.1 10 k).toInt := by rw [mul64 (by rw [i2l_toInt, i2l_toInt]; omega), i2l_toInt, i2l_toInt]
  refine ⟨g, pu, pu * x.1 9 k / 4, _, m1, hx1, hgive, hpu, ⟨by rw [hd32]; omega, by rw [hd32]; omega⟩, ?_, ⟨co, w, r, hco, w1, w2, w3, ?_, fun j hj => ?_⟩, fun q q1 q2 q3 => ?_, ?_, e2, e3, e4', e5⟩
  · rw [eq64, i2l_toInt, hd32, div64 (by omega) (by omega), hm64, l4, Int.tdiv_eq_ediv_of_nonneg hmul1]
  · rw [sI_at, t4]; exact w4.symm
  · rw [sI_rne _ 36 _ _ j hj, s4 36 (by omega) (by omega)]
  · rw [sI_ro _ 36 _ _ q q3, s4 q q1 q2]
  · rw [sI_2]; exact s5
