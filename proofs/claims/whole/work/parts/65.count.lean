/-- who sits: how many; all weights -/
theorem sitters_eq {x m : St} (h : ∀ k, k < 8 → x.1 7 k = m.1 8 k) : ∀ (d f k : Nat) (acc : Int32), k + d = 8 → d < f → ∃ r, f_X0_sitters_l4 x f acc (nI k) = some r ∧ f_X12_sitting_l4 m f acc (nI k) = some r := by
  have e8 : (8 : Int32).toInt = 8 := rfl
  intro d
  induction d with
  | zero =>
    intro f k acc hk hf
    obtain ⟨f, rfl⟩ : ∃ g, f = g + 1 := ⟨f - 1, by omega⟩
    unfold f_X0_sitters_l4 f_X12_sitting_l4
    have : (8 : Int32) ≤ nI k := by rw [le_nI (by omega)]; omega
    rw [if_pos this, if_pos this]
    exact ⟨_, rfl, rfl⟩
  | succ d ih =>
    intro f k acc hk hf
    obtain ⟨f, rfl⟩ : ∃ g, f = g + 1 := ⟨f - 1, by omega⟩
    unfold f_X0_sitters_l4 f_X12_sitting_l4
    have : ¬ (8 : Int32) ≤ nI k := by rw [le_nI (by omega)]; omega
    rw [if_neg this, if_neg this, gdN (by omega) (by omega), gdN (by omega) (by omega)]
    unfold nm jn
    rw [clampN (by omega), h k (by omega), nI_1]
    by_cases e : m.1 8 k = -1
    · simp only [if_pos e, Int32.add_zero]
      exact ih f (k + 1) acc (by omega) (by omega)
    · simp only [if_neg e]
      exact ih f (k + 1) _ (by omega) (by omega)
theorem sitters_all {nr : Nat} {x m : St} (h : seatsOk nr (x.1 7) (m.1 8)) : ∃ r, f_X0_sitters x = some r ∧ f_X12_sitting m = some r := sitters_eq (fun k hk => (h k hk).1) 8 FU 0 0 rfl (by decide)
def wAcc (s w : Nat → Int32) : Nat → Int32
  | 0 => 0
  | k + 1 => wAcc s w k + (if s k = -1 then 0 else w (s k).toNatClampNeg)
theorem xWeight_l {nr : Nat} {x : St} (h16 : nr ≤ 16) (hx : x.1 1 4 = nI nr) (hs : ∀ k, k < 8 → x.1 7 k = -1 ∨ ∃ i, i < nr ∧ x.1 7 k = nI i) : ∀ (d f k : Nat), k + d = 8 → d < f → f_X0_weightOf_l4 x f (wAcc (x.1 7) (x.1 2) k) (nI k) = some (wAcc (x.1 7) (x.1 2) 8) := by
  have e8 : (8 : Int32).toInt = 8 := rfl
  intro d
  induction d with
  | zero =>
    intro f k hk hf
    obtain ⟨f, rfl⟩ : ∃ g, f = g + 1 := ⟨f - 1, by omega⟩
    unfold f_X0_weightOf_l4
    have : (8 : Int32) ≤ nI k := by rw [le_nI (by omega)]; omega
    rw [if_pos this]
    rw [show k = 8 by omega]
  | succ d ih =>
    intro f k hk hf
    obtain ⟨f, rfl⟩ : ∃ g, f = g + 1 := ⟨f - 1, by omega⟩
    unfold f_X0_weightOf_l4
    have : ¬ (8 : Int32) ≤ nI k := by rw [le_nI (by omega)]; omega
    have hnext := ih f (k + 1) (by omega) (by omega)
    rw [if_neg this]
    simp only [gdN (show k < 8 by omega) (show 8 ≤ 1000000 by omega), nm, jn, clampN (show k < 1000000 by omega), nI_1, xRower h16 hx, bp_some]
    rcases hs k (by omega) with e | ⟨i, hi, e⟩
    · rw [iz_neg (by rw [e, show (-1 : Int32).toInt = -1 from rfl]; omega)]
      simp only [if_true]
      unfold wAcc at hnext
      rw [if_pos e, Int32.add_zero] at hnext
      exact hnext
    · have hp : 0 ≤ (x.1 7 k).toInt ∧ (x.1 7 k).toInt ≤ (nr : Int) - 1 := by rw [e, nI_rng (by omega)]; omega
      rw [iz_pos hp]
      simp only [if_neg ne10]
      unfold wAcc at hnext
      rw [if_neg (by rw [e]; exact nI_nem (by omega))] at hnext
      rw [gd_pos (by rw [e]; exact inb_nI (by omega) (by omega))]
      exact hnext
theorem xWeight {nr : Nat} {x : St} (h16 : nr ≤ 16) (hx : x.1 1 4 = nI nr) (hs : ∀ k, k < 8 → x.1 7 k = -1 ∨ ∃ i, i < nr ∧ x.1 7 k = nI i) : f_X0_weightOf x = some (wAcc (x.1 7) (x.1 2) 8) := xWeight_l h16 hx hs 8 FU 0 rfl (by decide)
theorem mWeight_l {nr : Nat} {m : St} (h16 : nr ≤ 16) (hs : ∀ k, k < 8 → m.1 8 k = -1 ∨ ∃ i, i < nr ∧ m.1 8 k = nI i) : ∀ (d f k : Nat), k + d = 8 → d < f → f_X12_allWeights_l4 m f (wAcc (m.1 8) (m.1 4) k) (nI k) = some (wAcc (m.1 8) (m.1 4) 8) := by
  have e8 : (8 : Int32).toInt = 8 := rfl
  intro d
  induction d with
  | zero =>
    intro f k hk hf
    obtain ⟨f, rfl⟩ : ∃ g, f = g + 1 := ⟨f - 1, by omega⟩
    unfold f_X12_allWeights_l4
    have : (8 : Int32) ≤ nI k := by rw [le_nI (by omega)]; omega
    rw [if_pos this]
    rw [show k = 8 by omega]
  | succ d ih =>
    intro f k hk hf
    obtain ⟨f, rfl⟩ : ∃ g, f = g + 1 := ⟨f - 1, by omega⟩
    unfold f_X12_allWeights_l4
    have : ¬ (8 : Int32) ≤ nI k := by rw [le_nI (by omega)]; omega
    have hnext := ih f (k + 1) (by omega) (by omega)
    rw [if_neg this]
    simp only [gdN (show k < 8 by omega) (show 8 ≤ 1000000 by omega), nm, jn, clampN (show k < 1000000 by omega), nI_1]
    unfold wAcc at hnext
    rcases hs k (by omega) with e | ⟨i, hi, e⟩
    · simp only [if_pos e] at hnext ⊢
      exact hnext
    · have hne : ¬ m.1 8 k = -1 := by rw [e]; exact nI_nem (by omega)
      simp only [if_neg hne] at hnext ⊢
      rw [gd_pos (by rw [e]; exact inb_nI (by omega) (by omega))]
      exact hnext
theorem mWeight {nr : Nat} {m : St} (h16 : nr ≤ 16) (hs : ∀ k, k < 8 → m.1 8 k = -1 ∨ ∃ i, i < nr ∧ m.1 8 k = nI i) : f_X12_allWeights m = some (wAcc (m.1 8) (m.1 4) 8) := mWeight_l h16 hs 8 FU 0 rfl (by decide)
theorem wAcc_cg {s s' w w' : Nat → Int32} : ∀ k, (∀ i, i < k → s i = s' i ∧ (s' i = -1 ∨ w (s' i).toNatClampNeg = w' (s' i).toNatClampNeg)) → wAcc s w k = wAcc s' w' k := by
  intro k
  induction k with
  | zero => intro _; rfl
  | succ k ih =>
    intro h
    unfold wAcc
    rw [ih (fun i hi => h i (by omega)), (h k (by omega)).1]
    rcases (h k (by omega)).2 with e | e
    · rw [if_pos e, if_pos e]
    · rw [e]
theorem weight_all {nr : Nat} {x m : St} (h1 : ICrew nr x m) (h2 : seatsOk nr (x.1 7) (m.1 8)) : ∃ r, f_X0_weightOf x = some r ∧ f_X12_allWeights m = some r := by
  obtain ⟨r1, r2, r3, r4⟩ := h1
  refine ⟨_, xWeight r1 r2 (fun k hk => by rw [(h2 k hk).1]; exact (h2 k hk).2), ?_⟩
  rw [mWeight r1 (fun k hk => (h2 k hk).2)]
  refine congrArg some (wAcc_cg 8 fun i hi => ⟨(h2 i hi).1, ?_⟩).symm
  rcases (h2 i hi).2 with e | ⟨j, hj, e⟩
  · exact Or.inl e
  · right
    rw [e, clampN (by omega)]
    exact (r4 j hj).1.1
theorem p_count {PA : (Nat → Int32) → Nat → (Nat → Int32) → Nat → Int32 → Prop} : P_count (InvP PA) := by
  intro nc x m w hI
  obtain ⟨nr, tc, h1, h2, h3, h4, h5, h6, h7, h8, h9⟩ := id hI
  obtain ⟨s, s1, s2⟩ := sitters_all h2.1
  obtain ⟨t, t1, t2⟩ := weight_all h1 h2.1
  obtain ⟨r1, r2, r3, r4⟩ := h1
  obtain ⟨n4, a1, a2, a3, a4⟩ := h4
  obtain ⟨b1, b2, b3, b4, b5, ⟨b6, b7, b8, b9⟩, b10⟩ := h5
  obtain ⟨n6, c1, c2, c3, c4⟩ := h6
  obtain ⟨n7, d1, d2, d3, d4⟩ := h7
  obtain ⟨n8, g1, g2, g3, g4⟩ := h8
  unfold f_X11_count f_X12_count nm
  rw [s1, s2, t1, t2, r2, r3, a2, a3, b4, b5, b8, b9, c2, c3, d2, d3, g2, g3]
  simp only [bp_some]
  repeat' split
  all_goals exact ⟨_, rfl, rfl, hI⟩
