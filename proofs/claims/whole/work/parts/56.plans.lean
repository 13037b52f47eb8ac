/-- a plan is there: both say so alike -/
theorem xPlan {x m : St} {np : Nat} (h8 : np ≤ 8) (hx : x.1 20 3 = nI np) (a : Int32) : f_X4_has x a = some (iz (0 ≤ a.toInt ∧ a.toInt ≤ (np : Int) - 1)) := by
  unfold f_X4_has nm
  rw [hx]
  dsimp only
  have e0 : (0 : Int32).toInt = 0 := rfl
  have en := nI_rng (n := np) (by omega)
  unfold iz
  by_cases h1 : a < 0
  · rw [if_pos h1, if_neg (by rw [lt32] at h1; omega)]
  · by_cases h2 : nI np ≤ a
    · rw [if_neg h1, if_pos h2, if_neg (by rw [le32] at h2; omega)]
    · rw [if_neg h1, if_neg h2, if_pos (by rw [lt32] at h1; rw [le32] at h2; omega)]
theorem pred_toInt {n : Nat} (h : n < 1000000) : (nI n - 1).toInt = (n : Int) - 1 := by
  have : (1 : Int32).toInt = 1 := rfl
  rw [sub32 (by rw [nI_rng (by omega)]; omega), nI_rng (by omega)]; omega
theorem mPlan {m : St} {np : Nat} (h8 : np ≤ 8) (hm : m.1 0 33 = nI np) (a : Int32) : f_X12_isPlan m a = some (iz (0 ≤ a.toInt ∧ a.toInt ≤ (np : Int) - 1)) := by
  unfold f_X12_isPlan nm
  rw [hm]
  dsimp only
  rw [m_in, i2l_toInt, pred_toInt (by omega)]
  exact if_pos iz_01
/-- a stroke of a plan -/
theorem xKindOf {x m : St} {np : Nat} (h8 : np ≤ 8) (hx : x.1 20 3 = nI np) (p i : Nat) (hp : p < np) {n : Nat} (hn : n ≤ 200) (hs : x.1 22 p = nI n) (a : Int32) : f_X4_kindOf x (nI p) a = some (if 0 ≤ a.toInt ∧ a.toInt < (n : Int) then x.1 (23 + p) a.toNatClampNeg else -1) := by
  unfold f_X4_kindOf
  rw [xPlan (m := m) h8 hx]
  have ep := nI_rng (n := p) (by omega)
  have ec : (nI p).toNatClampNeg = p := nI_clamp (by omega)
  have e0 : (0 : Int32).toInt = 0 := rfl
  simp only [bp_some]
  rw [iz_pos (by omega), if_neg ne10]
  by_cases h1 : a < 0
  · rw [if_pos h1, if_neg (by rw [lt32] at h1; omega)]
  · rw [if_neg h1, gd_pos (inb_of (by omega) (by omega))]
    unfold nm
    have hr : x.1 22 (nI p).toNatClampNeg = nI n := by rw [ec]; exact hs
    rw [hr]
    dsimp only
    have en := nI_rng (n := n) (by omega)
    by_cases h2 : nI n ≤ a
    · rw [if_pos h2, if_neg (by rw [le32] at h2; omega)]
    · rw [if_neg h2, gd_pos (inb_of (by omega) (by omega)), gd_pos (inb_of (by rw [lt32] at h1; omega) (by rw [le32] at h2; omega)), if_pos (by rw [lt32] at h1; rw [le32] at h2; omega), ec]
