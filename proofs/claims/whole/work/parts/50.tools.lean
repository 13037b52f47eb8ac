/-! PURE SIDE: numbers, and the small questions of both programs -/
theorem i2l_toInt (a : Int32) : (Int32.toInt64 a).toInt = a.toInt := by simp
theorem lt32 {a b : Int32} : a < b ↔ a.toInt < b.toInt := Int32.lt_iff_toInt_lt
theorem le32 {a b : Int32} : a ≤ b ↔ a.toInt ≤ b.toInt := Int32.le_iff_toInt_le
theorem eq32 {a b : Int32} : a = b ↔ a.toInt = b.toInt := Int32.toInt_inj.symm
theorem lt64 {a b : Int64} : a < b ↔ a.toInt < b.toInt := Int64.lt_iff_toInt_lt
theorem le64 {a b : Int64} : a ≤ b ↔ a.toInt ≤ b.toInt := Int64.le_iff_toInt_le
theorem eq64 {a b : Int64} : a = b ↔ a.toInt = b.toInt := Int64.toInt_inj.symm
theorem bd32 (a : Int32) : -2147483648 ≤ a.toInt ∧ a.toInt < 2147483648 := by
  have h1 := Int32.le_toInt a
  have h2 := Int32.toInt_lt a
  omega
theorem add32 {a b : Int32} (h : -2147483648 ≤ a.toInt + b.toInt ∧ a.toInt + b.toInt < 2147483648) : (a + b).toInt = a.toInt + b.toInt := by
  rw [Int32.toInt_add]; exact Int.bmod_eq_of_le (by omega) (by omega)
theorem sub32 {a b : Int32} (h : -2147483648 ≤ a.toInt - b.toInt ∧ a.toInt - b.toInt < 2147483648) : (a - b).toInt = a.toInt - b.toInt := by
  rw [Int32.toInt_sub]; exact Int.bmod_eq_of_le (by omega) (by omega)
theorem mul32 {a b : Int32} (h : -2147483648 ≤ a.toInt * b.toInt ∧ a.toInt * b.toInt < 2147483648) : (a * b).toInt = a.toInt * b.toInt := by
  rw [Int32.toInt_mul]; exact Int.bmod_eq_of_le (by omega) (by omega)
theorem w_spec (a lo hi : Int32) : f_X11_within a lo hi = some (if lo.toInt ≤ a.toInt ∧ a.toInt ≤ hi.toInt then 1 else 0) := by
  unfold f_X11_within
  by_cases h1 : a < lo
  · rw [if_pos h1, if_neg (by rw [lt32] at h1; omega)]
  · by_cases h2 : hi < a
    · rw [if_neg h1, if_pos h2, if_neg (by rw [lt32] at h2; omega)]
    · rw [if_neg h1, if_neg h2, if_pos (by rw [lt32] at h1 h2; omega)]
theorem in_spec (a : Int32) (lo hi : Int64) : f_X12_in a.toInt64 lo hi = some (if lo.toInt ≤ a.toInt ∧ a.toInt ≤ hi.toInt then 1 else 0) := by
  unfold f_X12_in
  have e := i2l_toInt a
  by_cases h1 : a.toInt64 < lo
  · rw [if_pos h1, if_neg (by rw [lt64] at h1; omega)]
  · by_cases h2 : hi < a.toInt64
    · rw [if_neg h1, if_pos h2, if_neg (by rw [lt64] at h2; omega)]
    · rw [if_neg h1, if_neg h2, if_pos (by rw [lt64] at h1 h2; omega)]
/-- in or not: 1 or 0 -/
def iz (c : Prop) [Decidable c] : Int32 := if c then 1 else 0
theorem w_in (a lo hi : Int32) : f_X11_within a lo hi = some (iz (lo.toInt ≤ a.toInt ∧ a.toInt ≤ hi.toInt)) := w_spec a lo hi
theorem m_in (a : Int32) (lo hi : Int64) : f_X12_in a.toInt64 lo hi = some (iz (lo.toInt ≤ a.toInt ∧ a.toInt ≤ hi.toInt)) := in_spec a lo hi
theorem iz_0 {c : Prop} [Decidable c] : iz c = 0 ↔ ¬ c := by
  unfold iz; by_cases h : c <;> simp [h]
theorem iz_01 {c : Prop} [Decidable c] : iz c = 0 ∨ iz c = 1 := by
  unfold iz; by_cases h : c <;> simp [h]
theorem xSeat (a : Int32) : f_X11_isSeat a = some (iz (0 ≤ a.toInt ∧ a.toInt ≤ 7)) := by
  unfold f_X11_isSeat
  rw [w_in]
  exact if_pos iz_01
theorem mSeat (a : Int32) : f_X12_isSeat a = some (iz (0 ≤ a.toInt ∧ a.toInt ≤ 7)) := by
  unfold f_X12_isSeat
  rw [m_in]
  exact if_pos iz_01
theorem xKind (a : Int32) : f_X3_has a = some (iz (0 ≤ a.toInt ∧ a.toInt ≤ 5)) := by
  unfold f_X3_has
  have e0 : (0 : Int32).toInt = 0 := rfl
  have e5 : (5 : Int32).toInt = 5 := rfl
  unfold iz
  by_cases h1 : a < 0
  · rw [if_pos h1, if_neg (by rw [lt32] at h1; omega)]
  · by_cases h2 : 5 < a
    · rw [if_neg h1, if_pos h2, if_neg (by rw [lt32] at h2; omega)]
    · rw [if_neg h1, if_neg h2, if_pos (by rw [lt32] at h1 h2; omega)]
theorem bp_some {α ρ : Type} (a : α) (K : α → Option ρ) : bp (some a) K = K a := rfl
theorem bd_some {α ρ : Type} (q : α × St) (K : α → St → Option ρ) : bd (some q) K = K q.1 q.2 := rfl
theorem bdv_some {ρ : Type} (q : St) (K : St → Option ρ) : bdv (some q) K = K q := rfl
theorem gd_pos {ρ : Type} {c : Prop} [Decidable c] (h : c) (P : Option ρ) : gd c P = P := if_pos h
/-- an index out of a comparison -/
theorem inb_of {i : Int32} {n : Nat} (h0 : 0 ≤ i.toInt) (h1 : i.toInt < n) : inb i n := by
  intro h
  rcases h with h | h
  · rw [lt32] at h
    have : (0 : Int32).toInt = 0 := rfl
    omega
  · have : (i.toNatClampNeg : Int) = i.toInt := Int.toNat_of_nonneg h0
    omega
theorem clamp_toInt {i : Int32} (h0 : 0 ≤ i.toInt) : (i.toNatClampNeg : Int) = i.toInt := Int.toNat_of_nonneg h0
/-- what pulls are: alike for what is given 0 .. 999 -/
theorem pull_eq {k g seat : Int32} (h0 : 0 ≤ g.toInt) (h1 : g.toInt ≤ 999) : f_X3_pull k g seat = f_X12_pullOf k g seat := by
  have late : ∀ v : Int32, 0 ≤ v.toInt → v.toInt ≤ 999 → (if 0 < v - 3 then v - 3 else 0) = (if v ≤ 3 then (0 : Int32) else v - 3) := by
    intro v h0 h1
    have e3 : (3 : Int32).toInt = 3 := rfl
    have e0 : (0 : Int32).toInt = 0 := rfl
    have hs : (v - 3).toInt = v.toInt - 3 := by rw [sub32 (by omega)]; omega
    by_cases h : v ≤ 3
    · rw [if_pos h, if_neg (by rw [lt32, hs]; rw [le32] at h; omega)]
    · rw [if_neg h, if_pos (by rw [lt32, hs]; rw [le32] at h; omega)]
  have hd : 0 ≤ (g / 2).toInt ∧ (g / 2).toInt ≤ 999 := by
    have e2 : (2 : Int32).toInt = 2 := rfl
    rw [Int32.toInt_div, e2]
    have : (g.toInt.tdiv 2).bmod (2 ^ 32) = g.toInt.tdiv 2 := Int.bmod_eq_of_le (by rw [Int.tdiv_eq_ediv_of_nonneg h0]; omega) (by rw [Int.tdiv_eq_ediv_of_nonneg h0]; omega)
    rw [this, Int.tdiv_eq_ediv_of_nonneg h0]
    omega
  unfold f_X3_pull f_X12_pullOf f_X3_latePull jn nm
  by_cases hs : seat = 0
  · simp only [if_pos hs, bp_some]
    rw [late _ hd.1 hd.2]
    by_cases h : (g / 2) ≤ 3 <;> simp [h]
  · simp only [if_neg hs, bp_some]
    rw [late _ h0 h1]
    by_cases h : g ≤ 3 <;> simp [h]
theorem cost_eq {k g : Int32} : f_X3_cost k g = f_X12_costOf k g := rfl
theorem slips_eq {k : Int32} : f_X3_slips k = f_X12_slipsOf k := rfl
