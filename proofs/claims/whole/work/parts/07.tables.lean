/-- the class's cells: what each is (0 an object of a class, 1 ints, 2 bytes, 3 booleans, 4 longs, 5 rows of ints, 6 rules, 7 ints of a length of its own) -/
def shX (k : Nat) : Nat × Nat := if k < 66 then ([(0, 11), (0, 2), (1, 16), (1, 16), (1, 16), (1, 16), (0, 0), (1, 8), (1, 8), (1, 8), (0, 0), (1, 8), (1, 8), (1, 8), (1, 16), (0, 8), (2, 160), (0, 9), (1, 160), (6, 6), (0, 4), (5, 8), (1, 8), (1, 200), (1, 200), (1, 200), (1, 200), (1, 200), (1, 200), (1, 200), (1, 200), (0, 1), (1, 8), (1, 8), (1, 6), (1, 160), (1, 16), (0, 10), (1, 30), (1, 30), (1, 30), (1, 30), (5, 13), (1, 256), (1, 256), (1, 256), (1, 256), (1, 256), (1, 256), (1, 256), (1, 256), (1, 256), (1, 256), (1, 256), (1, 256), (1, 256), (0, 5), (1, 120), (0, 7), (1, 4), (1, 4), (5, 4), (1, 40), (1, 40), (1, 40), (1, 40)] : List (Nat × Nat)).getD k (9, 0) else if k % 2 = 0 then (0, 6) else (7, 0)
def rX (k j : Nat) : Option Nat := if k < 66 then (([[some 1, some 6, some 10, some 14, none, none, some 15, some 17, some 19, none, none, some 20, some 31, some 37, some 56, some 58], [some 2, some 3, some 4, some 5, none], [], [], [], [], [some 7, some 8, some 9, none, none], [], [], [], [some 11, some 12, some 13, none, none], [], [], [], [], [some 16, none], [], [some 15, some 18, none, none, none, none, none], [], [], [some 15, some 21, some 22, none], [some 23, some 24, some 25, some 26, some 27, some 28, some 29, some 30], [], [], [], [], [], [], [], [], [], [some 1, some 6, none, some 32, some 33, some 34, some 35, none, none, some 36, none, none, none, none, none], [], [], [], [], [], [some 38, some 39, some 40, some 41, none, some 42, none, none], [], [], [], [], [some 43, some 44, some 45, some 46, some 47, some 48, some 49, some 50, some 51, some 52, some 53, some 54, some 55], [], [], [], [], [], [], [], [], [], [], [], [], [], [some 57, none], [], [some 59, some 60, some 61], [], [], [some 62, some 63, some 64, some 65], [], [], [], []] : List (List (Option Nat))).getD k []).getD j none else if j = 0 then some (k + 1) else none
def shM (k : Nat) : Nat × Nat := ([(0, 12), (1, 960), (1, 6), (1, 160), (1, 16), (1, 16), (1, 16), (1, 16), (1, 8), (1, 8), (1, 8), (1, 8), (1, 1600), (1, 16), (4, 8), (1, 30), (1, 30), (1, 30), (1, 30), (4, 256), (1, 120), (1, 8), (1, 8), (1, 8), (1, 16), (3, 4), (1, 4), (1, 4), (1, 160)] : List (Nat × Nat)).getD k (9, 0)
def rM (k j : Nat) : Option Nat := if k = 0 then ([none, some 1, some 2, none, none, some 3, none, some 4, some 5, some 6, some 7, none, some 8, some 9, some 10, none, none, none, none, none, none, none, none, none, none, none, none, none, none, none, none, some 11, some 12, none, some 13, some 14, none, none, none, none, none, none, some 15, some 16, some 17, some 18, none, some 19, some 20, none, some 21, some 22, some 23, some 24, none, none, none, none, none, some 25, some 26, some 27, some 28] : List (Option Nat)).getD j none else none
theorem aaK_n : ∀ n, n < 8 → rX 21 n = some (23 + n) ∧ shX (23 + n) = (1, 200) ∧ Nat.blt (23 + n) 66 = true := by decide
theorem aaK {i : Int32} (h : inb i 8) : rX 21 i.toNatClampNeg = some (23 + i.toNatClampNeg) ∧ shX (23 + i.toNatClampNeg) = (1, 200) ∧ Nat.blt (23 + i.toNatClampNeg) 66 = true := aaK_n _ (Nat.not_le.mp fun q => h (Or.inr q))
theorem aaB_n : ∀ n, n < 13 → rX 42 n = some (43 + n) ∧ shX (43 + n) = (1, 256) ∧ Nat.blt (43 + n) 66 = true := by decide
theorem aaB {i : Int32} (h : inb i 13) : rX 42 i.toNatClampNeg = some (43 + i.toNatClampNeg) ∧ shX (43 + i.toNatClampNeg) = (1, 256) ∧ Nat.blt (43 + i.toNatClampNeg) 66 = true := aaB_n _ (Nat.not_le.mp fun q => h (Or.inr q))
theorem aaI_n : ∀ n, n < 4 → rX 61 n = some (62 + n) ∧ shX (62 + n) = (1, 40) ∧ Nat.blt (62 + n) 66 = true := by decide
theorem aaI {i : Int32} (h : inb i 4) : rX 61 i.toNatClampNeg = some (62 + i.toNatClampNeg) ∧ shX (62 + i.toNatClampNeg) = (1, 40) ∧ Nat.blt (62 + i.toNatClampNeg) 66 = true := aaI_n _ (Nat.not_le.mp fun q => h (Or.inr q))
theorem clX0 : ClsOk 0 RX0 TX0 5 tyX0 := ⟨rfl, by decide +kernel, rfl, tyX0_ok, nmX0⟩
theorem clX1 : ClsOk 1 RX1 TX1 15 tyX1 := ⟨rfl, by decide +kernel, rfl, tyX1_ok, nmX1⟩
theorem clX2 : ClsOk 2 RX2 TX2 5 tyX2 := ⟨rfl, by decide +kernel, rfl, tyX2_ok, nmX2⟩
theorem clX4 : ClsOk 4 RX4 TX4 4 tyX4 := ⟨rfl, by decide +kernel, rfl, tyX4_ok, nmX4⟩
theorem clX5 : ClsOk 5 RX5 TX5 2 tyX5 := ⟨rfl, by decide +kernel, rfl, tyX5_ok, nmX5⟩
theorem clX6 : ClsOk 6 RX6 TX6 2 tyX6 := ⟨rfl, by decide +kernel, rfl, tyX6_ok, nmX6⟩
theorem clX7 : ClsOk 7 RX7 TX7 3 tyX7 := ⟨rfl, by decide +kernel, rfl, tyX7_ok, nmX7⟩
theorem clX8 : ClsOk 8 RX8 TX8 2 tyX8 := ⟨rfl, by decide +kernel, rfl, tyX8_ok, nmX8⟩
theorem clX9 : ClsOk 9 RX9 TX9 7 tyX9 := ⟨rfl, by decide +kernel, rfl, tyX9_ok, nmX9⟩
theorem clX10 : ClsOk 10 RX10 TX10 8 tyX10 := ⟨rfl, by decide +kernel, rfl, tyX10_ok, nmX10⟩
theorem clX11 : ClsOk 11 RX11 TX11 16 tyX11 := ⟨rfl, by decide +kernel, rfl, tyX11_ok, nmX11⟩
theorem clX12 : ClsOk 12 RX12 TX12 63 tyX12 := ⟨rfl, by decide +kernel, rfl, tyX12_ok, nmX12⟩
theorem ne_toInt {x v : Int32} {a : Int} (ha : v.toInt = a) (h : ¬ x = v) : x.toInt ≠ a := fun e => h (Int32.toInt_inj.mp (e.trans ha.symm))
def FU : Nat := 5000
theorem rX_rule {c : Nat} (h : shX c = (0, 6)) : rX c 0 = some (c + 1) ∧ shX (c + 1) = (7, 0) := by
  have key : ¬ c < 66 := fun hlt => by
    have : ∀ n, n < 66 → shX n ≠ (0, 6) := by decide
    exact this c hlt h
  have h2 : c % 2 = 0 := by
    unfold shX at h
    rw [if_neg key] at h
    by_cases e : c % 2 = 0
    · exact e
    · rw [if_neg e] at h; cases h
  refine ⟨?_, ?_⟩
  · unfold rX; rw [if_neg key, if_pos rfl]
  · unfold shX; rw [if_neg (by omega), if_neg (by omega)]
