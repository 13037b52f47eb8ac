/-! THE INVARIANT between the class's state x and the model's state m -/
def rng (a : Int32) (lo hi : Int) : Prop := lo ≤ a.toInt ∧ a.toInt ≤ hi
def seatsOk (nr : Nat) (f g : Nat → Int32) : Prop := ∀ k, k < 8 → f k = g k ∧ (g k = -1 ∨ ∃ i, i < nr ∧ g k = nI i)
def sidesOk (f g : Nat → Int32) : Prop := ∀ k, k < 8 → f k = g k ∧ (g k = 0 ∨ g k = 1)
def gearsOk (f g : Nat → Int32) : Prop := ∀ k, k < 8 → f k = g k ∧ rng (g k) 1 9
def ICrew (nr : Nat) (x m : St) : Prop := nr ≤ 16 ∧ x.1 1 4 = nI nr ∧ m.1 0 11 = nI nr ∧ ∀ i, i < nr → (x.1 2 i = m.1 4 i ∧ x.1 3 i = m.1 5 i ∧ x.1 4 i = m.1 6 i ∧ x.1 5 i = m.1 7 i) ∧ rng (m.1 4 i) 40 120 ∧ rng (m.1 5 i) 1 99 ∧ rng (m.1 6 i) 0 9999 ∧ rng (m.1 7 i) 0 99
def IBoat (nr : Nat) (x m : St) : Prop := seatsOk nr (x.1 7) (m.1 8) ∧ sidesOk (x.1 8) (m.1 9) ∧ gearsOk (x.1 9) (m.1 10) ∧ (x.1 6 3 = m.1 0 15 ∧ rng (m.1 0 15) 1 999) ∧ x.1 6 4 = m.1 0 16 ∧ rng (m.1 0 16) (-99) 99
def IKept (nr tc : Nat) (x m : St) : Prop := (m.1 0 54 = 0 ∧ x.1 0 4 = -1) ∨ (m.1 0 54 = 1 ∧ ∃ kr, kr ≤ nr ∧ x.1 0 4 = nI kr ∧ m.1 0 55 = nI kr ∧ seatsOk kr (x.1 11) (m.1 21) ∧ sidesOk (x.1 12) (m.1 22) ∧ gearsOk (x.1 13) (m.1 23) ∧ (∀ i, i < kr → x.1 14 i = m.1 24 i ∧ rng (m.1 24 i) 0 9999) ∧ (x.1 10 3 = m.1 0 56 ∧ rng (m.1 0 56) 1 999) ∧ (x.1 10 4 = m.1 0 57 ∧ rng (m.1 0 57) (-99) 99) ∧ x.1 0 5 = m.1 0 58 ∧ ∃ j, j < tc ∧ m.1 0 58 = nI j)
def ITape (x m : St) : Prop := ∃ n, n ≤ 160 ∧ x.1 15 1 = nI n ∧ m.1 0 6 = nI n ∧ ∀ i, i < n → m.1 3 i = x.1 16 i &&& 255
/-- PA bytes size steps length half: the text reads into these steps -/
def IText (PA : (Nat → Int32) → Nat → (Nat → Int32) → Nat → Int32 → Prop) (nc tc : Nat) (x m : St) : Prop := nc = 66 + 2 * tc ∧ 1 ≤ tc ∧ tc ≤ 6 ∧ x.1 0 9 = nI tc ∧ m.1 0 3 = nI tc ∧ (∃ r, r < tc ∧ x.1 0 10 = nI r ∧ m.1 0 4 = nI r) ∧
  (∀ j, j < tc → x.2.2.1 19 j = some (66 + 2 * j) ∧ ∃ n, n ≤ 160 ∧ m.1 2 j = nI n ∧ PA (fun i => m.1 1 (160 * j + i)) n (x.1 (67 + 2 * j)) (x.2.2.2 (67 + 2 * j)) (x.1 (66 + 2 * j) 1)) ∧
  (∀ i, tc ≤ i → i < 6 → x.2.2.1 19 i = none) ∧ (x.2.2.1 31 2 = none ∨ ∃ j, j < tc ∧ x.2.2.1 31 2 = some (66 + 2 * j))
def IPlan (x m : St) : Prop := ∃ np, np ≤ 8 ∧ x.1 20 3 = nI np ∧ m.1 0 33 = nI np ∧ ∀ p, p < np → ∃ n, n ≤ 200 ∧ x.1 22 p = nI n ∧ m.1 11 p = nI n ∧ ∀ i, i < n → x.1 (23 + p) i = m.1 12 (200 * p + i) ∧ rng (m.1 12 (200 * p + i)) 0 5
def ITrial (nr : Nat) (x m : St) : Prop := ∃ n, n ≤ 30 ∧ x.1 37 4 = nI n ∧ m.1 0 46 = nI n ∧ ∀ i, i < n → (x.1 38 i = m.1 15 i ∧ x.1 39 i = m.1 16 i ∧ x.1 40 i = m.1 17 i ∧ x.1 41 i = m.1 18 i) ∧ (∃ a, a < nr ∧ m.1 15 i = nI a) ∧ (∃ b, b < nr ∧ m.1 16 i = nI b) ∧ m.1 15 i ≠ m.1 16 i ∧ rng (m.1 17 i) (-9999) 9999 ∧ rng (m.1 18 i) 0 999
def IRace (x m : St) : Prop := ∃ n, n ≤ 20 ∧ x.1 56 1 = nI n ∧ m.1 0 49 = nI n ∧ ∀ i, i < 6 * n → x.1 57 i = m.1 20 i ∧ rng (m.1 20 i) 0 9999
def ISheet (x m : St) : Prop := ∀ s, s < 4 → (m.1 25 s = 0 ∧ x.1 59 s = -1) ∨ (m.1 25 s = 1 ∧ (∃ t, t < 3 ∧ x.1 59 s = nI t ∧ m.1 26 s = nI t) ∧ ∃ n, n ≤ 40 ∧ x.1 60 s = nI n ∧ m.1 27 s = nI n ∧ ∀ i, i < n → x.1 (62 + s) i = m.1 28 (40 * s + i))
def InvP (PA : (Nat → Int32) → Nat → (Nat → Int32) → Nat → Int32 → Prop) (nc : Nat) (x m : St) : Prop := ∃ nr tc, ICrew nr x m ∧ IBoat nr x m ∧ IKept nr tc x m ∧ ITape x m ∧ IText PA nc tc x m ∧ IPlan x m ∧ ITrial nr x m ∧ IRace x m ∧ ISheet x m
/-- reads behind one write -/
theorem sI_rd (σ : St) (k j : Nat) (v : Int32) (k' j' : Nat) : (sI σ k j v).1 k' j' = if k' = k ∧ j' = j then v else σ.1 k' j' := by
  unfold sI va_up upd
  by_cases h1 : k' = k
  · subst h1
    by_cases h2 : j' = j <;> simp [h2]
  · simp [h1]
theorem sI_ro (σ : St) (k j : Nat) (v : Int32) (k' : Nat) (h : k' ≠ k) : (sI σ k j v).1 k' = σ.1 k' := by
  unfold sI va_up; simp [h]
