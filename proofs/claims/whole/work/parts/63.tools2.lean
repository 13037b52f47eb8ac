/-! small steps that all loops and guards need -/
theorem le_nI {N : Int32} {k : Nat} (hk : k < 2147483648) : N ≤ nI k ↔ N.toInt ≤ (k : Int) := by rw [le32, nI_rng hk]
theorem nI_lek {N : Int32} {k : Nat} (hk : k < 2147483648) : nI k ≤ N ↔ (k : Int) ≤ N.toInt := by rw [le32, nI_rng hk]
theorem lt_nI {N : Int32} {k : Nat} (hk : k < 2147483648) : N < nI k ↔ N.toInt < (k : Int) := by rw [lt32, nI_rng hk]
theorem nI_ltk {N : Int32} {k : Nat} (hk : k < 2147483648) : nI k < N ↔ (k : Int) < N.toInt := by rw [lt32, nI_rng hk]
theorem inb_nI {k n : Nat} (h : k < n) (hn : n ≤ 1000000) : inb (nI k) n := inb_of (by rw [nI_rng (by omega)]; omega) (by rw [nI_rng (by omega)]; omega)
theorem clampN {k : Nat} (h : k < 1000000) : (nI k).toNatClampNeg = k := nI_clamp (by omega)
theorem gdN {ρ : Type} {k n : Nat} (h : k < n) (hn : n ≤ 1000000) (P : Option ρ) : gd (inb (nI k) n) P = P := gd_pos (inb_nI h hn) P
theorem nI_nem {k : Nat} (h : k < 1000000) : ¬ nI k = -1 := fun e => by
  have h1 := congrArg Int32.toInt e
  have h2 : (-1 : Int32).toInt = -1 := rfl
  rw [nI_rng (by omega)] at h1
  omega
theorem mul_nI (c k : Nat) (h : c * k < 2147483648) (h1 : c < 2147483648) (h2 : k < 2147483648) : nI c * nI k = nI (c * k) := by
  have e : ((c : Int) * (k : Int)) = ((c * k : Nat) : Int) := by simp
  rw [eq32, mul32 (by rw [nI_rng h1, nI_rng h2, e]; omega), nI_rng h1, nI_rng h2, nI_rng h, e]
theorem sub_nI {a b : Nat} (h : b ≤ a) (h1 : a < 2147483648) : nI a - nI b = nI (a - b) := by
  rw [eq32, sub32 (by rw [nI_rng h1, nI_rng (by omega)]; omega), nI_rng h1, nI_rng (by omega), nI_rng (by omega)]
  omega
theorem xRower {x : St} {nr : Nat} (h8 : nr ≤ 16) (hx : x.1 1 4 = nI nr) (a : Int32) : f_X2_has x a = some (iz (0 ≤ a.toInt ∧ a.toInt ≤ (nr : Int) - 1)) := by
  unfold f_X2_has nm
  rw [hx]
  dsimp only
  have e0 : (0 : Int32).toInt = 0 := rfl
  have en := nI_rng (n := nr) (by omega)
  unfold iz
  by_cases h1 : a < 0
  · rw [if_pos h1, if_neg (by rw [lt32] at h1; omega)]
  · by_cases h2 : nI nr ≤ a
    · rw [if_neg h1, if_pos h2, if_neg (by rw [le32] at h2; omega)]
    · rw [if_neg h1, if_neg h2, if_pos (by rw [lt32] at h1; rw [le32] at h2; omega)]
theorem mRower {m : St} {nr : Nat} (h8 : nr ≤ 16) (hm : m.1 0 11 = nI nr) (a : Int32) : f_X12_isRower m a = some (iz (0 ≤ a.toInt ∧ a.toInt ≤ (nr : Int) - 1)) := by
  unfold f_X12_isRower nm
  rw [hm]
  dsimp only
  rw [m_in, i2l_toInt, pred_toInt (by omega)]
  exact if_pos iz_01
theorem xSheet (a : Int32) : f_X7_has a = some (iz (0 ≤ a.toInt ∧ a.toInt ≤ 3)) := by
  unfold f_X7_has
  have e0 : (0 : Int32).toInt = 0 := rfl
  have e5 : (4 : Int32).toInt = 4 := rfl
  unfold iz
  by_cases h1 : a < 0
  · rw [if_pos h1, if_neg (by rw [lt32] at h1; omega)]
  · by_cases h2 : 4 ≤ a
    · rw [if_neg h1, if_pos h2, if_neg (by rw [le32] at h2; omega)]
    · rw [if_neg h1, if_neg h2, if_pos (by rw [lt32] at h1; rw [le32] at h2; omega)]
theorem mSheet (a : Int32) : f_X12_isSheet a = some (iz (0 ≤ a.toInt ∧ a.toInt ≤ 3)) := by
  unfold f_X12_isSheet
  rw [m_in]
  exact if_pos iz_01
theorem xSort (a : Int32) : f_X7_isSort a = some (iz (0 ≤ a.toInt ∧ a.toInt ≤ 2)) := by
  unfold f_X7_isSort
  have e0 : (0 : Int32).toInt = 0 := rfl
  have e5 : (2 : Int32).toInt = 2 := rfl
  unfold iz
  by_cases h1 : a < 0
  · rw [if_pos h1, if_neg (by rw [lt32] at h1; omega)]
  · by_cases h2 : 2 < a
    · rw [if_neg h1, if_pos h2, if_neg (by rw [lt32] at h2; omega)]
    · rw [if_neg h1, if_neg h2, if_pos (by rw [lt32] at h1; rw [lt32] at h2; omega)]
theorem xLane (a : Int32) : f_X5_isLane a = some (iz (0 ≤ a.toInt ∧ a.toInt ≤ 5)) := by
  unfold f_X5_isLane
  have e0 : (0 : Int32).toInt = 0 := rfl
  have e5 : (6 : Int32).toInt = 6 := rfl
  unfold iz
  by_cases h1 : a < 0
  · rw [if_pos h1, if_neg (by rw [lt32] at h1; omega)]
  · by_cases h2 : 6 ≤ a
    · rw [if_neg h1, if_pos h2, if_neg (by rw [le32] at h2; omega)]
    · rw [if_neg h1, if_neg h2, if_pos (by rw [lt32] at h1; rw [le32] at h2; omega)]
theorem mLane (a : Int32) : f_X12_isLane a = some (iz (0 ≤ a.toInt ∧ a.toInt ≤ 5)) := by
  unfold f_X12_isLane
  rw [m_in]
  exact if_pos iz_01
theorem upd_eq (f : Nat → Int32) (j : Nat) (v : Int32) (i : Nat) : upd f j v i = if i = j then v else f i := rfl
theorem seatsOk.up {nr : Nat} {f g : Nat → Int32} (h : seatsOk nr f g) (j : Nat) {v : Int32} (hv : v = -1 ∨ ∃ i, i < nr ∧ v = nI i) : seatsOk nr (upd f j v) (upd g j v) := by
  intro k hk
  rw [upd_eq, upd_eq]
  by_cases e : k = j
  · rw [if_pos e, if_pos e]; exact ⟨rfl, hv⟩
  · rw [if_neg e, if_neg e]; exact h k hk
theorem inv_seat {PA : (Nat → Int32) → Nat → (Nat → Int32) → Nat → Int32 → Prop} {nc nr tc : Nat} {x m : St} (hI : ICrew nr x m ∧ IBoat nr x m ∧ IKept nr tc x m ∧ ITape x m ∧ IText PA nc tc x m ∧ IPlan x m ∧ ITrial nr x m ∧ IRace x m ∧ ISheet x m) (j : Nat) {v : Int32} (hv : v = -1 ∨ ∃ i, i < nr ∧ v = nI i) : ICrew nr (sI x 7 j v) (sI m 8 j v) ∧ IBoat nr (sI x 7 j v) (sI m 8 j v) ∧ IKept nr tc (sI x 7 j v) (sI m 8 j v) ∧ ITape (sI x 7 j v) (sI m 8 j v) ∧ IText PA nc tc (sI x 7 j v) (sI m 8 j v) ∧ IPlan (sI x 7 j v) (sI m 8 j v) ∧ ITrial nr (sI x 7 j v) (sI m 8 j v) ∧ IRace (sI x 7 j v) (sI m 8 j v) ∧ ISheet (sI x 7 j v) (sI m 8 j v) := by
  obtain ⟨h1, h2, h3, h4, h5, h6, h7, h8, h9⟩ := hI
  have hmo : ∀ k, k ≠ 8 → (sI m 8 j v).1 k = m.1 k := fun k hk => sI_ro m 8 j v k hk
  have hxo : ∀ k, k ≠ 7 → (sI x 7 j v).1 k = x.1 k := fun k hk => sI_ro x 7 j v k hk
  have hm0 : ∀ i, i ≠ 1000 → (sI m 8 j v).1 0 i = m.1 0 i := fun i a => by rw [hmo 0 (by omega)]
  have hx0 : ∀ i, i ≠ 1000 → (sI x 7 j v).1 0 i = x.1 0 i := fun i a => by rw [hxo 0 (by omega)]
  have hx37 : (sI x 7 j v).1 37 4 = x.1 37 4 := by rw [hxo 37 (by omega)]
  refine ⟨h1.cg (fun k a b => hxo k (by omega)) (hm0 11 (by omega)) (fun k a b => hmo k (by omega)), ?_, h3.cg (hx0 4 (by omega)) (hx0 5 (by omega)) (fun k a b => hxo k (by omega)) (fun j a b => hm0 j (by omega)) (fun k a b => hmo k (by omega)), h4.cg (hxo 15 (by omega)) (hxo 16 (by omega)) (hm0 6 (by omega)) (hmo 3 (by omega)), h5.cg (hx0 9 (by omega)) (hx0 10 (by omega)) (fun k a => hxo k (by omega)) rfl rfl rfl (hm0 3 (by omega)) (hm0 4 (by omega)) (hmo 1 (by omega)) (hmo 2 (by omega)), h6.cg (fun k a b => hxo k (by omega)) (hm0 33 (by omega)) (hmo 11 (by omega)) (hmo 12 (by omega)), h7.cg hx37 (fun k a b => hxo k (by omega)) (hm0 46 (by omega)) (fun k a b => hmo k (by omega)), h8.cg (hxo 56 (by omega)) (hxo 57 (by omega)) (hm0 49 (by omega)) (hmo 20 (by omega)), h9.cg (fun k a b => hxo k (by omega)) (fun k a b => hmo k (by omega))⟩
  obtain ⟨b1, b2, b3, b4, b5, b6⟩ := h2
  refine ⟨?_, by rw [hxo 8 (by omega), hmo 9 (by omega)]; exact b2, by rw [hxo 9 (by omega), hmo 10 (by omega)]; exact b3, by rw [hxo 6 (by omega), hmo 0 (by omega)]; exact b4, by rw [hxo 6 (by omega), hmo 0 (by omega)]; exact b5, by rw [hmo 0 (by omega)]; exact b6⟩
  rw [sI_row, sI_row]
  exact b1.up j hv
/-- who sits where: alike -/
theorem seatOf_eq {x m : St} {a : Int32} (h : ∀ k, k < 8 → x.1 7 k = m.1 8 k) : ∀ (d f k : Nat), k + d = 8 → d < f → ∃ r, f_X0_seatOf_l2 x a f (nI k) = some r ∧ f_X12_seatOf_l2 m a f (nI k) = some r ∧ (r = -1 ∨ ∃ i, i < 8 ∧ r = nI i) := by
  have e8 : (8 : Int32).toInt = 8 := rfl
  intro d
  induction d with
  | zero =>
    intro f k hk hf
    obtain ⟨f, rfl⟩ : ∃ g, f = g + 1 := ⟨f - 1, by omega⟩
    unfold f_X0_seatOf_l2 f_X12_seatOf_l2
    have : (8 : Int32) ≤ nI k := by rw [le_nI (by omega)]; omega
    rw [if_pos this, if_pos this]
    exact ⟨_, rfl, rfl, Or.inl rfl⟩
  | succ d ih =>
    intro f k hk hf
    obtain ⟨f, rfl⟩ : ∃ g, f = g + 1 := ⟨f - 1, by omega⟩
    unfold f_X0_seatOf_l2 f_X12_seatOf_l2
    have : ¬ (8 : Int32) ≤ nI k := by rw [le_nI (by omega)]; omega
    rw [if_neg this, if_neg this, gdN (by omega) (by omega), gdN (by omega) (by omega)]
    unfold nm
    rw [clampN (by omega), h k (by omega), nI_1]
    dsimp only
    by_cases e : m.1 8 k = a
    · rw [if_pos e, if_pos e]
      exact ⟨_, rfl, rfl, Or.inr ⟨k, by omega, rfl⟩⟩
    · rw [if_neg e, if_neg e]
      exact ih f (k + 1) (by omega) (by omega)
theorem seatOf_all {nr : Nat} {x m : St} (h : IBoat nr x m) (a : Int32) : ∃ r, f_X0_seatOf x a = some r ∧ f_X12_seatOf m a = some r ∧ (r = -1 ∨ ∃ i, i < 8 ∧ r = nI i) := seatOf_eq (fun k hk => (h.1 k hk).1) 8 FU 0 rfl (by decide)
/-- the same steps as rows that are not by definition (else the kernel runs off into the loops) -/
theorem nmE {α ρ : Type} (e : α) (K : α → Option ρ) : nm e K = K e := Eq.trans (Eq.refl _) (Eq.refl _)
theorem jnE {α ρ : Type} (J : α) (B : α → Option ρ) : jn J B = B J := Eq.trans (Eq.refl _) (Eq.refl _)
theorem bpE {α ρ : Type} (a : α) (K : α → Option ρ) : bp (some a) K = K a := Eq.trans (Eq.refl _) (Eq.refl _)
theorem bdE {α ρ : Type} (q : α) (u : St) (K : α → St → Option ρ) : bd (some (q, u)) K = K q u := Eq.trans (Eq.refl _) (Eq.refl _)
theorem bdvE {ρ : Type} (q : St) (K : St → Option ρ) : bdv (some q) K = K q := Eq.trans (Eq.refl _) (Eq.refl _)
