/-! each part of the invariant rests on these places alone -/
theorem ICrew.cg {nr : Nat} {x m x' m' : St} (h : ICrew nr x m) (hx : ∀ k, 1 ≤ k → k ≤ 5 → x'.1 k = x.1 k) (m0 : m'.1 0 11 = m.1 0 11) (hm : ∀ k, 4 ≤ k → k ≤ 7 → m'.1 k = m.1 k) : ICrew nr x' m' := by
  unfold ICrew at h ⊢
  rw [hx 1 (by decide) (by decide), hx 2 (by decide) (by decide), hx 3 (by decide) (by decide), hx 4 (by decide) (by decide), hx 5 (by decide) (by decide), m0, hm 4 (by decide) (by decide), hm 5 (by decide) (by decide), hm 6 (by decide) (by decide), hm 7 (by decide) (by decide)]
  exact h
theorem IBoat.cg {nr : Nat} {x m x' m' : St} (h : IBoat nr x m) (hx : ∀ k, 6 ≤ k → k ≤ 9 → x'.1 k = x.1 k) (m1 : m'.1 0 15 = m.1 0 15) (m2 : m'.1 0 16 = m.1 0 16) (hm : ∀ k, 8 ≤ k → k ≤ 10 → m'.1 k = m.1 k) : IBoat nr x' m' := by
  unfold IBoat at h ⊢
  rw [hx 6 (by decide) (by decide), hx 7 (by decide) (by decide), hx 8 (by decide) (by decide), hx 9 (by decide) (by decide), m1, m2, hm 8 (by decide) (by decide), hm 9 (by decide) (by decide), hm 10 (by decide) (by decide)]
  exact h
theorem IKept.cg {nr tc : Nat} {x m x' m' : St} (h : IKept nr tc x m) (x1 : x'.1 0 4 = x.1 0 4) (x2 : x'.1 0 5 = x.1 0 5) (hx : ∀ k, 10 ≤ k → k ≤ 14 → x'.1 k = x.1 k) (m0 : ∀ j, 54 ≤ j → j ≤ 58 → m'.1 0 j = m.1 0 j) (hm : ∀ k, 21 ≤ k → k ≤ 24 → m'.1 k = m.1 k) : IKept nr tc x' m' := by
  unfold IKept at h ⊢
  rw [x1, x2, hx 10 (by decide) (by decide), hx 11 (by decide) (by decide), hx 12 (by decide) (by decide), hx 13 (by decide) (by decide), hx 14 (by decide) (by decide), m0 54 (by decide) (by decide), m0 55 (by decide) (by decide), m0 56 (by decide) (by decide), m0 57 (by decide) (by decide), m0 58 (by decide) (by decide), hm 21 (by decide) (by decide), hm 22 (by decide) (by decide), hm 23 (by decide) (by decide), hm 24 (by decide) (by decide)]
  exact h
theorem ITape.cg {x m x' m' : St} (h : ITape x m) (hx : x'.1 15 = x.1 15) (hx2 : x'.1 16 = x.1 16) (m0 : m'.1 0 6 = m.1 0 6) (hm : m'.1 3 = m.1 3) : ITape x' m' := by
  unfold ITape at h ⊢
  rw [hx, hx2, m0, hm]
  exact h
theorem IText.cg {PA : (Nat → Int32) → Nat → (Nat → Int32) → Nat → Int32 → Prop} {nc tc : Nat} {x m x' m' : St} (h : IText PA nc tc x m) (x1 : x'.1 0 9 = x.1 0 9) (x2 : x'.1 0 10 = x.1 0 10) (hx : ∀ k, 66 ≤ k → x'.1 k = x.1 k) (hr : x'.2.2.1 19 = x.2.2.1 19) (hr2 : x'.2.2.1 31 2 = x.2.2.1 31 2) (hl : x'.2.2.2 = x.2.2.2) (m1 : m'.1 0 3 = m.1 0 3) (m2 : m'.1 0 4 = m.1 0 4) (hm1 : m'.1 1 = m.1 1) (hm2 : m'.1 2 = m.1 2) : IText PA nc tc x' m' := by
  obtain ⟨a1, a2, a3, a4, a5, a6, a7, a8, a9⟩ := h
  refine ⟨a1, a2, a3, by rw [x1]; exact a4, by rw [m1]; exact a5, by rw [x2, m2]; exact a6, fun j hj => ?_, by rw [hr]; exact a8, by rw [hr2]; exact a9⟩
  obtain ⟨b1, n, b2, b3, b4⟩ := a7 j hj
  exact ⟨by rw [hr]; exact b1, n, b2, by rw [hm2]; exact b3, by rw [hm1, hx _ (by omega), hx _ (by omega), hl]; exact b4⟩
theorem IPlan.cg {x m x' m' : St} (h : IPlan x m) (hx : ∀ k, 20 ≤ k → k ≤ 30 → x'.1 k = x.1 k) (m0 : m'.1 0 33 = m.1 0 33) (hm1 : m'.1 11 = m.1 11) (hm2 : m'.1 12 = m.1 12) : IPlan x' m' := by
  obtain ⟨np, a1, a2, a3, a4⟩ := h
  refine ⟨np, a1, by rw [hx 20 (by decide) (by decide)]; exact a2, by rw [m0]; exact a3, fun p hp => ?_⟩
  rw [hx 22 (by decide) (by decide), hm1, hm2, hx (23 + p) (by omega) (by omega)]
  exact a4 p hp
theorem ITrial.cg {nr : Nat} {x m x' m' : St} (h : ITrial nr x m) (x1 : x'.1 37 4 = x.1 37 4) (hx : ∀ k, 38 ≤ k → k ≤ 41 → x'.1 k = x.1 k) (m0 : m'.1 0 46 = m.1 0 46) (hm : ∀ k, 15 ≤ k → k ≤ 18 → m'.1 k = m.1 k) : ITrial nr x' m' := by
  unfold ITrial at h ⊢
  rw [x1, hx 38 (by decide) (by decide), hx 39 (by decide) (by decide), hx 40 (by decide) (by decide), hx 41 (by decide) (by decide), m0, hm 15 (by decide) (by decide), hm 16 (by decide) (by decide), hm 17 (by decide) (by decide), hm 18 (by decide) (by decide)]
  exact h
theorem IRace.cg {x m x' m' : St} (h : IRace x m) (hx : x'.1 56 = x.1 56) (hx2 : x'.1 57 = x.1 57) (m0 : m'.1 0 49 = m.1 0 49) (hm : m'.1 20 = m.1 20) : IRace x' m' := by
  unfold IRace at h ⊢
  rw [hx, hx2, m0, hm]
  exact h
theorem ISheet.cg {x m x' m' : St} (h : ISheet x m) (hx : ∀ k, 59 ≤ k → k ≤ 65 → x'.1 k = x.1 k) (hm : ∀ k, 25 ≤ k → k ≤ 28 → m'.1 k = m.1 k) : ISheet x' m' := by
  intro s hs
  rw [hm 25 (by decide) (by decide), hm 26 (by decide) (by decide), hm 27 (by decide) (by decide), hm 28 (by decide) (by decide), hx 59 (by decide) (by decide), hx 60 (by decide) (by decide), hx (62 + s) (by omega) (by omega)]
  exact h s hs
theorem sI_rne (σ : St) (k j : Nat) (v : Int32) (j' : Nat) (h : j' ≠ j) : (sI σ k j v).1 k j' = σ.1 k j' := by
  rw [sI_rd, if_neg (by omega)]
