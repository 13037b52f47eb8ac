theorem seatsOk.mono {n n' : Nat} {f g : Nat → Int32} (h : seatsOk n f g) (hn : n ≤ n') : seatsOk n' f g := fun k hk => ⟨(h k hk).1, (h k hk).2.imp id (fun ⟨i, hi, e⟩ => ⟨i, by omega, e⟩)⟩
theorem IBoat.mono {n n' : Nat} {x m : St} (h : IBoat n x m) (hn : n ≤ n') : IBoat n' x m := ⟨h.1.mono hn, h.2⟩
theorem IKept.mono {n n' tc : Nat} {x m : St} (h : IKept n tc x m) (hn : n ≤ n') : IKept n' tc x m := h.imp id (fun ⟨a, kr, b, c⟩ => ⟨a, kr, by omega, c⟩)
theorem ITrial.mono {n n' : Nat} {x m : St} (h : ITrial n x m) (hn : n ≤ n') : ITrial n' x m := by
  obtain ⟨q, h1, h2, h3, h4⟩ := h
  refine ⟨q, h1, h2, h3, fun i hi => ?_⟩
  obtain ⟨a, ⟨b, b1, b2⟩, ⟨c, c1, c2⟩, d⟩ := h4 i hi
  exact ⟨a, ⟨b, by omega, b2⟩, ⟨c, by omega, c2⟩, d⟩
/-- the same write of a number at a new place of two rows -/
theorem row_new {f g : Nat → Int32} {n i : Nat} {v : Int32} (h : i < n → f i = g i) (hi : i < n + 1) : (if i = n then v else f i) = (if i = n then v else g i) := by
  by_cases e : i = n
  · rw [if_pos e, if_pos e]
  · rw [if_neg e, if_neg e]; exact h (by omega)
