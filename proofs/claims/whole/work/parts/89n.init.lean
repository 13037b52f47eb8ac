/-! THE FIRST STATES -/
def xiF (M : St) : St := (fun k j => if k = 15 then (if j = 1 then 40 else 0) else if k = 16 then M.1 1 j else 0, fun _ _ => 0, fun _ _ => none, fun _ => 0)
theorem xiF_p (M : St) : (xiF M).1 15 1 = nI 40 ∧ ∀ j, (xiF M).1 16 j = M.1 1 j := ⟨rfl, fun _ => rfl⟩
theorem xi_run : (f_X9_findFault (xiF sm1)).map (fun r => (r.1, r.2.1 17 2, r.2.1 17 3, (List.range 6).map (r.2.1 18))) = some (-1, 6, 3, [10000, 10003, 20043, 10004, 2, 20042]) := by decide +kernel
theorem i_bytes : ∀ i, i < 40 → sm1.1 1 i = sm1.1 1 i &&& 255 := by decide +kernel
theorem i_crew : sx0.1 1 4 = nI 0 ∧ sm1.1 0 11 = nI 0 := by decide +kernel
theorem i_seats : ∀ k, k < 8 → sx0.1 7 k = sm1.1 8 k ∧ sm1.1 8 k = -1 := by decide +kernel
theorem i_sides : ∀ k, k < 8 → sx0.1 8 k = sm1.1 9 k ∧ (sm1.1 9 k = 0 ∨ sm1.1 9 k = 1) := by decide +kernel
theorem i_gears : ∀ k, k < 8 → sx0.1 9 k = sm1.1 10 k ∧ sm1.1 10 k = 4 := by decide +kernel
theorem i_water : sx0.1 6 3 = sm1.1 0 15 ∧ sm1.1 0 15 = 20 ∧ sx0.1 6 4 = sm1.1 0 16 ∧ sm1.1 0 16 = 0 := by decide +kernel
theorem i_kept : sm1.1 0 54 = 0 ∧ sx0.1 0 4 = -1 := by decide +kernel
theorem i_tape : sx0.1 15 1 = nI 0 ∧ sm1.1 0 6 = nI 0 := by decide +kernel
theorem i_text : sx0.1 0 9 = nI 1 ∧ sm1.1 0 3 = nI 1 ∧ sx0.1 0 10 = nI 0 ∧ sm1.1 0 4 = nI 0 ∧ sm1.1 2 0 = nI 40 ∧ sx0.1 66 1 = nI 3 := by decide +kernel
theorem i_steps : ∀ k, k < 6 → sx0.1 67 k = [10000, 10003, 20043, 10004, 2, 20042].getD k 0 := by decide +kernel
theorem i_rest : sx0.1 20 3 = nI 0 ∧ sm1.1 0 33 = nI 0 ∧ sx0.1 37 4 = nI 0 ∧ sm1.1 0 46 = nI 0 ∧ sx0.1 56 1 = nI 0 ∧ sm1.1 0 49 = nI 0 := by decide +kernel
theorem i_sheet : ∀ s, s < 4 → sm1.1 25 s = 0 ∧ sx0.1 59 s = -1 := by decide +kernel
theorem i_refs : sx0.2.2.2 67 = 6 ∧ sx0.2.2.1 19 0 = some 66 ∧ (∀ i, i < 6 → 1 ≤ i → sx0.2.2.1 19 i = none) ∧ sx0.2.2.1 31 2 = none := by decide +kernel
theorem pa_of {b S : Nat → Int32} {x : St} (h15 : x.1 15 1 = nI 40) (h16 : ∀ j, x.1 16 j = b j) (hb : ∀ i, i < 40 → b i = b i &&& 255) (hrun : (f_X9_findFault x).map (fun r => (r.1, r.2.1 17 2, r.2.1 17 3, (List.range 6).map (r.2.1 18))) = some (-1, 6, 3, [10000, 10003, 20043, 10004, 2, 20042])) (hS : ∀ k, k < 6 → S k = [10000, 10003, 20043, 10004, 2, 20042].getD k 0) : PAt (fun i => b (160 * 0 + i)) 40 S 6 (nI 3) := by
  obtain ⟨q, x', a1, a2, a3, a4⟩ := text_read (x := x) (B := fun i => b (160 * 0 + i)) (n := 40) (by omega) h15 (fun i hi => by
    rw [show 160 * 0 + i = i by omega, h16]
    exact hb i hi)
  rw [a1] at hrun
  simp only [Option.map_some, Option.some_inj, Prod.mk.injEq] at hrun
  obtain ⟨r1, r2, r3, r4⟩ := hrun
  rcases a4 with ⟨b1, L1, L2, b2, b3, b4, b5, b6⟩ | ⟨w, w1, w2, _⟩
  · have n1' : L1.length = 3 := by
      rw [r3] at b4
      exact (nI_inj (a := 3) (by omega) (by omega) b4).symm
    have n2' : L1.length + L2.length = 6 := by
      rw [r2] at b3
      exact (nI_inj (a := 6) (by omega) (by omega) b3).symm
    refine ⟨L1, L2, n2', by omega, by rw [n1'], fun k hk => ?_, b6.ok⟩
    have hs := b5 k (by simp; omega)
    rw [Nat.zero_add] at hs
    rw [← hs, hS k hk, ← r4]
    match k, hk with
    | 0, _ => rfl
    | 1, _ => rfl
    | 2, _ => rfl
    | 3, _ => rfl
    | 4, _ => rfl
    | 5, _ => rfl
  · rw [r1] at w2
    exact absurd w2 (n1 w (by omega))
theorem p_init : InvP PAt 68 sx0 sm1 := by
  obtain ⟨t1, t2, t3, t4, t5, t6⟩ := i_text
  obtain ⟨u1, u2, u3, u4, u5, u6⟩ := i_rest
  obtain ⟨w1, w2, w3, w4⟩ := i_water
  have c1 := i_crew
  have c2 := i_seats
  have c3 := i_sides
  have c4 := i_gears
  have c5 := i_kept
  have c6 := i_tape
  have c7 := i_sheet
  obtain ⟨v1, v2, v3, v4⟩ := i_refs
  have hpa := pa_of (xiF_p sm1).1 (xiF_p sm1).2 i_bytes xi_run i_steps
  generalize sx0 = X at *
  generalize sm1 = M at *
  refine ⟨0, 1, ⟨by omega, c1.1, c1.2, fun i hi => by omega⟩, ⟨fun k hk => ⟨(c2 k hk).1, Or.inl (c2 k hk).2⟩, fun k hk => c3 k hk, fun k hk => ⟨(c4 k hk).1, by rw [(c4 k hk).2]; exact ⟨by decide, by decide⟩⟩, ⟨w1, by rw [w2]; exact ⟨by decide, by decide⟩⟩, w3, by rw [w4]; exact ⟨by decide, by decide⟩⟩, Or.inl c5, ⟨0, by omega, c6.1, c6.2, fun i hi => by omega⟩, ⟨by omega, by omega, by omega, t1, t2, ⟨0, by omega, t3, t4⟩, fun j hj => ?_, fun i i1 i2 => v3 i i2 i1, Or.inl v4⟩, ⟨0, by omega, u1, u2, fun p hp => by omega⟩, ⟨0, by omega, u3, u4, fun i hi => by omega⟩, ⟨0, by omega, u5, u6, fun i hi => by omega⟩, fun s hs => Or.inl (c7 s hs)⟩
  have : j = 0 := by omega
  subst this
  refine ⟨v2, 40, by omega, t5, ?_⟩
  rw [show 67 + 2 * 0 = 67 by omega, show 66 + 2 * 0 = 66 by omega, v1, t6]
  exact hpa
