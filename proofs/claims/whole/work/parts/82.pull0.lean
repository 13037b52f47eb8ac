theorem moE {ρ : Type} (c : Nat) (P : Option ρ) (K : Nat → Option ρ) : mo (some c) P K = K c := Eq.trans (Eq.refl _) (Eq.refl _)
theorem jnI {α ρ : Type} (J : α → Option ρ) (c : Prop) [Decidable c] (a b : α) : jn J (fun j => if c then j a else j b) = J (if c then a else b) := by
  rw [jnE]; by_cases h : c
  · rw [if_pos h, if_pos h]
  · rw [if_neg h, if_neg h]
theorem sI_2 (σ : St) (k j : Nat) (v : Int32) : (sI σ k j v).2 = σ.2 := Eq.trans (Eq.refl _) (Eq.refl _)
theorem sL_1 (σ : St) (k j : Nat) (v : Int64) : (sL σ k j v).1 = σ.1 := Eq.trans (Eq.refl _) (Eq.refl _)
theorem sL_22 (σ : St) (k j : Nat) (v : Int64) : (sL σ k j v).2.2 = σ.2.2 := Eq.trans (Eq.refl _) (Eq.refl _)
theorem sL_rd (σ : St) (k j : Nat) (v : Int64) (k' j' : Nat) : (sL σ k j v).2.1 k' j' = if k' = k ∧ j' = j then v else σ.2.1 k' j' := by
  unfold sL va_up vp_updL
  by_cases h1 : k' = k
  · subst h1
    by_cases h2 : j' = j <;> simp [h2]
  · simp [h1]
theorem sL_ro (σ : St) (k j : Nat) (v : Int64) (k' : Nat) (h : k' ≠ k) : (sL σ k j v).2.1 k' = σ.2.1 k' := by
  unfold sL va_up; simp [h]
theorem sL_rne (σ : St) (k j : Nat) (v : Int64) (j' : Nat) (h : j' ≠ j) : (sL σ k j v).2.1 k j' = σ.2.1 k j' := by
  rw [sL_rd, if_neg (by omega)]
/-- clamped: the class's way and the model's -/
theorem clamp_eq {t N : Int32} (hN : 0 < N.toInt) : f_X12_within t 0 N = some (if 0 < (if t < N then t else N) then (if t < N then t else N) else 0) := by
  unfold f_X12_within
  have e0 : (0 : Int32).toInt = 0 := rfl
  by_cases h1 : 0 ≤ t
  · by_cases h2 : t ≤ N
    · rw [if_pos h1, if_pos h2, Option.some_inj]
      rw [le32] at h1 h2
      by_cases h3 : t < N
      · rw [if_pos h3]
        by_cases h4 : 0 < t
        · rw [if_pos h4]
        · rw [if_neg h4, eq32]; rw [lt32] at h4; omega
      · rw [if_neg h3, if_pos (by rw [lt32]; omega), eq32]; rw [lt32] at h3; omega
    · rw [if_pos h1, if_neg h2, Option.some_inj]
      rw [le32] at h1 h2
      have h3 : ¬ t < N := by rw [lt32]; omega
      have h4 : 0 < N := by rw [lt32]; omega
      rw [if_neg h3, if_pos h4]
  · rw [if_neg h1, Option.some_inj]
    rw [le32] at h1
    have h3 : t < N := by rw [lt32]; omega
    have h4 : ¬ 0 < t := by rw [lt32]; omega
    rw [if_pos h3, if_neg h4]
theorem clamp_rng {t N : Int32} (hN : 0 < N.toInt) : 0 ≤ (if 0 < (if t < N then t else N) then (if t < N then t else N) else (0 : Int32)).toInt ∧ (if 0 < (if t < N then t else N) then (if t < N then t else N) else (0 : Int32)).toInt ≤ N.toInt := by
  have e0 : (0 : Int32).toInt = 0 := rfl
  by_cases h3 : t < N
  · rw [if_pos h3]
    rw [lt32] at h3
    by_cases h4 : 0 < t
    · rw [if_pos h4]; rw [lt32] at h4; omega
    · rw [if_neg h4]; omega
  · rw [if_neg h3]
    by_cases h4 : 0 < N
    · rw [if_pos h4]; rw [lt32] at h4; omega
    · rw [if_neg h4]; omega
theorem half_rng {g : Int32} (h0 : 0 ≤ g.toInt) (h1 : g.toInt ≤ 999) : 0 ≤ (g / 2).toInt ∧ (g / 2).toInt ≤ 999 := by
  have e2 : (2 : Int32).toInt = 2 := rfl
  rw [div32 (by omega) (by omega), e2, Int.tdiv_eq_ediv_of_nonneg h0]
  omega
theorem pull_rng {κ g s pu : Int32} (h0 : 0 ≤ g.toInt) (h1 : g.toInt ≤ 999) (h : f_X12_pullOf κ g s = some pu) : 0 ≤ pu.toInt ∧ pu.toInt ≤ 1248 := by
  have e2 : (2 : Int32).toInt = 2 := rfl
  have e3 : (3 : Int32).toInt = 3 := rfl
  have e4 : (4 : Int32).toInt = 4 := rfl
  have e0 : (0 : Int32).toInt = 0 := rfl
  have hh := half_rng h0 h1
  have m2 : (2 * g).toInt = 2 * g.toInt := by rw [mul32 (by rw [e2]; omega), e2]
  have d3 : (2 * g / 3).toInt = 2 * g.toInt / 3 := by rw [div32 (by omega) (by omega), m2, e3, Int.tdiv_eq_ediv_of_nonneg (by omega)]
  have d4 : (g / 4).toInt = g.toInt / 4 := by rw [div32 (by omega) (by omega), e4, Int.tdiv_eq_ediv_of_nonneg (by omega)]
  have d6 : (2 * g / 3 / 2).toInt = 2 * g.toInt / 3 / 2 := by rw [div32 (by omega) (by omega), d3, e2, Int.tdiv_eq_ediv_of_nonneg (by omega)]
  have a4 : (g + g / 4).toInt = g.toInt + g.toInt / 4 := by rw [add32 (by omega), d4]
  unfold f_X12_pullOf at h
  rw [jnI] at h
  have hl : 0 ≤ (if s = 0 then g / 2 else g).toInt ∧ (if s = 0 then g / 2 else g).toInt ≤ 999 := by
    by_cases c : s = 0
    · rw [if_pos c]; exact hh
    · rw [if_neg c]; exact ⟨h0, h1⟩
  generalize (if s = 0 then g / 2 else g) = t at h hl
  have s3 : ¬ t ≤ 3 → (t - 3).toInt = t.toInt - 3 := fun c => by rw [sub32 (by omega), e3]
  by_cases c1 : κ = 1
  · rw [if_pos c1, Option.some_inj] at h; rw [← h, d3]; omega
  · rw [if_neg c1] at h
    by_cases c2 : κ = 2
    · rw [if_pos c2, Option.some_inj] at h; rw [← h, a4]; omega
    · rw [if_neg c2] at h
      by_cases c3 : κ = 3
      · rw [if_pos c3, Option.some_inj] at h; rw [← h]; omega
      · rw [if_neg c3] at h
        by_cases c4 : κ = 4
        · rw [if_pos c4] at h
          by_cases c5 : t ≤ 3
          · rw [if_pos c5, Option.some_inj] at h; rw [← h]; omega
          · rw [if_neg c5, Option.some_inj] at h; rw [← h, s3 c5]; rw [le32] at c5; omega
        · rw [if_neg c4] at h
          by_cases c5 : κ = 5
          · rw [if_pos c5, Option.some_inj] at h; rw [← h, d6]; omega
          · rw [if_neg c5, Option.some_inj] at h; rw [← h]; omega
theorem cost_rng {κ g co : Int32} (h0 : 0 ≤ g.toInt) (h1 : g.toInt ≤ 999) (h : f_X12_costOf κ g = some co) : 0 ≤ co.toInt ∧ co.toInt ≤ 2000 := by
  have e2 : (2 : Int32).toInt = 2 := rfl
  have e3 : (3 : Int32).toInt = 3 := rfl
  have e5 : (5 : Int32).toInt = 5 := rfl
  have m2 : (2 * g).toInt = 2 * g.toInt := by rw [mul32 (by rw [e2]; omega), e2]
  have a5 : (g + 5).toInt = g.toInt + 5 := by rw [add32 (by omega), e5]
  have a2 : (g + 2).toInt = g.toInt + 2 := by rw [add32 (by omega), e2]
  have d3 : ((g + 5) / 3).toInt = (g.toInt + 5) / 3 := by rw [div32 (by omega) (by omega), a5, e3, Int.tdiv_eq_ediv_of_nonneg (by omega)]
  unfold f_X12_costOf at h
  by_cases c1 : κ = 1
  · rw [if_pos c1, Option.some_inj] at h; rw [← h, a5]; omega
  · rw [if_neg c1] at h
    by_cases c2 : κ = 2
    · rw [if_pos c2, Option.some_inj] at h; rw [← h, m2]; omega
    · rw [if_neg c2] at h
      by_cases c3 : κ = 3
      · rw [if_pos c3, Option.some_inj] at h; rw [← h]; omega
      · rw [if_neg c3] at h
        by_cases c4 : κ = 4
        · rw [if_pos c4, Option.some_inj] at h; rw [← h, a2]; omega
        · rw [if_neg c4] at h
          by_cases c5 : κ = 5
          · rw [if_pos c5, Option.some_inj] at h; rw [← h, d3]; omega
          · rw [if_neg c5, Option.some_inj] at h; rw [← h]; omega
theorem slips_rng {κ sl : Int32} (h : f_X12_slipsOf κ = some sl) : 0 ≤ sl.toInt ∧ sl.toInt ≤ 5 := by
  unfold f_X12_slipsOf at h
  by_cases c1 : κ = 2
  · rw [if_pos c1, Option.some_inj] at h; rw [← h]; decide
  · rw [if_neg c1] at h
    by_cases c2 : κ = 3
    · rw [if_pos c2, Option.some_inj] at h; rw [← h]; decide
    · rw [if_neg c2] at h
      by_cases c3 : κ = 4
      · rw [if_pos c3, Option.some_inj] at h; rw [← h]; decide
      · rw [if_neg c3, Option.some_inj] at h; rw [← h]; decide
theorem wAcc_rng {nr : Nat} {s w : Nat → Int32} (hn : nr ≤ 16) : ∀ k, k ≤ 8 → (∀ i, i < k → s i = -1 ∨ ∃ j, j < nr ∧ s i = nI j) → (∀ j, j < nr → rng (w j) 40 120) → 0 ≤ (wAcc s w k).toInt ∧ (wAcc s w k).toInt ≤ 120 * k := by
  have e0 : (0 : Int32).toInt = 0 := rfl
  intro k
  induction k with
  | zero => intro _ _ _; exact ⟨by simp [wAcc], by simp [wAcc]⟩
  | succ k ih =>
    intro hk hs hw
    obtain ⟨i1, i2⟩ := ih (by omega) (fun i hi => hs i (by omega)) hw
    unfold wAcc
    rcases hs k (by omega) with e | ⟨j, hj, e⟩
    · rw [if_pos e, Int32.add_zero]; exact ⟨i1, by omega⟩
    · have := hw j hj
      unfold rng at this
      rw [if_neg (by rw [e]; exact nI_nem (by omega)), e, clampN (by omega), add32 (by omega)]
      omega
/-- the stores behind a stroke -/
theorem store_eq {st co fi : Int32} (h1 : rng st 0 9999) (h2 : 0 ≤ co.toInt ∧ co.toInt ≤ 2000) (h3 : rng fi 0 99) : ∃ w, f_X12_within (st - co) 0 9999 = some w ∧ ∃ r, f_X12_within (w + fi) 0 9999 = some r ∧ rng r 0 9999 ∧ r = (if (if 0 < st - co then st - co else 0) + fi < 9999 then (if 0 < st - co then st - co else 0) + fi else 9999) := by
  have e0 : (0 : Int32).toInt = 0 := rfl
  have e9 : (9999 : Int32).toInt = 9999 := rfl
  unfold rng at *
  have hs : (st - co).toInt = st.toInt - co.toInt := sub32 (by omega)
  refine ⟨_, clamp_eq (by decide), ?_⟩
  have hw : (if 0 < (if st - co < 9999 then st - co else 9999) then (if st - co < 9999 then st - co else 9999) else (0 : Int32)) = (if 0 < st - co then st - co else 0) := by
    by_cases c : st - co < 9999
    · rw [if_pos c]
    · have hc : st - co = 9999 := by rw [lt32] at c; rw [eq32]; omega
      rw [if_neg c, hc]
  rw [hw]
  have hr : 0 ≤ (if 0 < st - co then st - co else (0 : Int32)).toInt ∧ (if 0 < st - co then st - co else (0 : Int32)).toInt ≤ 9999 := by
    by_cases c : 0 < st - co
    · rw [if_pos c]; rw [lt32] at c; omega
    · rw [if_neg c]; omega
  generalize (if 0 < st - co then st - co else (0 : Int32)) = w at hr
  have ha : (w + fi).toInt = w.toInt + fi.toInt := add32 (by omega)
  refine ⟨_, clamp_eq (by decide), clamp_rng (by decide), ?_⟩
  by_cases c : w + fi < 9999
  · rw [if_pos c]
    by_cases c2 : 0 < w + fi
    · rw [if_pos c2]
    · rw [if_neg c2, eq32]; rw [lt32] at c2; omega
  · rw [if_neg c, if_pos (by decide)]
def tS (s dr : Nat → Int32) : Nat → Int
  | 0 => 0
  | k + 1 => tS s dr k + (if s k = 0 then (dr k).toInt * ((k : Int) + 1) else - ((dr k).toInt * ((k : Int) + 1)))
theorem tS_cg {s s' dr dr' : Nat → Int32} : ∀ k, (∀ q, q < k → s q = s' q ∧ dr q = dr' q) → tS s dr k = tS s' dr' k := by
  intro k
  induction k with
  | zero => intro _; rfl
  | succ k ih =>
    intro h
    unfold tS
    rw [ih (fun q hq => h q (by omega)), (h k (by omega)).1, (h k (by omega)).2]
theorem mom_rng {d : Int} {k : Nat} (h0 : 0 ≤ d) (h1 : d ≤ 2808) (hk : k < 8) : 0 ≤ d * ((k : Int) + 1) ∧ d * ((k : Int) + 1) ≤ 22464 := by
  constructor
  · exact Int.mul_nonneg h0 (by omega)
  · have : d * ((k : Int) + 1) ≤ 2808 * 8 := Int.mul_le_mul h1 (by omega) (by omega) (by omega)
    omega
theorem tS_rng {s dr : Nat → Int32} : ∀ k, k ≤ 8 → (∀ q, q < k → rng (dr q) 0 2808) → -(22464 * (k : Int)) ≤ tS s dr k ∧ tS s dr k ≤ 22464 * k := by
  intro k
  induction k with
  | zero => intro _ _; simp [tS]
  | succ k ih =>
    intro hk h
    obtain ⟨i1, i2⟩ := ih (by omega) (fun q hq => h q (by omega))
    obtain ⟨m1, m2⟩ := mom_rng (h k (by omega)).1 (h k (by omega)).2 (show k < 8 by omega)
    unfold tS
    by_cases c : s k = 0
    · rw [if_pos c]; constructor <;> omega
    · rw [if_neg c]; constructor <;> omega
