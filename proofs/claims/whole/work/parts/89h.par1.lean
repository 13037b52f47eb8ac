section PAR1
variable {B : Nat → Int32} {n : Nat}
theorem gd01 {ρ : Type} {v : Int32} (h : v = 0 ∨ v = 1) (P : Option ρ) : gd (v = 0 ∨ v = 1) P = P := gd_pos h P
theorem g00 {ρ : Type} (P : Option ρ) : gd ((0 : Int32) = 0 ∨ (0 : Int32) = 1) P = P := gd_pos (Or.inl rfl) P
theorem g11 {ρ : Type} (P : Option ρ) : gd ((1 : Int32) = 0 ∨ (1 : Int32) = 1) P = P := gd_pos (Or.inr rfl) P
theorem lt160 {i : Nat} (h : i < 160) : ¬ (160 : Int32) ≤ nI i := by rw [le_nI (by omega), show (160 : Int32).toInt = 160 from rfl]; omega
def LSt (B : Nat → Int32) (n d t : Nat) : Prop := ∀ p o x sz, RX B n x p sz → sz ≤ p → o ≤ 5 → t + 6 * (5 - o) + 1 ≤ d → LSc B n (f_GT d t x (nI o)) (f_GM d t) x p o sz
theorem ls_term {d : Nat} (hn : n ≤ 160) (hB : ∀ i, i < n → ∃ c, c < 256 ∧ B i = nI c) (h0 : LSt B n d 0) : LSt B n (d + 1) 1 := by
  intro p o x sz hX hsz ho hd
  have e1 : f_GT (d + 1) 1 x (nI o) = bd (f_GT d 0 x (nI o)) (fun v1 σ2 => f_X9_readTerm_l8 (f_GT d) (nI o) FU v1 0 σ2) := rfl
  have e2 : f_GM (d + 1) 1 = fun m => bd (f_GM d 0 m) (fun v1 σ2 => f_X12_term_l5 (f_GM d) FU v1 σ2) := rfl
  rw [e1, e2]
  refine seq_gen (op := fun c => c = 20042) hn hB (fun c hc => by rw [hc]; unfold opc; decide) (fun p x sz a b => h0 p o x sz a b ho (by omega)) (fun f i x hi => ?_) (fun f i x hi hc => ?_) (fun f i x c hi hc hx => ?_) (fun f v m hb => ?_) (fun f v m c hb ht hc => ?_) (fun f v m c hb ht hc => ?_) hX hsz
  · rw [f_X9_readTerm_l8, if_neg (lt160 hi), if_pos rfl, g00]
  · rw [f_X9_readTerm_l8, if_neg (lt160 hi), if_neg ne10, nmE, if_neg hc, g11]
  · rw [f_X9_readTerm_l8, if_neg (lt160 hi), if_neg ne10, nmE, hx, if_pos hc, hc, nI_1]
  · rw [f_X12_term_l5, isSignB _ hb, bpE, if_pos rfl]
  · rw [f_X12_term_l5, isSignE (S := 42) (C := 20042) (s := 42) rfl rfl (by omega) hb ht, bpE, if_neg hc, if_pos rfl]
  · rw [f_X12_term_l5, isSignE (S := 42) (C := 20042) (s := 42) rfl rfl (by omega) hb ht, bpE, if_pos hc, if_neg ne10, hc]
    simp only [nmE]
    rfl
theorem ls_sum {d : Nat} (hn : n ≤ 160) (hB : ∀ i, i < n → ∃ c, c < 256 ∧ B i = nI c) (h0 : LSt B n d 1) : LSt B n (d + 1) 2 := by
  intro p o x sz hX hsz ho hd
  have e1 : f_GT (d + 1) 2 x (nI o) = bd (f_GT d 1 x (nI o)) (fun v1 σ2 => f_X9_readSum_l8 (f_GT d) (nI o) FU v1 0 σ2) := rfl
  have e2 : f_GM (d + 1) 2 = fun m => bd (f_GM d 1 m) (fun v1 σ2 => f_X12_added_l5 (f_GM d) FU v1 σ2) := rfl
  rw [e1, e2]
  refine seq_gen (op := fun c => c = 20043 ∨ c = 20045) hn hB (fun c hc => by rcases hc with rfl | rfl <;> (unfold opc; decide)) (fun p x sz a b => h0 p o x sz a b ho (by omega)) (fun f i x hi => ?_) (fun f i x hi hc => ?_) (fun f i x c hi hc hx => ?_) (fun f v m hb => ?_) (fun f v m c hb ht hc => ?_) (fun f v m c hb ht hc => ?_) hX hsz
  · rw [f_X9_readSum_l8, if_neg (lt160 hi), if_pos rfl, g00]
  · rw [f_X9_readSum_l8, if_neg (lt160 hi), if_neg ne10, nmE, jnE, if_neg (fun q => hc (Or.inl q)), nmE, if_neg (fun q => hc (Or.inr q)), g11]
  · rw [f_X9_readSum_l8, if_neg (lt160 hi), if_neg ne10, nmE, jnE, nmE, hx, nI_1]
    rcases hc with hc | hc
    · rw [if_pos hc]
    · have h3 : ¬ c = 20043 := by rw [hc]; decide
      rw [if_neg h3, nmE, if_pos hc]
  · rw [f_X12_added_l5, isSignB _ hb, bpE, jnE, if_pos rfl, isSignB _ hb, bpE, if_pos rfl]
  · rw [f_X12_added_l5, isSignE (S := 43) (C := 20043) (s := 43) rfl rfl (by omega) hb ht, bpE, jnE, if_neg (fun q => hc (Or.inl q)), if_pos rfl, isSignE (S := 45) (C := 20045) (s := 45) rfl rfl (by omega) hb ht, bpE, if_neg (fun q => hc (Or.inr q)), if_pos rfl]
  · rcases hc with rfl | rfl
    · have hw : m.2.1 0 21 = 43 := by
        rcases ht with ⟨k, e⟩ | ⟨k, _, e⟩ | ⟨k, w, hw, e, _⟩ | ⟨k, s, t1, t2, e, w⟩ | ⟨k, e⟩
        · exact absurd e (by decide)
        · rcases e with e | ⟨i, hi, e⟩
          · exact absurd e (by decide)
          · have := nI_inj (a := 20043) (by omega) (by omega) e; omega
        · have := nI_inj (a := 20043) (by omega) (by omega) e; omega
        · have := nI_inj (a := 20043) (by omega) (by omega) e
          rw [w, show s = 43 by omega]; rfl
        · exact absurd e (by decide)
      rw [f_X12_added_l5, isSignE (S := 43) (C := 20043) (s := 43) rfl rfl (by omega) hb ht, bpE, jnE, if_pos rfl, if_neg ne10, nmE, hw, jnI, if_pos rfl]
      simp only [jnE, if_neg ne10]
      rfl
    · have hw : m.2.1 0 21 = 45 := by
        rcases ht with ⟨k, e⟩ | ⟨k, _, e⟩ | ⟨k, w, hw, e, _⟩ | ⟨k, s, t1, t2, e, w⟩ | ⟨k, e⟩
        · exact absurd e (by decide)
        · rcases e with e | ⟨i, hi, e⟩
          · exact absurd e (by decide)
          · have := nI_inj (a := 20045) (by omega) (by omega) e; omega
        · have := nI_inj (a := 20045) (by omega) (by omega) e; omega
        · have := nI_inj (a := 20045) (by omega) (by omega) e
          rw [w, show s = 45 by omega]; rfl
        · exact absurd e (by decide)
      rw [f_X12_added_l5, isSignE (S := 43) (C := 20043) (s := 43) rfl rfl (by omega) hb ht, bpE, jnE, if_neg (show ¬ (20045 : Int32) = 20043 by decide), if_pos rfl, isSignE (S := 45) (C := 20045) (s := 45) rfl rfl (by omega) hb ht, bpE, if_pos rfl, if_neg ne10, nmE, hw, jnI, if_neg (by decide)]
      simp only [jnE, if_true]
      rfl
theorem ls_both {d : Nat} (hn : n ≤ 160) (hB : ∀ i, i < n → ∃ c, c < 256 ∧ B i = nI c) (h0 : LSt B n d 3) : LSt B n (d + 1) 4 := by
  intro p o x sz hX hsz ho hd
  have e1 : f_GT (d + 1) 4 x (nI o) = bd (f_GT d 3 x (nI o)) (fun v1 σ2 => f_X9_readBoth_l8 (f_GT d) (nI o) FU v1 0 σ2) := rfl
  have e2 : f_GM (d + 1) 4 = fun m => bd (f_GM d 3 m) (fun v1 σ2 => f_X12_both_l5 (f_GM d) FU v1 σ2) := rfl
  rw [e1, e2]
  refine seq_gen (op := fun c => c = 10009) hn hB (fun c hc => by rw [hc]; unfold opc; decide) (fun p x sz a b => h0 p o x sz a b ho (by omega)) (fun f i x hi => ?_) (fun f i x hi hc => ?_) (fun f i x c hi hc hx => ?_) (fun f v m hb => ?_) (fun f v m c hb ht hc => ?_) (fun f v m c hb ht hc => ?_) hX hsz
  · rw [f_X9_readBoth_l8, if_neg (lt160 hi), if_pos rfl, g00]
  · rw [f_X9_readBoth_l8, if_neg (lt160 hi), if_neg ne10, nmE, if_neg hc, g11]
  · rw [f_X9_readBoth_l8, if_neg (lt160 hi), if_neg ne10, nmE, hx, if_pos hc, hc, nI_1]
  · rw [f_X12_both_l5, isWordB _ hb, bpE, if_pos rfl]
  · rw [f_X12_both_l5, isWordE (W := 1111) (C := 10009) (i := 9) (by omega) rfl rfl hb ht, bpE, if_neg hc, if_pos rfl]
  · rw [f_X12_both_l5, isWordE (W := 1111) (C := 10009) (i := 9) (by omega) rfl rfl hb ht, bpE, if_pos hc, if_neg ne10, hc]
    have hj : ∀ w z, (jn (fun (t10 : Int32) => f_X12_both_l5 (f_GM d) f t10 z) (fun (j11 : Int32 → Option (Int32 × St)) => jn (j11 0) (fun (j12 : Option (Int32 × St)) => (if v = 0 then j12 else (if w = 0 then j12 else j11 1))))) = f_X12_both_l5 (f_GM d) f (jv 10009 v w) z := fun w z => by
      rw [jnE, jnE]
      unfold jv
      rw [if_pos rfl]
      by_cases a : v = 0
      · rw [if_pos a, if_pos a]
      · rw [if_neg a, if_neg a]
        by_cases b : w = 0
        · rw [if_pos b, if_pos b]
        · rw [if_neg b, if_neg b]
    simp only [hj]
theorem ls_either {d : Nat} (hn : n ≤ 160) (hB : ∀ i, i < n → ∃ c, c < 256 ∧ B i = nI c) (h0 : LSt B n d 4) : LSt B n (d + 1) 5 := by
  intro p o x sz hX hsz ho hd
  have e1 : f_GT (d + 1) 5 x (nI o) = bd (f_GT d 4 x (nI o)) (fun v1 σ2 => f_X9_readEither_l8 (f_GT d) (nI o) FU v1 0 σ2) := rfl
  have e2 : f_GM (d + 1) 5 = fun m => bd (f_GM d 4 m) (fun v1 σ2 => f_X12_either_l5 (f_GM d) FU v1 σ2) := rfl
  rw [e1, e2]
  refine seq_gen (op := fun c => c = 10008) hn hB (fun c hc => by rw [hc]; unfold opc; decide) (fun p x sz a b => h0 p o x sz a b ho (by omega)) (fun f i x hi => ?_) (fun f i x hi hc => ?_) (fun f i x c hi hc hx => ?_) (fun f v m hb => ?_) (fun f v m c hb ht hc => ?_) (fun f v m c hb ht hc => ?_) hX hsz
  · rw [f_X9_readEither_l8, if_neg (lt160 hi), if_pos rfl, g00]
  · rw [f_X9_readEither_l8, if_neg (lt160 hi), if_neg ne10, nmE, if_neg hc, g11]
  · rw [f_X9_readEither_l8, if_neg (lt160 hi), if_neg ne10, nmE, hx, if_pos hc, hc, nI_1]
  · rw [f_X12_either_l5, isWordB _ hb, bpE, if_pos rfl]
  · rw [f_X12_either_l5, isWordE (W := 423) (C := 10008) (i := 8) (by omega) rfl rfl hb ht, bpE, if_neg hc, if_pos rfl]
  · rw [f_X12_either_l5, isWordE (W := 423) (C := 10008) (i := 8) (by omega) rfl rfl hb ht, bpE, if_pos hc, if_neg ne10, hc]
    have hj : ∀ w z, (jn (fun (t10 : Int32) => f_X12_either_l5 (f_GM d) f t10 z) (fun (j11 : Int32 → Option (Int32 × St)) => jn (j11 1) (fun (j12 : Option (Int32 × St)) => (if v = 0 then (if w = 0 then j11 0 else j12) else j12)))) = f_X12_either_l5 (f_GM d) f (jv 10008 v w) z := fun w z => by
      have ho : jv 10008 v w = (if v = 0 then (if w = 0 then 0 else 1) else 1) := by
        unfold jv
        rw [if_neg (show ¬ (10008 : Int32) = 10009 by decide), if_neg (show ¬ (10008 : Int32) = 20042 by decide), if_neg (show ¬ (10008 : Int32) = 20043 by decide), if_neg (show ¬ (10008 : Int32) = 20045 by decide), if_neg (show ¬ (10008 : Int32) = 20060 by decide), if_neg (show ¬ (10008 : Int32) = 20061 by decide)]
      rw [jnE, jnE, ho]
      by_cases a : v = 0
      · rw [if_pos a, if_pos a]
        by_cases b : w = 0
        · rw [if_pos b, if_pos b]
        · rw [if_neg b, if_neg b]
      · rw [if_neg a, if_neg a]
    simp only [hj]
end PAR1
