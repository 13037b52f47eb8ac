/-! words: the class goes through its line of words -/
theorem charTab : ∀ i, i < 56 → f_J0_charAt_5068e 0 (nI i) = some ((sbyt.getD 0 []).getD i 0) := by decide +kernel
theorem len56 : f_J0_length_8abf5 0 = some 56 := by decide +kernel
def ck (C : List Int32) (i : Nat) (w : List Int32) : Bool := match w with
  | [] => decide (C.getD i 0 = 32 ∧ i < 56)
  | c :: r => decide (C.getD i 0 = c ∧ ¬ c = 32 ∧ i < 56) && ck C (i + 1) r
theorem one_word {x : St} {B : Nat → Int32} {n e a0 : Nat} (hn : n ≤ 160) (he : e ≤ n) (h1 : x.1 15 1 = nI n) (h2 : ∀ i, i < n → B i = x.1 16 i &&& 255) (h3 : x.1 17 5 = nI a0) (K : Int32 → Option (Int32 × St)) : ∀ (w : List Int32) (i at' idx F : Nat) (fl : Bool), at' + w.length < 100000 → ck (sbyt.getD 0 []) i w = true → f_X9_wordToken_l54 (nI e) x K (F + w.length + 1) (nI idx) (nI at') (if fl then 1 else 0) (nI i) = if (fl && wm B at' e w) = true then K (nI idx) else f_X9_wordToken_l54 (nI e) x K F (nI (idx + 1)) (nI a0) 1 (nI (i + w.length + 1)) := by
  have e56 : (56 : Int32).toInt = 56 := rfl
  intro w
  induction w with
  | nil =>
    intro i at' idx F fl hat hc
    unfold ck at hc
    simp only [decide_eq_true_eq] at hc
    have hle : ¬ (56 : Int32) ≤ nI i := by rw [le_nI (by omega)]; omega
    rw [List.length_nil, Nat.add_zero, f_X9_wordToken_l54, len56, bpE, if_neg hle, charTab i hc.2, bpE, jnE, hc.1, if_pos rfl, jnE, nmE, h3, nI_1, nI_1]
    unfold wm
    cases fl
    · simp
    · simp only [if_true, Bool.true_and, decide_eq_true_eq, if_neg ne10]
      by_cases c : at' = e
      · rw [if_pos c, if_pos (by rw [c])]
      · rw [if_neg c, if_neg (fun q => c (nI_inj (by simp at hat; omega) (by omega) q))]
  | cons c r ih =>
    intro i at' idx F fl hat hc
    unfold ck at hc
    simp only [Bool.and_eq_true, decide_eq_true_eq] at hc
    obtain ⟨⟨c1, c2, c3⟩, c4⟩ := hc
    simp only [List.length_cons] at hat ⊢
    have hle : ¬ (56 : Int32) ≤ nI i := by rw [le_nI (by omega)]; omega
    rw [show F + (r.length + 1) + 1 = (F + r.length + 1) + 1 by omega, f_X9_wordToken_l54, len56, bpE, if_neg hle, charTab i c3, bpE, jnE, c1, if_neg c2, jnE, jnE, nI_1, nI_1]
    have next := fun b => ih (i + 1) (at' + 1) idx F b (by omega) c4
    rw [show i + 1 + r.length + 1 = i + (r.length + 1) + 1 by omega] at next
    have nf := next false
    have nt := next true
    simp only [Bool.false_eq_true, if_false, if_true, Bool.false_and, Bool.true_and] at nf nt
    unfold wm
    cases fl
    · simp only [Bool.false_eq_true, if_false, if_true, Bool.false_and]
      exact nf
    · simp only [if_true, Bool.true_and, if_neg ne10]
      by_cases g1 : at' < e
      · have hb : B at' = btA n B at' := by unfold btA; rw [if_pos (by omega)]
        rw [if_neg (by rw [le_nI (by omega), nI_rng (by omega)]; omega), xAtB hn (by omega) h1 h2, bpE, ← hb]
        by_cases g2 : B at' = c
        · rw [if_pos g2, nt]
          simp [g1, g2]
        · rw [if_neg g2, nf]
          simp [g2]
      · rw [if_pos (by rw [le_nI (by omega), nI_rng (by omega)]; omega), nf]
        simp [g1]
theorem xWord {x : St} {B : Nat → Int32} {n e a : Nat} (hn : n ≤ 160) (ha : a ≤ n) (he : e ≤ n) (h1 : x.1 15 1 = nI n) (h2 : ∀ i, i < n → B i = x.1 16 i &&& 255) (h3 : x.1 17 5 = nI a) : f_X9_wordToken_l54 (nI e) x (fun (x16 : Int32) => some (10000 + x16, x)) FU 0 (nI a) 1 0 = some (wcd B a e, x) := by
  have hw := fun w i idx F h1' h2' => one_word hn he h1 h2 h3 (fun (x16 : Int32) => some (10000 + x16, x)) w i a idx F true h1' h2'
  simp only [if_true, Bool.true_and] at hw
  unfold wcd
  rw [show (0 : Int32) = nI 0 from rfl]
  have s0 := hw [102, 111, 114, 99, 101] 0 0 4994 (by simp; omega) (by decide)
  simp only [List.length_cons, List.length_nil] at s0
  have s1 := hw [115, 116, 111, 114, 101] 6 1 4988 (by simp; omega) (by decide)
  simp only [List.length_cons, List.length_nil] at s1
  have s2 := hw [115, 101, 97, 116] 12 2 4983 (by simp; omega) (by decide)
  simp only [List.length_cons, List.length_nil] at s2
  have s3 := hw [103, 101, 97, 114] 17 3 4978 (by simp; omega) (by decide)
  simp only [List.length_cons, List.length_nil] at s3
  have s4 := hw [115, 112, 101, 101, 100] 22 4 4972 (by simp; omega) (by decide)
  simp only [List.length_cons, List.length_nil] at s4
  have s5 := hw [115, 116, 114, 111, 107, 101] 28 5 4965 (by simp; omega) (by decide)
  simp only [List.length_cons, List.length_nil] at s5
  have s6 := hw [103, 105, 118, 101] 35 6 4960 (by simp; omega) (by decide)
  simp only [List.length_cons, List.length_nil] at s6
  have s7 := hw [100, 114, 97, 103] 40 7 4955 (by simp; omega) (by decide)
  simp only [List.length_cons, List.length_nil] at s7
  have s8 := hw [111, 114] 45 8 4952 (by simp; omega) (by decide)
  simp only [List.length_cons, List.length_nil] at s8
  have s9 := hw [97, 110, 100] 48 9 4948 (by simp; omega) (by decide)
  simp only [List.length_cons, List.length_nil] at s9
  have s10 := hw [110, 111, 116] 52 10 4944 (by simp; omega) (by decide)
  simp only [List.length_cons, List.length_nil] at s10
  have hend : f_X9_wordToken_l54 (nI e) x (fun (x16 : Int32) => some (10000 + x16, x)) 4944 (nI 11) (nI a) 1 (nI 56) = some (-2, x) := by
    rw [f_X9_wordToken_l54, len56, bpE, if_pos (by decide)]
  show f_X9_wordToken_l54 (nI e) x (fun (x16 : Int32) => some (10000 + x16, x)) 5000 (nI 0) (nI a) 1 (nI 0) = _
  by_cases c0 : wm B a e [102, 111, 114, 99, 101] = true
  · rw [if_pos c0] at s0
    rw [if_pos c0]
    exact s0
  rw [if_neg c0] at s0
  rw [if_neg c0]
  by_cases c1 : wm B a e [115, 116, 111, 114, 101] = true
  · rw [if_pos c1] at s1
    rw [if_pos c1]
    exact (s0).trans (s1)
  rw [if_neg c1] at s1
  rw [if_neg c1]
  by_cases c2 : wm B a e [115, 101, 97, 116] = true
  · rw [if_pos c2] at s2
    rw [if_pos c2]
    exact (s0).trans ((s1).trans (s2))
  rw [if_neg c2] at s2
  rw [if_neg c2]
  by_cases c3 : wm B a e [103, 101, 97, 114] = true
  · rw [if_pos c3] at s3
    rw [if_pos c3]
    exact (s0).trans ((s1).trans ((s2).trans (s3)))
  rw [if_neg c3] at s3
  rw [if_neg c3]
  by_cases c4 : wm B a e [115, 112, 101, 101, 100] = true
  · rw [if_pos c4] at s4
    rw [if_pos c4]
    exact (s0).trans ((s1).trans ((s2).trans ((s3).trans (s4))))
  rw [if_neg c4] at s4
  rw [if_neg c4]
  by_cases c5 : wm B a e [115, 116, 114, 111, 107, 101] = true
  · rw [if_pos c5] at s5
    rw [if_pos c5]
    exact (s0).trans ((s1).trans ((s2).trans ((s3).trans ((s4).trans (s5)))))
  rw [if_neg c5] at s5
  rw [if_neg c5]
  by_cases c6 : wm B a e [103, 105, 118, 101] = true
  · rw [if_pos c6] at s6
    rw [if_pos c6]
    exact (s0).trans ((s1).trans ((s2).trans ((s3).trans ((s4).trans ((s5).trans (s6))))))
  rw [if_neg c6] at s6
  rw [if_neg c6]
  by_cases c7 : wm B a e [100, 114, 97, 103] = true
  · rw [if_pos c7] at s7
    rw [if_pos c7]
    exact (s0).trans ((s1).trans ((s2).trans ((s3).trans ((s4).trans ((s5).trans ((s6).trans (s7)))))))
  rw [if_neg c7] at s7
  rw [if_neg c7]
  by_cases c8 : wm B a e [111, 114] = true
  · rw [if_pos c8] at s8
    rw [if_pos c8]
    exact (s0).trans ((s1).trans ((s2).trans ((s3).trans ((s4).trans ((s5).trans ((s6).trans ((s7).trans (s8))))))))
  rw [if_neg c8] at s8
  rw [if_neg c8]
  by_cases c9 : wm B a e [97, 110, 100] = true
  · rw [if_pos c9] at s9
    rw [if_pos c9]
    exact (s0).trans ((s1).trans ((s2).trans ((s3).trans ((s4).trans ((s5).trans ((s6).trans ((s7).trans ((s8).trans (s9)))))))))
  rw [if_neg c9] at s9
  rw [if_neg c9]
  by_cases c10 : wm B a e [110, 111, 116] = true
  · rw [if_pos c10] at s10
    rw [if_pos c10]
    exact (s0).trans ((s1).trans ((s2).trans ((s3).trans ((s4).trans ((s5).trans ((s6).trans ((s7).trans ((s8).trans ((s9).trans (s10))))))))))
  rw [if_neg c10] at s10
  rw [if_neg c10]
  exact (s0).trans ((s1).trans ((s2).trans ((s3).trans ((s4).trans ((s5).trans ((s6).trans ((s7).trans ((s8).trans ((s9).trans ((s10).trans (hend)))))))))))
