/-! go -/
def enc (st : Nat × Nat) (b : Int32) : Prop := (st.1 = 13 ∧ b = -1) ∨ (st.1 = bc st.2 ∧ st.2 < 4096 ∧ b = nI st.2)
section GO
variable {A C : Nat → Nat} {F S : Nat → Int} {n s nr : Nat}
def PM (A C : Nat → Nat) (F S : Nat → Int) (n nr : Nat) (m : St) : Prop := m.1 0 11 = nI nr ∧ m.1 0 46 = nI n ∧ ∀ i, i < n → m.1 15 i = nI (A i) ∧ m.1 16 i = nI (C i) ∧ A i < nr ∧ C i < nr ∧ A i ≠ C i ∧ (m.1 17 i).toInt = F i ∧ (m.1 18 i).toInt = S i ∧ rng (m.1 17 i) (-9999) 9999 ∧ rng (m.1 18 i) 0 999
theorem PM.cg {m m' : St} (h : PM A C F S n nr m) (g : FL m m') : PM A C F S n nr m' := by
  unfold PM at h ⊢
  rw [g.1]; exact h
theorem go_1 (hs : s < 4096) (hn : n ≤ 30) (hnr : nr ≤ 16) (hsn : ∀ p, s.testBit p = true → p < n) {w : Nat} (hw : w < 4096) (hsub : ∀ p, w.testBit p = true → s.testBit p = true) {st : Nat × Nat} {b : Int32} {m : St} (hP : PM A C F S n nr m) (he : enc st b) : ∃ m' b', FL m m' ∧ enc (stp (GD A C F S s) st w) b' ∧ ∀ f, f_X12_go_l42 (nI s) (f + 1) b (nI w) 1 m = f_X12_go_l42 (nI s) f b' ((nI w - nI s) &&& nI s) (if w = s then 0 else 1) m' := by
  have hb := bc_le w
  have hb2 := bc_le st.2
  have hx12 : s ^^^ w < 2 ^ 12 := Nat.xor_lt_two_pow (by omega) (by omega)
  have hEP : EP A C F S (fun i => i < n ∧ bt (nI (s ^^^ w)) i) = EP A C F S (TK s w 0) := EP_cg (fun q => by
    unfold TK
    constructor
    · intro ⟨z1, z2⟩
      have := (xor_bit hsub).mp ((btN (by omega) (by omega)).mp z2)
      exact ⟨by omega, this⟩
    · intro ⟨_, z2, z3⟩
      have hq := hsn q z2
      exact ⟨hq, (btN (by omega) (by omega)).mpr ((xor_bit hsub).mpr ⟨z2, z3⟩)⟩)
  obtain ⟨r, m1, q1, q2, q3⟩ := quarrelsE (set := nI (s ^^^ w)) (A := A) (C := C) (F := F) (S := S) hn hnr hP.1 hP.2.1 hP.2.2
  rw [hEP] at q3
  have hws : (nI w = nI s) ↔ w = s := by
    constructor
    · intro e
      have := congrArg Int32.toInt e
      rw [nI_rng (by omega), nI_rng (by omega)] at this
      omega
    · intro e; rw [e]
  have hj : ∀ (f : Nat) (b' : Int32) (m' : St), (if nI w = nI s then f_X12_go_l42 (nI s) f b' ((nI w - nI s) &&& nI s) 0 m' else f_X12_go_l42 (nI s) f b' ((nI w - nI s) &&& nI s) 1 m') = f_X12_go_l42 (nI s) f b' ((nI w - nI s) &&& nI s) (if w = s then 0 else 1) m' := fun f b' m' => by
    by_cases c : w = s
    · rw [if_pos (hws.mpr c), if_pos c]
    · rw [if_neg (fun z => c (hws.mp z)), if_neg c]
  have hq : ∀ f, (bc w < st.1) → (b = -1 ∨ ∃ v, f_X12_bitsOf b = some v ∧ ¬ v ≤ nI (bc w)) → f_X12_go_l42 (nI s) (f + 1) b (nI w) 1 m = (if r = 0 then f_X12_go_l42 (nI s) f (nI w) ((nI w - nI s) &&& nI s) (if w = s then 0 else 1) m1 else f_X12_go_l42 (nI s) f b ((nI w - nI s) &&& nI s) (if w = s then 0 else 1) m1) := fun f _ hc => by
    rw [f_X12_go_l42, if_neg ne10]
    simp only [jnE, nmE, xorN hs hw hsub, q1, bdE, hj]
    by_cases z : b = -1
    · rw [if_pos z]
    · rw [if_neg z]
      obtain ⟨v, v1, v2⟩ := hc.resolve_left z
      rw [bcM hw, bpE, v1, bpE, if_neg v2]
  by_cases c : bc w < st.1
  · have hc : b = -1 ∨ ∃ v, f_X12_bitsOf b = some v ∧ ¬ v ≤ nI (bc w) := by
      rcases he with ⟨_, e⟩ | ⟨e1, e2, e3⟩
      · exact Or.inl e
      · refine Or.inr ⟨nI (bc st.2), by rw [e3]; exact bcM e2, ?_⟩
        rw [le32, nI_rng (by omega), nI_rng (by omega)]; omega
    rcases q3 with ⟨rfl, qn⟩ | ⟨rfl, qg⟩
    · refine ⟨m1, b, q2, ?_, fun f => by rw [hq f c hc, if_neg ne10]⟩
      rw [stp, if_neg (fun z => z.2 qn)]; exact he
    · refine ⟨m1, nI w, q2, ?_, fun f => by rw [hq f c hc, if_pos rfl]⟩
      rw [stp, if_pos ⟨c, fun z => qg.noS z⟩]
      exact Or.inr ⟨rfl, hw, rfl⟩
  · refine ⟨m, b, FL.rfl' m, by rw [stp, if_neg (fun z => c z.1)]; exact he, fun f => ?_⟩
    rcases he with ⟨e, _⟩ | ⟨e1, e2, e3⟩
    · omega
    · have hbn : ¬ b = -1 := fun z => by
        rw [e3] at z
        have := congrArg Int32.toInt z
        rw [nI_rng (by omega), show (-1 : Int32).toInt = -1 from rfl] at this
        omega
      rw [f_X12_go_l42, if_neg ne10]
      simp only [jnE, nmE, hj]
      rw [if_neg hbn, bcM hw, bpE, e3, bcM e2, bpE, if_pos (by rw [le32, nI_rng (by omega), nI_rng (by omega)]; omega)]
theorem go_i (hs : s < 4096) (hn : n ≤ 30) (hnr : nr ≤ 16) (hsn : ∀ p, s.testBit p = true → p < n) : ∀ (i : Nat), i ≤ 12 → ∀ (w : Nat) (st : Nat × Nat) (b : Int32) (m : St), w < 4096 → (∀ p, w.testBit p = true → s.testBit p = true) → (∀ p, p < i → w.testBit p = false) → PM A C F S n nr m → enc st b → ∃ m' b' len, len ≤ 2 ^ i ∧ FL m m' ∧ enc (run (GD A C F S s) s i w st) b' ∧ ∀ f, f_X12_go_l42 (nI s) (f + len) b (nI w) 1 m = f_X12_go_l42 (nI s) f b' ((nI (w ||| s % 2 ^ i) - nI s) &&& nI s) (if w ||| s % 2 ^ i = s then 0 else 1) m' := by
  intro i
  induction i with
  | zero =>
    intro _ w st b m hw hsub hlow hP he
    obtain ⟨m', b', g1, g2, g3⟩ := go_1 hs hn hnr hsn hw hsub hP he
    have e : w ||| s % 2 ^ 0 = w := by rw [Nat.pow_zero, Nat.mod_one, Nat.or_zero]
    rw [e]
    exact ⟨m', b', 1, by simp, g1, by rw [run]; exact g2, g3⟩
  | succ i ih =>
    intro hi w st b m hw hsub hlow hP he
    obtain ⟨m1, b1, l1, a1, a2, a3, a4⟩ := ih (by omega) w st b m hw hsub (fun p hp => hlow p (by omega)) hP he
    have hpow : 2 ^ (i + 1) = 2 ^ i + 2 ^ i := by rw [Nat.pow_succ]; omega
    by_cases ct : s.testBit i = true
    · obtain ⟨n1, n2⟩ := nextN hs hw (by omega) hsub (fun p hp => hlow p (by omega)) ct
      have hp2 := p2_lt i (by omega)
      have hwo : w ||| 2 ^ i < 2 ^ 12 := Nat.or_lt_two_pow (by omega) (by omega)
      obtain ⟨m', b', l2, c1, c2, c3, c4⟩ := ih (by omega) (w ||| 2 ^ i) (run (GD A C F S s) s i w st) b1 m1 hwo (fun p hp => by
        rw [Nat.testBit_or, Nat.testBit_two_pow] at hp
        by_cases e : i = p
        · subst e; exact ct
        · rw [decide_eq_false e, Bool.or_false] at hp; exact hsub p hp) (fun p hp => by rw [Nat.testBit_or, hlow p (by omega), Nat.testBit_two_pow_of_ne (by omega)]; rfl) (hP.cg a2) a3
      have e : (w ||| 2 ^ i) ||| s % 2 ^ i = w ||| s % 2 ^ (i + 1) := by
        apply Nat.eq_of_testBit_eq
        intro p
        rw [Nat.testBit_or, Nat.testBit_or, Nat.testBit_or, Nat.testBit_mod_two_pow, Nat.testBit_mod_two_pow, Nat.testBit_two_pow]
        by_cases z : i = p
        · subst z; simp [ct]
        · by_cases z2 : p < i
          · have : p < i + 1 := by omega
            simp [z, z2, this]
          · have : ¬ p < i + 1 := by omega
            simp [z, z2, this]
      rw [e] at c4
      refine ⟨m', b', l1 + l2, by omega, a2.trans c2, by rw [run, if_pos ct]; exact c3, fun f => ?_⟩
      rw [show f + (l1 + l2) = (f + l2) + l1 by omega, a4, n1, if_neg n2, c4]
    · have e : w ||| s % 2 ^ (i + 1) = w ||| s % 2 ^ i := by
        apply Nat.eq_of_testBit_eq
        intro p
        rw [Nat.testBit_or, Nat.testBit_or, Nat.testBit_mod_two_pow, Nat.testBit_mod_two_pow]
        by_cases z : p = i
        · subst z; simp [ct]
        · by_cases z2 : p < i
          · have : p < i + 1 := by omega
            simp [z2, this]
          · have : ¬ p < i + 1 := by omega
            simp [z2, this]
      rw [e]
      exact ⟨m1, b1, l1, by omega, a2, by rw [run, if_neg ct]; exact a3, a4⟩
theorem run_last {G : Nat → Prop} : ∀ (i w : Nat) (st : Nat × Nat), G (w ||| s % 2 ^ i) → (run G s i w st).1 ≤ 12 := by
  intro i
  induction i with
  | zero =>
    intro w st h
    rw [Nat.pow_zero, Nat.mod_one, Nat.or_zero] at h
    have := bc_le w
    rw [run, stp]
    by_cases c : bc w < st.1
    · rw [if_pos ⟨c, h⟩]; exact this
    · rw [if_neg (fun z => c z.1)]; omega
  | succ i ih =>
    intro w st h
    rw [run]
    by_cases ct : s.testBit i = true
    · rw [if_pos ct]
      apply ih
      have e : (w ||| 2 ^ i) ||| s % 2 ^ i = w ||| s % 2 ^ (i + 1) := by
        apply Nat.eq_of_testBit_eq
        intro p
        rw [Nat.testBit_or, Nat.testBit_or, Nat.testBit_or, Nat.testBit_mod_two_pow, Nat.testBit_mod_two_pow, Nat.testBit_two_pow]
        by_cases z : i = p
        · subst z; simp [ct]
        · by_cases z2 : p < i
          · have : p < i + 1 := by omega
            simp [z, z2, this]
          · have : ¬ p < i + 1 := by omega
            simp [z, z2, this]
      rw [e]; exact h
    · rw [if_neg ct]
      apply ih
      have e : w ||| s % 2 ^ (i + 1) = w ||| s % 2 ^ i := by
        apply Nat.eq_of_testBit_eq
        intro p
        rw [Nat.testBit_or, Nat.testBit_or, Nat.testBit_mod_two_pow, Nat.testBit_mod_two_pow]
        by_cases z : p = i
        · subst z; simp [ct]
        · by_cases z2 : p < i
          · have : p < i + 1 := by omega
            simp [z2, this]
          · have : ¬ p < i + 1 := by omega
            simp [z2, this]
      rw [← e]; exact h
end GO
theorem sh12 : ∀ q, q ≤ 12 → (Int32.toInt64 (((1 : Int32) <<< (nI q &&& 31)) - 1)).toInt = 2 ^ q - 1 := by decide +kernel
theorem p_go {PA : (Nat → Int32) → Nat → (Nat → Int32) → Nat → Int32 → Prop} : P_go (InvP PA) := by
  intro nc x m a hI
  obtain ⟨nr, tc, hA⟩ := id hI
  obtain ⟨h1, h2, h3, h4, h5, h6, h7, h8, h9⟩ := id hA
  obtain ⟨r1, r2, r3, r4⟩ := id h1
  obtain ⟨n, A, C, F, S, t1, t2, t3, t4, t5⟩ := trialF h1 h7
  have same : ∃ (r : Int32) (x' m' : St), (some ((-2 : Int32), x) : Option (Int32 × St)) = some (r, x') ∧ (some ((-2 : Int32), m) : Option (Int32 × St)) = some (r, m') ∧ InvP PA nc x' m' := ⟨_, x, m, rfl, rfl, hI⟩
  have e4096 : (4096 : Int32).toInt = 4096 := rfl
  have e12 : (12 : Int32) = nI 12 := rfl
  have hmod : f_X12_go m a = (if iz (0 ≤ a.toInt ∧ a.toInt ≤ (2 : Int) ^ n - 1 ∧ a.toInt < 4096) = 0 then some ((-2), m) else f_X12_go_l42 a FU (-1) 0 1 m) := by
    have hp : ∀ q, q ≤ 12 → (2 : Int) ^ q ≤ 4096 := by decide
    have hp' : ∀ q, q ≤ 30 → 12 ≤ q → (4096 : Int) ≤ 2 ^ q := by decide
    unfold f_X12_go
    rw [nmE, t3, jnE]
    by_cases c : 12 ≤ n
    · have := hp' n t1 c
      rw [if_pos (by rw [e12, le32, nI_rng (by omega), nI_rng (by omega)]; omega), e12]
      dsimp only
      rw [m_in, sh12 12 (by omega), show (0 : Int64).toInt = 0 from rfl, bpE]
      by_cases z : 0 ≤ a.toInt ∧ a.toInt ≤ (2 : Int) ^ 12 - 1
      · rw [iz_pos z, iz_pos (by omega)]
      · rw [iz_neg z, iz_neg (by omega)]
    · have := hp n (by omega)
      rw [if_neg (by rw [e12, le32, nI_rng (by omega), nI_rng (by omega)]; omega), nmE]
      dsimp only
      rw [m_in, sh12 n (by omega), show (0 : Int64).toInt = 0 from rfl, bpE]
      by_cases z : 0 ≤ a.toInt ∧ a.toInt ≤ (2 : Int) ^ n - 1
      · rw [iz_pos z, iz_pos (by omega)]
      · rw [iz_neg z, iz_neg (by omega)]
  rw [hmod]
  unfold f_X11_go
  rw [xAll t1 t2, bpE]
  by_cases g1 : 0 ≤ a.toInt ∧ a.toInt ≤ (2 : Int) ^ n - 1
  · by_cases g2 : a.toInt < 4096
    · rw [iz_pos g1, iz_pos ⟨g1.1, g1.2, g2⟩, if_neg ne10, if_neg ne10, if_pos (by rw [lt32, e4096]; exact g2)]
      obtain ⟨s, hs, rfl⟩ := of_rng (n := 4096) g1.1 (by omega)
      rw [nI_rng (by omega)] at g1
      have hsn : ∀ p, s.testBit p = true → p < n := fun p hp => by
        by_cases c : p < n
        · exact c
        · have h2 : 2 ^ p ≤ s := Nat.ge_two_pow_of_testBit hp
          have h3 : 2 ^ n ≤ 2 ^ p := Nat.pow_le_pow_right (by omega) (by omega)
          have h4 : ((2 ^ n : Nat) : Int) = (2 : Int) ^ n := by simp
          omega
      obtain ⟨x3, u1, u2, u3, u4⟩ := unbindE (kk := 55) (sI (sI x 37 6 13) 37 7 0)
      have hE0 : E0 = EP A C F S (TK s 0 12) := by
        funext i j v
        apply propext
        constructor
        · intro z; exact absurd z (fun q => q)
        · intro ⟨q, ⟨z1, z2, _⟩, _⟩
          rw [tb_lt hs z1] at z2; exact absurd z2 (by decide)
      rw [hE0] at u4
      have hx3 : ∀ c, c ≠ 37 → c ≠ 55 → x3.1 c = x.1 c := fun c hc hc2 => by rw [u2 c hc2, sI_ro _ 37 7 _ c hc, sI_ro _ 37 6 _ c hc]
      obtain ⟨x', k1, k2, k3, k4, k5, k6, k7⟩ := seekE (A := A) (C := C) (F := F) (S := S) hs t1 hsn 12 (by omega) 64 0 (13, 0) x3 (by omega) (by omega) (fun p _ => Nat.zero_testBit p) (by decide) (by rw [u2 37 (by omega)]; simp [sI_rd]; rfl) (by rw [u2 37 (by omega)]; simp [sI_rd]; rfl) (PX.cg (n := n) (x := x) t4 (fun c h37 hc => hx3 c h37 (by omega))) u4
      have hempty : GD A C F S s (0 ||| s % 2 ^ 12) := by
        have e : 0 ||| s % 2 ^ 12 = s := by rw [Nat.zero_or, Nat.mod_eq_of_lt hs]
        rw [e]
        intro z
        have e2 : EP A C F S (TK s s 0) = E0 := by
          funext i j v
          apply propext
          constructor
          · intro ⟨q, ⟨_, z2, z3⟩, _⟩
            rw [z2] at z3; exact absurd z3 (by decide)
          · intro z; exact absurd z (fun q => q)
        rw [e2] at z
        exact (KI0 (D := fun i j => if i = j then 0 else 999999) (fun _ _ _ _ => rfl)).1.noS z
      have hlast := run_last (s := s) 12 0 (13, 0) hempty
      obtain ⟨m', b', len, l1, l2, l3, l4⟩ := go_i (A := A) (C := C) (F := F) (S := S) hs t1 r1 hsn 12 (by omega) 0 (13, 0) (-1) m (by omega) (fun p hp => by rw [Nat.zero_testBit] at hp; exact absurd hp (by decide)) (fun p _ => Nat.zero_testBit p) ⟨r3, t3, t5⟩ (Or.inl ⟨rfl, rfl⟩)
      have hb' : b' = nI (run (GD A C F S s) s 12 0 (13, 0)).2 := by
        rcases l3 with ⟨z, _⟩ | ⟨_, _, z⟩
        · omega
        · exact z
      have hl : len ≤ 4096 := l1
      have hm : f_X12_go_l42 (nI s) FU (-1) 0 1 m = some (b', m') := by
        have := l4 ((4999 - len) + 1)
        rw [show 4999 - len + 1 + len = FU by unfold FU; omega, show nI 0 = 0 from rfl] at this
        rw [this, if_pos (by rw [Nat.zero_or, Nat.mod_eq_of_lt hs]), f_X12_go_l42, if_pos rfl]
      rw [show nI 12 - 1 = 11 from rfl, show nI 0 = 0 from rfl] at k1
      refine ⟨b', x', m', ?_, hm, inv_trial hA (by rw [k6 4 (by omega) (by omega), u2 37 (by omega)]; simp [sI_rd]) (fun c h37 hc => by rw [k5 c h37 (by omega), hx3 c h37 (by omega)]) (by rw [k7, u3]; rfl) l2.1⟩
      unfold f_X10_fewestGone
      rw [nmE, nmE, u1, bdvE, k1, bdvE, nmE, k3, bdE, hb']
    · rw [iz_pos g1, iz_neg (fun z => g2 z.2.2), if_neg ne10, if_pos rfl, if_neg (by rw [lt32, e4096]; exact g2)]
      exact same
  · rw [iz_neg g1, iz_neg (fun z => g1 ⟨z.1, z.2.1⟩), if_pos rfl, if_pos rfl]
    exact same
