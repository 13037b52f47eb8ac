def kA (x9 : Int32) (σ10 : St) : Option (Int32 × St) := nm (σ10.1 15 1) (fun v41 => (if v41 ≤ x9 then nm (σ10.1 20 3) (fun v43 => nm (sI σ10 20 3 (v43 + 1)) (fun σ44 => some ((-1), σ44))) else some (x9, σ10)))
def kB (x12 : Int32) (σ13 : St) : Option (Int32 × St) := some (x12 + 1, σ13)
/-- what stands while a plan is read -/
def PlR (T np n : Nat) (x m : St) : Prop := x.1 15 1 = nI T ∧ x.1 20 3 = nI np ∧ m.1 0 6 = nI T ∧ m.1 0 33 = nI np ∧ (∀ i, i < T → m.1 3 i = x.1 16 i &&& 255) ∧ x.1 22 np = nI n ∧ n ≤ 200 ∧ ∀ i, i < n → x.1 (23 + np) i = m.1 12 (200 * np + i) ∧ rng (m.1 12 (200 * np + i)) 0 5
/-- what has changed by a reading, and what it says -/
def PlQ (np : Nat) (x m x' m' : St) (q : Int32) (n' : Nat) : Prop := (∀ c, c ≠ 20 → c ≠ 22 → c ≠ 23 + np → x'.1 c = x.1 c) ∧ x'.2 = x.2 ∧ (∀ j, j ≠ np → x'.1 22 j = x.1 22 j) ∧ (∀ c, c ≠ 12 → m'.1 c = m.1 c) ∧ (∀ i, i < 200 * np → m'.1 12 i = m.1 12 i) ∧ ((q = -1 ∧ x'.1 20 3 = nI (np + 1) ∧ x'.1 22 np = nI n' ∧ n' ≤ 200 ∧ ∀ i, i < n' → x'.1 (23 + np) i = m'.1 12 (200 * np + i) ∧ rng (m'.1 12 (200 * np + i)) 0 5) ∨ ((∃ w, w < 1000 ∧ q = nI w) ∧ x'.1 20 3 = nI np))
theorem kA_end {T np n p : Nat} {x m : St} (h : PlR T np n x m) (hT : T ≤ 160) (hp : p < 1000) (hnp : np < 8) : ∃ q x', kA (nI p) x = some (q, x') ∧ (if T ≤ p then q = -1 else q = nI p) ∧ PlQ np x m x' m q n := by
  obtain ⟨r1, r2, r3, r4, r5, r6, r7, r8⟩ := h
  unfold kA
  rw [nmE, r1]
  by_cases c : T ≤ p
  · rw [if_pos (by rw [le_nI (by omega), nI_rng (by omega)]; omega), nmE, nmE, r2, nI_1]
    refine ⟨_, _, rfl, by rw [if_pos c], fun q a b d => sI_ro _ 20 3 _ q a, rfl, fun j hj => by rw [sI_ro _ 20 3 _ 22 (by omega)], fun _ _ => rfl, fun _ _ => rfl, Or.inl ⟨rfl, sI_at _ _ _ _, by rw [sI_ro _ 20 3 _ 22 (by omega)]; exact r6, r7, fun i hi => by rw [sI_ro _ 20 3 _ (23 + np) (by omega)]; exact r8 i hi⟩⟩
  · rw [if_neg (by rw [le_nI (by omega), nI_rng (by omega)]; omega)]
    exact ⟨_, x, rfl, by rw [if_neg c], fun _ _ _ _ => rfl, rfl, fun _ _ => rfl, fun _ _ => rfl, fun _ _ => rfl, Or.inr ⟨⟨p, hp, rfl⟩, r2⟩⟩
theorem plan_stop {T np n p : Nat} {x m : St} (h : PlR T np n x m) (hp : p < 1000) : PlQ np x m x m (nI p) n := ⟨fun _ _ _ _ => rfl, rfl, fun _ _ => rfl, fun _ _ => rfl, fun _ _ => rfl, Or.inr ⟨⟨p, hp, rfl⟩, h.2.1⟩⟩
theorem l32_stop {K : Int32 → Int32 → St → Option (Int32 × St)} {f w : Nat} (hw : w < 1000000) (a b c : Int32) (m : St) : f_X12_plan_l32 K (f + 1) a b c (nI w) m = K c (nI w) m := by
  rw [f_X12_plan_l32, if_neg (nI_nem hw)]
theorem plan_loop {K : Int32 → Int32 → St → Option (Int32 × St)} {T np : Nat} (hT : T ≤ 160) (hnp : np < 8) : ∀ (d f k p n : Nat) (x m : St), k + d = 12 → d + 2 < f → p ≤ T → (k = 0 → p < T) → PlR T np n x m → ∃ q x' m' n', f_X4_read_l23 kA kB f (nI p) (nI k) x = some (q, x') ∧ f_X12_plan_l32 K f (nI p) (nI k) (nI n) (-1) m = K (nI n') q m' ∧ PlQ np x m x' m' q n' := by
  have e12 : (12 : Int32).toInt = 12 := rfl
  have e2 : (200 : Int32).toInt = 200 := rfl
  intro d
  induction d with
  | zero =>
    intro f k p n x m hk hf hp h0 hR
    obtain ⟨f, rfl⟩ : ∃ g, f = g + 1 + 1 := ⟨f - 2, by omega⟩
    obtain ⟨q, x', a1, a2, a3⟩ := kA_end hR hT (show p < 1000 by omega) hnp
    obtain ⟨r1, r2, r3, r4, r5, r6, r7, r8⟩ := id hR
    have hk12 : k = 12 := by omega
    rw [f_X4_read_l23, f_X12_plan_l32, if_pos (by rw [le_nI (by omega)]; omega), a1, if_pos rfl, nmE, r3]
    by_cases c : T ≤ p
    · rw [if_pos c] at a2
      rw [if_pos (by rw [le_nI (by omega), nI_rng (by omega)]; omega)]
      exact ⟨q, x', m, n, rfl, by rw [a2], a3⟩
    · rw [if_neg c] at a2
      rw [if_neg (by rw [le_nI (by omega), nI_rng (by omega)]; omega), mHere hT (by omega) r3, bpE]
      obtain ⟨κ, k1, k2⟩ := kind_rng (btA T (m.1 3) p)
      rw [k1, bpE, jnE, l32_stop (by omega)]
      refine ⟨q, x', m, n, rfl, ?_, a3⟩
      rw [a2]
      by_cases c2 : κ = -1
      · rw [if_pos c2]
      · rw [if_neg c2, if_pos (by rw [hk12]; rfl)]
  | succ d ih =>
    intro f k p n x m hk hf hp h0 hR
    obtain ⟨f, rfl⟩ : ∃ g, f = g + 1 + 1 := ⟨f - 2, by omega⟩
    obtain ⟨r1, r2, r3, r4, r5, r6, r7, r8⟩ := id hR
    have hk12 : ¬ (12 : Int32) ≤ nI k := by rw [le_nI (by omega)]; omega
    have hk12' : ¬ nI k = 12 := fun e => by
      have := nI_inj (a := k) (b := 12) (by omega) (by omega) e
      omega
    rw [f_X4_read_l23, f_X12_plan_l32, if_neg hk12, if_pos rfl, jnE]
    simp only [nmE, r1, r3]
    by_cases c : T ≤ p
    · have hk0 : ¬ nI k = 0 := nI_ne0 (by omega) (by omega)
      have hle : nI T ≤ nI p := by rw [le_nI (by omega), nI_rng (by omega)]; omega
      obtain ⟨q, x', a1, a2, a3⟩ := kA_end hR hT (show p < 1000 by omega) hnp
      rw [if_pos c] at a2
      rw [if_neg hk0, if_pos hle, if_pos hle, a1]
      exact ⟨q, x', m, n, rfl, by rw [a2], a3⟩
    · have hle : ¬ nI T ≤ nI p := by rw [le_nI (by omega), nI_rng (by omega)]; omega
      simp only [if_neg hle, ite_self]
      obtain ⟨κ, k1, k2⟩ := kind_rng (btA T (m.1 3) p)
      rw [xKindAt hT (by omega) r1 r5, mHere hT (by omega) r3, bpE, k1]
      simp only [bpE, jnE]
      rcases k2 with rfl | ⟨kk, hkk, rfl⟩
      · rw [if_pos rfl, if_pos rfl, l32_stop (by omega)]
        exact ⟨nI p, x, m, n, rfl, rfl, plan_stop hR (by omega)⟩
      · rw [if_neg (nI_nem (by omega)), if_neg (nI_nem (by omega)), if_neg hk12']
        simp only [nI_1]
        rw [mHere hT (by omega) r3, mHere hT (by omega) r3, xAt (p := p + 1) hT (by omega) r1 r5, xAt (p := p + 1 + 1) hT (by omega) r1 r5]
        simp only [bpE]
        have hin : ∀ j c, c < 100 → btA T (m.1 3) j = nI c → j < T := fun j c hc e => by
          unfold btA at e
          by_cases h : j < T
          · exact h
          · rw [if_neg h] at e; exact absurd e.symm (nI_nem (by omega))
        have fin : ∀ (v a : Nat), 0 < v → v ≤ 99 → a ≤ T → p < a → ∃ q x' m' n', (if nI v ≤ 200 - nI n then bdv (f_X4_append x (nI kk) (nI v)) (fun σ33 => f_X4_read_l23 kA kB (f + 1) (nI a) (nI (k + 1)) σ33) else some (nI (p + 1), x)) = some (q, x') ∧ (if nI (n + v) ≤ 200 then f_X12_plan_l183 (nI n) (nI kk) (nI v) (fun (σ38 : St) => f_X12_plan_l32 K (f + 1) (nI a) (nI (k + 1)) (nI (n + v)) (-1) σ38) FU 0 m else f_X12_plan_l32 K (f + 1) (nI a) (nI k) (nI n) (nI (p + 1)) m) = K (nI n') q m' ∧ PlQ np x m x' m' q n' := by
          intro v a v1 v2 a1 a2
          have en := nI_rng (n := n) (by omega)
          have es : ((200 : Int32) - nI n).toInt = 200 - n := by rw [sub32 (by omega), en, e2]
          by_cases hfit : n + v ≤ 200
          · rw [if_pos (by rw [nI_lek (by omega), es]; omega), if_pos (by rw [nI_lek (by omega)]; omega)]
            obtain ⟨y, y1, y2, y3, y4, y5, y6, y7⟩ := append_all (κ := nI kk) hfit hnp r2 r6
            obtain ⟨w, w1, w2, w3, w4⟩ := mplan_l (κ := nI kk) (K := (fun (σ38 : St) => f_X12_plan_l32 K (f + 1) (nI a) (nI (k + 1)) (nI (n + v)) (-1) σ38)) hfit hnp v FU 0 m r4 (by omega) (by unfold FU; omega)
            rw [show nI 0 = 0 from rfl] at w1
            rw [y1, bdvE, w1]
            have hR' : PlR T np (n + v) y w := by
              refine ⟨by rw [y2 15 (by omega) (by omega)]; exact r1, by rw [y2 20 (by omega) (by omega)]; exact r2, by rw [w2 0 (by omega)]; exact r3, by rw [w2 0 (by omega)]; exact r4, fun i hi => by rw [w2 3 (by omega), y2 16 (by omega) (by omega)]; exact r5 i hi, y4, hfit, fun i hi => ?_⟩
              by_cases hin' : i < n
              · rw [y7 i hin', w4 _ (by omega)]; exact r8 i hin'
              · rw [y6 i (by omega) hi, w3 i (by omega) hi]
                refine ⟨rfl, ?_⟩
                unfold rng
                rw [nI_rng (by omega)]; omega
            obtain ⟨q, x', m', n', z1, z2, z3, z4, z5, z6, z7, z8⟩ := ih (f + 1) (k + 1) a (n + v) y w (by omega) (by omega) a1 (by omega) hR'
            exact ⟨q, x', m', n', z1, z2, fun c c1 c2 c3 => by rw [z3 c c1 c2 c3, y2 c c2 c3], by rw [z4, y3], fun j hj => by rw [z5 j hj, y5 j hj], fun c hc => by rw [z6 c hc, w2 c hc], fun i hi => by rw [z7 i hi, w4 i (by omega)], z8⟩
          · rw [if_neg (by rw [nI_lek (by omega), es]; omega), if_neg (by rw [nI_lek (by omega)]; omega), l32_stop (by omega)]
            exact ⟨nI (p + 1), x, m, n, rfl, rfl, plan_stop hR (by omega)⟩
        rcases dig (btA T (m.1 3) (p + 1)) with ⟨d1, hd1, b1, g1, g2⟩ | ⟨g1, g2⟩
        · have hp1 := hin (p + 1) _ (by omega) b1
          have ed1 : nI (48 + d1) - 48 = nI d1 := by rw [show (48 : Int32) = nI 48 from rfl, sub_nI (by omega) (by omega)]; congr 1; omega
          rw [g1, g2, b1]
          simp only [bpE, if_neg ne10, if_neg (nI_nem (show d1 < 1000000 by omega)), ed1, r2, gdN hnp (show 8 ≤ 1000000 by omega), clampN (show np < 1000000 by omega), r6, nI_add]
          rcases dig (btA T (m.1 3) (p + 1 + 1)) with ⟨d2, hd2, b2, g3, g4⟩ | ⟨g3, g4⟩
          · have hp2 := hin (p + 1 + 1) _ (by omega) b2
            have e10 : (10 : Int32) * nI d1 = nI (10 * d1) := by rw [show (10 : Int32) = nI 10 from rfl, mul_nI 10 d1 (by omega) (by omega) (by omega)]
            have ed2 : nI (10 * d1 + (48 + d2)) - 48 = nI (10 * d1 + d2) := by rw [show (48 : Int32) = nI 48 from rfl, sub_nI (by omega) (by omega)]; congr 1; omega
            have ep2 : nI (p + 1) + 2 = nI (p + 1 + 1 + 1) := nI_add (p + 1) 2
            rw [g3, g4, b2]
            simp only [bpE, if_neg ne10, if_neg (nI_nem (show d2 < 1000000 by omega)), e10, nI_add, ed2, ep2]
            by_cases hz : 10 * d1 + d2 = 0
            · have hd10 : d1 = 0 := by omega
              have hd20 : d2 = 0 := by omega
              subst hd10 hd20
              have q1 : ¬ (0 : Int32) < nI 0 := by decide
              have q2 : nI (48 + 0) ≤ 48 := by decide
              simp only [if_neg q1, if_pos q2, Nat.mul_zero, Nat.add_zero, if_pos (show nI 0 = 0 from rfl)]
              rw [l32_stop (by omega)]
              exact ⟨nI (p + 1 + 1), x, m, n, by unfold kB; rw [nI_1], rfl, plan_stop hR (by omega)⟩
            · have hnz : ¬ nI (10 * d1 + d2) = 0 := nI_ne0 (by omega) (by omega)
              simp only [if_neg hnz]
              have := fin (10 * d1 + d2) (p + 1 + 1 + 1) (by omega) (by omega) (by omega) (by omega)
              by_cases h10 : d1 = 0
              · subst h10
                have q1 : ¬ (0 : Int32) < nI 0 := by decide
                have q2 : ¬ nI (48 + d2) ≤ 48 := by rw [nI_lek (by omega), show (48 : Int32).toInt = 48 from rfl]; omega
                simp only [if_neg q1, if_neg q2]
                exact this
              · have q1 : (0 : Int32) < nI d1 := by rw [lt_nI (by omega), show (0 : Int32).toInt = 0 from rfl]; omega
                simp only [if_pos q1]
                exact this
          · rw [g3, g4]
            simp only [bpE, if_true]
            by_cases hz : d1 = 0
            · subst hz
              simp only [if_pos (show nI 0 = 0 from rfl)]
              rw [l32_stop (by omega)]
              exact ⟨nI (p + 1 + 1), x, m, n, by unfold kB; rw [nI_1], rfl, plan_stop hR (by omega)⟩
            · have hnz : ¬ nI d1 = 0 := nI_ne0 (by omega) (by omega)
              simp only [if_neg hnz]
              exact fin d1 (p + 1 + 1) (by omega) (by omega) (by omega) (by omega)
        · rw [g1, g2]
          obtain ⟨s2, t2⟩ : ∃ s2, f_X8_digitOf (btA T (m.1 3) (p + 1 + 1)) = some s2 := by
            rcases dig (btA T (m.1 3) (p + 1 + 1)) with ⟨d2, _, _, g3, _⟩ | ⟨g3, _⟩
            · exact ⟨_, g3⟩
            · exact ⟨_, g3⟩
          rw [t2]
          simp only [bpE, if_true]
          rw [l32_stop (by omega)]
          exact ⟨nI (p + 1), x, m, n, rfl, rfl, plan_stop hR (by omega)⟩
theorem p_plan {PA : (Nat → Int32) → Nat → (Nat → Int32) → Nat → Int32 → Prop} : P_plan (InvP PA) := by
  intro nc x m hI
  obtain ⟨nr, tc, h1, h2, h3, h4, h5, h6, h7, h8, h9⟩ := id hI
  obtain ⟨T, t1, t2, t3, t4⟩ := id h4
  obtain ⟨np, p1, p2, p3, p4⟩ := id h6
  unfold f_X11_plan f_X12_plan f_X4_isFull
  simp only [nmE, p2, p3]
  by_cases hf : np = 8
  · subst hf
    have q1 : ¬ nI 8 < 8 := by decide
    have q2 : nI 8 = 8 := rfl
    rw [if_neg q1, if_pos q2, bpE, if_neg ne10]
    exact ⟨_, x, m, rfl, rfl, hI⟩
  · have hnp : np < 8 := by omega
    have q1 : nI np < 8 := by rw [nI_ltk (by omega), show (8 : Int32).toInt = 8 from rfl]; omega
    have q2 : ¬ nI np = 8 := fun e => hf (nI_inj (by omega) (by omega) e)
    rw [if_pos q1, if_neg q2, bpE, if_pos rfl]
    unfold f_X4_read f_X4_isFull
    simp only [nmE, p2, if_pos q1, bpE, if_true, gdN hnp (show 8 ≤ 1000000 by omega), clampN (show np < 1000000 by omega), t3, jnE]
    have hR : PlR T np 0 (sI x 22 np 0) m := by
      refine ⟨by rw [sI_ro _ 22 _ _ 15 (by omega)]; exact t2, by rw [sI_ro _ 22 _ _ 20 (by omega)]; exact p2, t3, p3, fun i hi => by rw [sI_ro _ 22 _ _ 16 (by omega)]; exact t4 i hi, sI_at _ _ _ _, by omega, fun i hi => by omega⟩
    obtain ⟨q, x', m', n', c1, c2, c3⟩ : ∃ q x' m' n', f_X4_read_l23 kA kB FU 0 0 (sI x 22 np 0) = some (q, x') ∧ (if nI T = 0 then f_X12_plan_l32 (fun (x11 : Int32) (x12 : Int32) (σ13 : St) => (if x12 = (-1) then gd (inb ((sI σ13 0 6 0).1 0 33) 8) (some ((sI (sI (sI σ13 0 6 0) 11 (Int32.toNatClampNeg ((sI σ13 0 6 0).1 0 33)) x11) 0 33 ((sI (sI σ13 0 6 0) 11 (Int32.toNatClampNeg ((sI σ13 0 6 0).1 0 33)) x11).1 0 33 + 1)).1 0 33 - 1, sI (sI (sI σ13 0 6 0) 11 (Int32.toNatClampNeg ((sI σ13 0 6 0).1 0 33)) x11) 0 33 ((sI (sI σ13 0 6 0) 11 (Int32.toNatClampNeg ((sI σ13 0 6 0).1 0 33)) x11).1 0 33 + 1))) else some ((-100) - x12, sI σ13 0 6 0))) FU 0 0 0 0 m else f_X12_plan_l32 (fun (x11 : Int32) (x12 : Int32) (σ13 : St) => (if x12 = (-1) then gd (inb ((sI σ13 0 6 0).1 0 33) 8) (some ((sI (sI (sI σ13 0 6 0) 11 (Int32.toNatClampNeg ((sI σ13 0 6 0).1 0 33)) x11) 0 33 ((sI (sI σ13 0 6 0) 11 (Int32.toNatClampNeg ((sI σ13 0 6 0).1 0 33)) x11).1 0 33 + 1)).1 0 33 - 1, sI (sI (sI σ13 0 6 0) 11 (Int32.toNatClampNeg ((sI σ13 0 6 0).1 0 33)) x11) 0 33 ((sI (sI σ13 0 6 0) 11 (Int32.toNatClampNeg ((sI σ13 0 6 0).1 0 33)) x11).1 0 33 + 1))) else some ((-100) - x12, sI σ13 0 6 0))) FU 0 0 0 (-1) m) = (fun (x11 : Int32) (x12 : Int32) (σ13 : St) => (if x12 = (-1) then gd (inb ((sI σ13 0 6 0).1 0 33) 8) (some ((sI (sI (sI σ13 0 6 0) 11 (Int32.toNatClampNeg ((sI σ13 0 6 0).1 0 33)) x11) 0 33 ((sI (sI σ13 0 6 0) 11 (Int32.toNatClampNeg ((sI σ13 0 6 0).1 0 33)) x11).1 0 33 + 1)).1 0 33 - 1, sI (sI (sI σ13 0 6 0) 11 (Int32.toNatClampNeg ((sI σ13 0 6 0).1 0 33)) x11) 0 33 ((sI (sI σ13 0 6 0) 11 (Int32.toNatClampNeg ((sI σ13 0 6 0).1 0 33)) x11).1 0 33 + 1))) else some ((-100) - x12, sI σ13 0 6 0))) (nI n') q m' ∧ PlQ np (sI x 22 np 0) m x' m' q n' := by
      generalize (fun (x11 : Int32) (x12 : Int32) (σ13 : St) => (if x12 = (-1) then gd (inb ((sI σ13 0 6 0).1 0 33) 8) (some ((sI (sI (sI σ13 0 6 0) 11 (Int32.toNatClampNeg ((sI σ13 0 6 0).1 0 33)) x11) 0 33 ((sI (sI σ13 0 6 0) 11 (Int32.toNatClampNeg ((sI σ13 0 6 0).1 0 33)) x11).1 0 33 + 1)).1 0 33 - 1, sI (sI (sI σ13 0 6 0) 11 (Int32.toNatClampNeg ((sI σ13 0 6 0).1 0 33)) x11) 0 33 ((sI (sI σ13 0 6 0) 11 (Int32.toNatClampNeg ((sI σ13 0 6 0).1 0 33)) x11).1 0 33 + 1))) else some ((-100) - x12, sI σ13 0 6 0))) = KK
      have z : nI 0 = 0 := rfl
      by_cases hT0 : T = 0
      · subst hT0
        rw [if_pos z]
        have k0 : f_X4_kindAt (sI x 22 np 0) (nI 0) = some (-1) := by
          rw [xKindAt (m := m) (T := 0) (by omega) (by omega) hR.1 (fun i hi => by omega)]
          rfl
        refine ⟨nI 0, sI x 22 np 0, m, 0, ?_, ?_, plan_stop hR (by omega)⟩
        · obtain ⟨F, hF⟩ : ∃ F, FU = F + 1 := ⟨4999, rfl⟩
          rw [z] at k0
          rw [hF, f_X4_read_l23, if_neg (by decide), jnE, if_pos rfl, k0, bpE, if_pos rfl, z]
        · obtain ⟨F, hF⟩ : ∃ F, FU = F + 1 := ⟨4999, rfl⟩
          rw [hF, show (0 : Int32) = nI 0 from rfl, l32_stop (by omega)]
      · rw [if_neg (nI_ne0 (by omega) (by omega))]
        obtain ⟨q, x', m', n', c1, c2, c3⟩ := plan_loop (K := KK) t1 hnp 12 FU 0 0 0 (sI x 22 np 0) m (by omega) (by unfold FU; omega) (by omega) (fun _ => by omega) hR
        rw [z] at c1 c2
        exact ⟨q, x', m', n', c1, c2, c3⟩
    obtain ⟨d1, d2, d3, d4, d5, d6⟩ := c3
    have c1' : f_X4_read_l23 (fun (x9 : Int32) (σ10 : St) => if σ10.1 15 1 ≤ x9 then some (-1, sI σ10 20 3 (σ10.1 20 3 + 1)) else some (x9, σ10)) (fun (x12 : Int32) (σ13 : St) => some (x12 + 1, σ13)) FU 0 0 (sI x 22 np 0) = some (q, x') := by
      have ka : kA = (fun (x9 : Int32) (σ10 : St) => if σ10.1 15 1 ≤ x9 then some (-1, sI σ10 20 3 (σ10.1 20 3 + 1)) else some (x9, σ10)) := by
        funext a b; unfold kA; simp only [nmE]
      have kb : kB = (fun (x12 : Int32) (σ13 : St) => some (x12 + 1, σ13)) := rfl
      rw [← ka, ← kb]; exact c1
    rw [c1', c2]
    simp only [bdE]
    have m33 : (sI m' 0 6 0).1 0 33 = nI np := by rw [sI_rne _ 0 6 _ 33 (by omega), d4 0 (by omega)]; exact p3
    simp only [m33, clampN (show np < 1000000 by omega), gdN hnp (show 8 ≤ 1000000 by omega)]
    have m33' : ∀ v, (sI (sI m' 0 6 0) 11 np v).1 0 33 = nI np := fun v => by rw [sI_ro _ 11 _ _ 0 (by omega)]; exact m33
    simp only [m33', sI_at, nI_1, nI_pred]
    have hxo : ∀ k, k ≠ 15 ∧ (k < 20 ∨ 30 < k) → (sI x' 15 1 0).1 k = x.1 k := fun k hk => by rw [sI_ro _ 15 _ _ k (by omega), d1 k (by omega) (by omega) (by omega), sI_ro _ 22 _ _ k (by omega)]
    have hx0 : ∀ j, j ≠ 1000 → (sI x' 15 1 0).1 0 j = x.1 0 j := fun j hj => by rw [hxo 0 (by omega)]
    have hx37 : (sI x' 15 1 0).1 37 4 = x.1 37 4 := by rw [hxo 37 (by omega)]
    have hx2 : (sI x' 15 1 0).2 = x.2 := d2
    have hr19 : (sI x' 15 1 0).2.2.1 19 = x.2.2.1 19 := by rw [hx2]
    have hr31 : (sI x' 15 1 0).2.2.1 31 2 = x.2.2.1 31 2 := by rw [hx2]
    have hl : (sI x' 15 1 0).2.2.2 = x.2.2.2 := by rw [hx2]
    have e20 : (sI x' 15 1 0).1 20 3 = x'.1 20 3 := by rw [sI_ro _ 15 _ _ 20 (by omega)]
    have tape' : ∀ M : St, M.1 0 6 = 0 → ITape (sI x' 15 1 0) M := fun M hM => ⟨0, by omega, sI_at _ _ _ _, hM, fun i hi => by omega⟩
    have oldp : ∀ p, p < np → ∃ n, n ≤ 200 ∧ (sI x' 15 1 0).1 22 p = nI n ∧ m.1 11 p = nI n ∧ ∀ i, i < n → (sI x' 15 1 0).1 (23 + p) i = m'.1 12 (200 * p + i) ∧ rng (m'.1 12 (200 * p + i)) 0 5 := fun p hp => by
      obtain ⟨n, n1, n2, n3, n4⟩ := p4 p hp
      refine ⟨n, n1, by rw [sI_ro _ 15 _ _ 22 (by omega), d3 p (by omega), sI_rne _ 22 _ _ p (by omega)]; exact n2, n3, fun i hi => ?_⟩
      rw [sI_ro _ 15 _ _ (23 + p) (by omega), d1 (23 + p) (by omega) (by omega) (by omega), sI_ro _ 22 _ _ (23 + p) (by omega), d5 _ (by omega)]
      exact n4 i hi
    rcases d6 with ⟨rfl, s1, s2, s3, s4⟩ | ⟨⟨w, w1, rfl⟩, s1⟩
    · simp only [if_true, e20, s1, nI_pred]
      generalize hM : sI (sI (sI m' 0 6 0) 11 np (nI n')) 0 33 (nI (np + 1)) = M
      have hmo : ∀ k, k ≠ 0 ∧ k ≠ 11 ∧ k ≠ 12 → M.1 k = m.1 k := fun k hk => by rw [← hM, sI_ro _ 0 _ _ k (by omega), sI_ro _ 11 _ _ k (by omega), sI_ro _ 0 _ _ k (by omega), d4 k (by omega)]
      have hm0 : ∀ j, j ≠ 6 ∧ j ≠ 33 → M.1 0 j = m.1 0 j := fun j hj => by rw [← hM, sI_rne _ 0 33 _ j (by omega), sI_ro _ 11 _ _ 0 (by omega), sI_rne _ 0 6 _ j (by omega), d4 0 (by omega)]
      have m11 : ∀ j, M.1 11 j = if j = np then nI n' else m.1 11 j := fun j => by
        rw [← hM, sI_ro _ 0 _ _ 11 (by omega)]
        by_cases e : j = np
        · subst e; rw [sI_at, if_pos rfl]
        · rw [sI_rne _ 11 _ _ j e, if_neg e, sI_ro _ 0 _ _ 11 (by omega), d4 11 (by omega)]
      have m12 : M.1 12 = m'.1 12 := by rw [← hM, sI_ro _ 0 _ _ 12 (by omega), sI_ro _ 11 _ _ 12 (by omega), sI_ro _ 0 _ _ 12 (by omega)]
      refine ⟨nI np, _, M, rfl, rfl, nr, tc, h1.cg (fun k a b => hxo k (by omega)) (hm0 11 (by omega)) (fun k a b => hmo k (by omega)), h2.cg (fun k a b => hxo k (by omega)) (hm0 15 (by omega)) (hm0 16 (by omega)) (fun k a b => hmo k (by omega)), h3.cg (hx0 4 (by omega)) (hx0 5 (by omega)) (fun k a b => hxo k (by omega)) (fun j a b => hm0 j (by omega)) (fun k a b => hmo k (by omega)), tape' M ?_, h5.cg (hx0 9 (by omega)) (hx0 10 (by omega)) (fun k a => hxo k (by omega)) hr19 hr31 hl (hm0 3 (by omega)) (hm0 4 (by omega)) (hmo 1 (by omega)) (hmo 2 (by omega)), ?_, h7.cg hx37 (fun k a b => hxo k (by omega)) (hm0 46 (by omega)) (fun k a b => hmo k (by omega)), h8.cg (hxo 56 (by omega)) (hxo 57 (by omega)) (hm0 49 (by omega)) (hmo 20 (by omega)), h9.cg (fun k a b => hxo k (by omega)) (fun k a b => hmo k (by omega))⟩
      · rw [← hM, sI_rne _ 0 33 _ 6 (by omega), sI_ro _ 11 _ _ 0 (by omega), sI_at]
      · refine ⟨np + 1, by omega, by rw [e20]; exact s1, by rw [← hM, sI_at], fun p hp => ?_⟩
        rw [m12, m11]
        by_cases e : p = np
        · subst e
          rw [if_pos rfl, sI_ro _ 15 _ _ 22 (by omega), sI_ro _ 15 _ _ (23 + p) (by omega)]
          exact ⟨n', s3, s2, rfl, s4⟩
        · rw [if_neg e]; exact oldp p (by omega)
    · simp only [if_neg (nI_nem (show w < 1000000 by omega))]
      have hmo : ∀ k, k ≠ 0 ∧ k ≠ 12 → (sI m' 0 6 0).1 k = m.1 k := fun k hk => by rw [sI_ro _ 0 _ _ k (by omega), d4 k (by omega)]
      have hm0 : ∀ j, j ≠ 6 → (sI m' 0 6 0).1 0 j = m.1 0 j := fun j hj => by rw [sI_rne _ 0 6 _ j (by omega), d4 0 (by omega)]
      refine ⟨_, _, _, rfl, rfl, nr, tc, h1.cg (fun k a b => hxo k (by omega)) (hm0 11 (by omega)) (fun k a b => hmo k (by omega)), h2.cg (fun k a b => hxo k (by omega)) (hm0 15 (by omega)) (hm0 16 (by omega)) (fun k a b => hmo k (by omega)), h3.cg (hx0 4 (by omega)) (hx0 5 (by omega)) (fun k a b => hxo k (by omega)) (fun j a b => hm0 j (by omega)) (fun k a b => hmo k (by omega)), tape' _ (sI_at _ _ _ _), h5.cg (hx0 9 (by omega)) (hx0 10 (by omega)) (fun k a => hxo k (by omega)) hr19 hr31 hl (hm0 3 (by omega)) (hm0 4 (by omega)) (hmo 1 (by omega)) (hmo 2 (by omega)), ?_, h7.cg hx37 (fun k a b => hxo k (by omega)) (hm0 46 (by omega)) (fun k a b => hmo k (by omega)), h8.cg (hxo 56 (by omega)) (hxo 57 (by omega)) (hm0 49 (by omega)) (hmo 20 (by omega)), h9.cg (fun k a b => hxo k (by omega)) (fun k a b => hmo k (by omega))⟩
      refine ⟨np, by omega, by rw [e20]; exact s1, by rw [hm0 33 (by omega)]; exact p3, fun p hp => ?_⟩
      rw [hmo 11 (by omega), sI_ro m' 0 _ _ 12 (by omega)]
      exact oldp p hp
