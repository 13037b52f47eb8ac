/-- how much sides wag: either way -/
def wg (dr : Nat → Int32) (s : Int32) : Nat → Int
  | 0 => 0
  | k + 1 => wg dr s k + (if ((s >>> (nI k &&& 31)) &&& 1) = 0 then (dr k).toInt * ((k : Int) + 1) else - ((dr k).toInt * ((k : Int) + 1)))
theorem wg_rng {dr : Nat → Int32} {s : Int32} : ∀ k, k ≤ 8 → (∀ q, q < k → rng (dr q) 0 2808) → -(22464 * (k : Int)) ≤ wg dr s k ∧ wg dr s k ≤ 22464 * k := by
  intro k
  induction k with
  | zero => intro _ _; simp [wg]
  | succ k ih =>
    intro hk h
    obtain ⟨i1, i2⟩ := ih (by omega) (fun q hq => h q (by omega))
    obtain ⟨m1, m2⟩ := mom_rng (h k (by omega)).1 (h k (by omega)).2 (show k < 8 by omega)
    unfold wg
    by_cases c : ((s >>> (nI k &&& 31)) &&& 1) = 0
    · rw [if_pos c]; constructor <;> omega
    · rw [if_neg c]; constructor <;> omega
theorem wagsX {x : St} {s : Int32} (hd : ∀ q, q < 8 → rng (x.1 33 q) 0 2808) : ∀ (d f k : Nat) (A : Int64), k + d = 8 → d < f → A.toInt = wg (x.1 33) s k → ∃ A', (∀ K : Int64 → Option Int64, f_X1_wagsBy_l5 x s K f A (nI k) = K A') ∧ A'.toInt = wg (x.1 33) s 8 := by
  have e8 : (8 : Int32).toInt = 8 := rfl
  intro d
  induction d with
  | zero =>
    intro f k A hk hf hA
    obtain ⟨f, rfl⟩ : ∃ g, f = g + 1 := ⟨f - 1, by omega⟩
    have : (8 : Int32) ≤ nI k := by rw [le_nI (by omega)]; omega
    exact ⟨A, fun K => by rw [f_X1_wagsBy_l5, if_pos this], by rw [hA, show k = 8 by omega]⟩
  | succ d ih =>
    intro f k A hk hf hA
    obtain ⟨f, rfl⟩ : ∃ g, f = g + 1 := ⟨f - 1, by omega⟩
    have hn8 : ¬ (8 : Int32) ≤ nI k := by rw [le_nI (by omega)]; omega
    obtain ⟨b1, b2⟩ := wg_rng (dr := x.1 33) (s := s) k (by omega) (fun q hq => hd q (by omega))
    obtain ⟨b3, b4⟩ := mom_rng (hd k (by omega)).1 (hd k (by omega)).2 (show k < 8 by omega)
    have hk1 : (nI k + 1).toInt = (k : Int) + 1 := by rw [nI_1, nI_rng (by omega)]; omega
    have hmom : (x.1 33 k * (nI k + 1)).toInt = (x.1 33 k).toInt * ((k : Int) + 1) := by rw [mul32 (by rw [hk1]; omega), hk1]
    have hneg : (-(x.1 33 k * (nI k + 1))).toInt = -((x.1 33 k).toInt * ((k : Int) + 1)) := by rw [neg32 (by rw [hmom]; omega), hmom]
    have hw : wg (x.1 33) s (k + 1) = wg (x.1 33) s k + (if ((s >>> (nI k &&& 31)) &&& 1) = 0 then (x.1 33 k).toInt * ((k : Int) + 1) else - ((x.1 33 k).toInt * ((k : Int) + 1))) := rfl
    by_cases c : ((s >>> (nI k &&& 31)) &&& 1) = 0
    · rw [if_pos c] at hw
      obtain ⟨A', i1, i2⟩ := ih f (k + 1) (A + Int32.toInt64 (x.1 33 k * (nI k + 1))) (by omega) (by omega) (by rw [add64 (by rw [i2l_toInt, hmom, hA]; omega), i2l_toInt, hmom, hA, hw])
      refine ⟨A', fun K => ?_, i2⟩
      rw [← i1 K, f_X1_wagsBy_l5, if_neg hn8, gdN (by omega) (by omega), nmE, clampN (by omega), nmE, jnI, if_pos c, nmE, ← nI_1]
    · rw [if_neg c] at hw
      obtain ⟨A', i1, i2⟩ := ih f (k + 1) (A + Int32.toInt64 (-(x.1 33 k * (nI k + 1)))) (by omega) (by omega) (by rw [add64 (by rw [i2l_toInt, hneg, hA]; omega), i2l_toInt, hneg, hA, hw])
      refine ⟨A', fun K => ?_, i2⟩
      rw [← i1 K, f_X1_wagsBy_l5, if_neg hn8, gdN (by omega) (by omega), nmE, clampN (by omega), nmE, jnI, if_neg c, nmE, ← nI_1]
theorem wagsM {m : St} {dr : Nat → Int32} {s : Int32} (hm : ∀ q, q < 8 → m.2.1 14 q = Int32.toInt64 (dr q)) (hd : ∀ q, q < 8 → rng (dr q) 0 2808) : ∀ (d f k : Nat) (A : Int64), k + d = 8 → d < f → A.toInt = wg dr s k → ∃ A', (∀ K : Int64 → Option Int64, f_X12_wagsBy_l5 m s K f A (nI k) = K A') ∧ A'.toInt = wg dr s 8 := by
  have e8 : (8 : Int32).toInt = 8 := rfl
  have l1 : (1 : Int64).toInt = 1 := rfl
  have lm : (-1 : Int64).toInt = -1 := rfl
  intro d
  induction d with
  | zero =>
    intro f k A hk hf hA
    obtain ⟨f, rfl⟩ : ∃ g, f = g + 1 := ⟨f - 1, by omega⟩
    have : (8 : Int32) ≤ nI k := by rw [le_nI (by omega)]; omega
    exact ⟨A, fun K => by rw [f_X12_wagsBy_l5, if_pos this], by rw [hA, show k = 8 by omega]⟩
  | succ d ih =>
    intro f k A hk hf hA
    obtain ⟨f, rfl⟩ : ∃ g, f = g + 1 := ⟨f - 1, by omega⟩
    have hn8 : ¬ (8 : Int32) ≤ nI k := by rw [le_nI (by omega)]; omega
    obtain ⟨b1, b2⟩ := wg_rng (dr := dr) (s := s) k (by omega) (fun q hq => hd q (by omega))
    have hdk := hd k (by omega)
    unfold rng at hdk
    obtain ⟨b3, b4⟩ := mom_rng hdk.1 hdk.2 (show k < 8 by omega)
    have b5 : (-((dr k).toInt)) * ((k : Int) + 1) = -((dr k).toInt * ((k : Int) + 1)) := Int.neg_mul _ _
    have hk1 : (nI k + 1).toInt = (k : Int) + 1 := by rw [nI_1, nI_rng (by omega)]; omega
    have hw : wg dr s (k + 1) = wg dr s k + (if ((s >>> (nI k &&& 31)) &&& 1) = 0 then (dr k).toInt * ((k : Int) + 1) else - ((dr k).toInt * ((k : Int) + 1))) := rfl
    have h1 : ((1 : Int64) * Int32.toInt64 (dr k)).toInt = (dr k).toInt := by rw [mul64 (by rw [l1, i2l_toInt]; omega), l1, i2l_toInt]; omega
    have h2 : ((-1 : Int64) * Int32.toInt64 (dr k)).toInt = -(dr k).toInt := by rw [mul64 (by rw [lm, i2l_toInt]; omega), lm, i2l_toInt]; omega
    have h3 : ((1 : Int64) * Int32.toInt64 (dr k) * Int32.toInt64 (nI k + 1)).toInt = (dr k).toInt * ((k : Int) + 1) := by rw [mul64 (by rw [h1, i2l_toInt, hk1]; omega), h1, i2l_toInt, hk1]
    have h4 : ((-1 : Int64) * Int32.toInt64 (dr k) * Int32.toInt64 (nI k + 1)).toInt = -((dr k).toInt * ((k : Int) + 1)) := by rw [mul64 (by rw [h2, i2l_toInt, hk1]; omega), h2, i2l_toInt, hk1, b5]
    by_cases c : ((s >>> (nI k &&& 31)) &&& 1) = 0
    · rw [if_pos c] at hw
      obtain ⟨A', i1, i2⟩ := ih f (k + 1) (A + (1 : Int64) * Int32.toInt64 (dr k) * Int32.toInt64 (nI k + 1)) (by omega) (by omega) (by rw [add64 (by rw [h3, hA]; omega), h3, hA, hw])
      refine ⟨A', fun K => ?_, i2⟩
      rw [← i1 K, f_X12_wagsBy_l5, if_neg hn8, jnI, if_pos c, gdN (by omega) (by omega), nmE, clampN (by omega), hm k (by omega), nmE, ← nI_1]
    · rw [if_neg c] at hw
      obtain ⟨A', i1, i2⟩ := ih f (k + 1) (A + (-1 : Int64) * Int32.toInt64 (dr k) * Int32.toInt64 (nI k + 1)) (by omega) (by omega) (by rw [add64 (by rw [h4, hA]; omega), h4, hA, hw])
      refine ⟨A', fun K => ?_, i2⟩
      rw [← i1 K, f_X12_wagsBy_l5, if_neg hn8, jnI, if_neg c, gdN (by omega) (by omega), nmE, clampN (by omega), hm k (by omega), nmE, ← nI_1]
theorem abs64 {a b : Int64} (h : a.toInt = b.toInt) (hb : -1000000000 ≤ b.toInt ∧ b.toInt ≤ 1000000000) : (if 0 < a then a else -a) = (if 0 ≤ b then b else -b) := by
  have l0 : (0 : Int64).toInt = 0 := rfl
  have hab : a = b := eq64.mpr h
  subst hab
  by_cases c : 0 < a
  · rw [if_pos c, if_pos (by rw [le64]; rw [lt64] at c; omega)]
  · rw [if_neg c]
    by_cases c2 : 0 ≤ a
    · rw [if_pos c2, eq64, neg64 (by omega)]; rw [lt64] at c; rw [le64] at c2; omega
    · rw [if_neg c2]
theorem wags_eq {x m : St} (hm : ∀ q, q < 8 → m.2.1 14 q = Int32.toInt64 (x.1 33 q) ∧ rng (x.1 33 q) 0 2808) (s : Int32) : ∃ w, f_X1_wagsBy x s = some w ∧ f_X12_wagsBy m s = some w := by
  obtain ⟨A, a1, a2⟩ := wagsX (x := x) (s := s) (fun q hq => (hm q hq).2) 8 FU 0 0 (by omega) (by decide) (by simp [wg])
  obtain ⟨B, b1, b2⟩ := wagsM (m := m) (dr := x.1 33) (s := s) (fun q hq => (hm q hq).1) (fun q hq => (hm q hq).2) 8 FU 0 0 (by omega) (by decide) (by simp [wg])
  have hr := wg_rng (dr := x.1 33) (s := s) 8 (by omega) (fun q hq => (hm q hq).2)
  rw [show nI 0 = 0 from rfl] at a1 b1
  refine ⟨_, by rw [f_X1_wagsBy, a1, nmE], ?_⟩
  rw [f_X12_wagsBy, b1, abs64 (a2.trans b2.symm) (by omega)]
  by_cases c : 0 ≤ B
  · rw [if_pos c, if_pos c]
  · rw [if_neg c, if_neg c]
/-- the sides as bits -/
def ownB (b : Nat → Bool) : Nat → Int32
  | 0 => 0
  | k + 1 => ownB b k ||| ((if b k then 1 else 0) <<< (nI k &&& 31))
theorem own_l {m : St} {b : Nat → Bool} (hb : ∀ k, k < 8 → m.1 9 k = if b k then 1 else 0) : ∀ (d f k : Nat), k + d = 8 → d < f → ∀ K : Int32 → Option (Int64 × St), f_X12_order_l29 m K f (ownB b k) (nI k) = K (ownB b 8) := by
  have e8 : (8 : Int32).toInt = 8 := rfl
  intro d
  induction d with
  | zero =>
    intro f k hk hf K
    obtain ⟨f, rfl⟩ : ∃ g, f = g + 1 := ⟨f - 1, by omega⟩
    have : (8 : Int32) ≤ nI k := by rw [le_nI (by omega)]; omega
    rw [f_X12_order_l29, if_pos this, show k = 8 by omega]
  | succ d ih =>
    intro f k hk hf K
    obtain ⟨f, rfl⟩ : ∃ g, f = g + 1 := ⟨f - 1, by omega⟩
    have hn8 : ¬ (8 : Int32) ≤ nI k := by rw [le_nI (by omega)]; omega
    rw [f_X12_order_l29, if_neg hn8, gdN (by omega) (by omega), nmE, clampN (by omega), nmE, hb k (by omega), nI_1]
    exact ih f (k + 1) (by omega) (by omega) K
theorem own_tab : ∀ b0 b1 b2 b3 b4 b5 b6 b7 : Bool, ∀ k, k < 8 → (((ownB (fun k => [b0, b1, b2, b3, b4, b5, b6, b7].getD k false) 8 >>> (nI k &&& 31)) &&& 1) = 0 ↔ [b0, b1, b2, b3, b4, b5, b6, b7].getD k false = false) := by decide +kernel
theorem ownB_cg {b b' : Nat → Bool} : ∀ k, (∀ q, q < k → b q = b' q) → ownB b k = ownB b' k := by
  intro k
  induction k with
  | zero => intro _; rfl
  | succ k ih =>
    intro h
    unfold ownB
    rw [ih (fun q hq => h q (by omega)), h k (by omega)]
theorem own_bits (b : Nat → Bool) (k : Nat) (hk : k < 8) : ((ownB b 8 >>> (nI k &&& 31)) &&& 1) = 0 ↔ b k = false := by
  have e : ∀ q, q < 8 → b q = [b 0, b 1, b 2, b 3, b 4, b 5, b 6, b 7].getD q false := fun q hq => by
    match q, hq with
    | 0, _ => rfl
    | 1, _ => rfl
    | 2, _ => rfl
    | 3, _ => rfl
    | 4, _ => rfl
    | 5, _ => rfl
    | 6, _ => rfl
    | 7, _ => rfl
  rw [ownB_cg 8 e, e k hk]
  exact own_tab _ _ _ _ _ _ _ _ k hk
theorem bits_tab : ∀ s, s < 256 → f_J6_bitCount_0f7a4 (nI s) = f_X12_bitsOf (nI s) := by decide +kernel
theorem bits_15 : f_X12_bitsOf (nI 15) = some 4 := by decide +kernel
theorem bits_some : ∀ s, s < 256 → (f_X12_bitsOf (nI s)).isSome = true := by decide +kernel
theorem order_l {x m : St} (hm : ∀ q, q < 8 → m.2.1 14 q = Int32.toInt64 (x.1 33 q) ∧ rng (x.1 33 q) 0 2808) : ∀ (d f s : Nat) (bst : Int32) (lst : Int64), s + d = 256 → d < f → (bst = -1 ∨ f_X12_wagsBy m bst = some lst) → (15 < s → bst ≠ -1) → ∃ bst' lst', (∀ K : Int32 → Int64 → Option (Int64 × St), f_X11_order_l60 x K f bst lst (nI s) = K bst' lst') ∧ (∀ K : Int32 → Option (Int64 × St), f_X12_order_l68 m K f bst (nI s) = K bst') ∧ f_X12_wagsBy m bst' = some lst' := by
  have e8 : (256 : Int32).toInt = 256 := rfl
  intro d
  induction d with
  | zero =>
    intro f s bst lst hs hf h1 h2
    obtain ⟨f, rfl⟩ : ∃ g, f = g + 1 := ⟨f - 1, by omega⟩
    have : (256 : Int32) ≤ nI s := by rw [le_nI (by omega)]; omega
    refine ⟨bst, lst, fun K => by rw [f_X11_order_l60, if_pos this], fun K => by rw [f_X12_order_l68, if_pos this], ?_⟩
    rcases h1 with h | h
    · exact absurd h (h2 (by omega))
    · exact h
  | succ d ih =>
    intro f s bst lst hs hf h1 h2
    obtain ⟨f, rfl⟩ : ∃ g, f = g + 1 := ⟨f - 1, by omega⟩
    have hn : ¬ (256 : Int32) ≤ nI s := by rw [le_nI (by omega)]; omega
    obtain ⟨bc, hbc⟩ := Option.isSome_iff_exists.mp (bits_some s (by omega))
    have hbx := bits_tab s (by omega)
    rw [hbc] at hbx
    obtain ⟨w, w1, w2⟩ := wags_eq hm (nI s)
    have hns : nI s ≠ -1 := nI_nem (by omega)
    by_cases c4 : bc = 4
    · by_cases cb : bst = -1
      · obtain ⟨b', l', i1, i2, i3⟩ := ih f (s + 1) (nI s) w (by omega) (by omega) (Or.inr w2) (fun _ => hns)
        refine ⟨b', l', fun K => ?_, fun K => ?_, i3⟩
        · rw [← i1 K, f_X11_order_l60, if_neg hn, hbx, bpE, jnE, if_pos c4, w1, bpE, jnE, if_pos cb, nI_1]
        · rw [← i2 K, f_X12_order_l68, if_neg hn, hbc, bpE, jnE, if_pos c4, jnE, if_pos cb, nI_1]
      · have hl : f_X12_wagsBy m bst = some lst := h1.resolve_left cb
        by_cases cw : lst ≤ w
        · obtain ⟨b', l', i1, i2, i3⟩ := ih f (s + 1) bst lst (by omega) (by omega) (Or.inr hl) (fun _ => cb)
          refine ⟨b', l', fun K => ?_, fun K => ?_, i3⟩
          · rw [← i1 K, f_X11_order_l60, if_neg hn, hbx, bpE, jnE, if_pos c4, w1, bpE, jnE, if_neg cb, if_pos cw, nI_1]
          · rw [← i2 K, f_X12_order_l68, if_neg hn, hbc, bpE, jnE, if_pos c4, jnE, if_neg cb, w2, bpE, hl, bpE, if_pos cw, nI_1]
        · obtain ⟨b', l', i1, i2, i3⟩ := ih f (s + 1) (nI s) w (by omega) (by omega) (Or.inr w2) (fun _ => hns)
          refine ⟨b', l', fun K => ?_, fun K => ?_, i3⟩
          · rw [← i1 K, f_X11_order_l60, if_neg hn, hbx, bpE, jnE, if_pos c4, w1, bpE, jnE, if_neg cb, if_neg cw, nI_1]
          · rw [← i2 K, f_X12_order_l68, if_neg hn, hbc, bpE, jnE, if_pos c4, jnE, if_neg cb, w2, bpE, hl, bpE, if_neg cw, nI_1]
    · have h15 : s ≠ 15 := fun e => by
        subst e
        rw [bits_15] at hbc
        exact c4 (Option.some.inj hbc).symm
      obtain ⟨b', l', i1, i2, i3⟩ := ih f (s + 1) bst lst (by omega) (by omega) h1 (fun h => h2 (by omega))
      refine ⟨b', l', fun K => ?_, fun K => ?_, i3⟩
      · rw [← i1 K, f_X11_order_l60, if_neg hn, hbx, bpE, jnE, if_neg c4, nI_1]
      · rw [← i2 K, f_X12_order_l68, if_neg hn, hbc, bpE, jnE, if_neg c4, nI_1]
theorem tS_wg {s dr : Nat → Int32} {own : Int32} : ∀ k, k ≤ 8 → (∀ q, q < 8 → (((own >>> (nI q &&& 31)) &&& 1) = 0 ↔ s q = 0)) → tS s dr k = wg dr own k := by
  intro k
  induction k with
  | zero => intro _ _; rfl
  | succ k ih =>
    intro hk h
    unfold tS wg
    rw [ih (by omega) h]
    by_cases c : s k = 0
    · rw [if_pos c, if_pos ((h k (by omega)).mpr c)]
    · rw [if_neg c, if_neg (fun e => c ((h k (by omega)).mp e))]
theorem p_order : P_order (InvP PAt) := by
  intro nc x m w hI
  obtain ⟨nr, tc, hA⟩ := id hI
  have e0 : (0 : Int32).toInt = 0 := rfl
  have e2 : (2 : Int32).toInt = 2 := rfl
  have l0 : (0 : Int64).toInt = 0 := rfl
  have l2 : (2 : Int64).toInt = 2 := rfl
  unfold f_X11_order f_X12_order
  rw [w_in, m_in, e0, e2, l0, l2]
  simp only [bpE]
  by_cases hw : 0 ≤ w.toInt ∧ w.toInt ≤ 2
  · obtain ⟨rid, a1, a2, a3, a4, a5, a6⟩ := ruleOf hA
    obtain ⟨x1, m1, b1, b2, b3, b4, b5, b6⟩ := start_row hA a1 a4
    obtain ⟨x', m', q1, q2, q3, q4, q5, q6⟩ := pull_once (κ := 0) b3 b4 (by omega)
    have q6' := q6 b6
    have hF : FRw tc x m x' m' := b5.trans (FRw.of q3)
    have hRS := q3.rs b3
    have hside := hRS.2.1
    obtain ⟨bb, hbb⟩ : ∃ bb : Nat → Bool, ∀ k, k < 8 → m'.1 9 k = if bb k then 1 else 0 := ⟨fun k => decide (m'.1 9 k = 1), fun k hk => by
      rcases (hside k hk).2 with e | e
      · simp [e]
      · simp [e]⟩
    have hown := own_l hbb 8 FU 0 (by omega) (by decide)
    rw [show nI 0 = 0 from rfl, show ownB bb 0 = 0 from rfl] at hown
    rw [iz_pos hw, b2]
    simp only [if_neg ne10, nmE, a3, gdN a2 (show 6 ≤ 1000000 by omega), clampN (show rid < 1000000 by omega), a5, moE, gd_pos a6, b1, bdvE, q1, q2, hown]
    by_cases w2 : w = 2
    · rw [if_pos w2, if_pos w2]
      obtain ⟨B, c1, c2⟩ := wagsM (m := m') (dr := x'.1 33) (s := ownB bb 8) (fun q hq => (q5 q hq).1) (fun q hq => (q5 q hq).2) 8 FU 0 0 (by omega) (by decide) (by simp [wg])
      rw [show nI 0 = 0 from rfl] at c1
      have hr := wg_rng (dr := x'.1 33) (s := ownB bb 8) 8 (by omega) (fun q hq => (q5 q hq).2)
      have h9 : m'.1 9 = m1.1 9 := q3.2.2.2.1 9 (by omega) (by omega)
      have ht : (x'.2.1 31 12).toInt = B.toInt := by
        rw [q4.2.2.2.2.1, q6', c2, ← h9]
        exact tS_wg 8 (by omega) (fun q hq => by
          rw [own_bits bb q hq, hbb q hq]
          cases bb q <;> decide)
      have hab := abs64 ht (by omega)
      refine ⟨_, x', m', rfl, ?_, nr, tc, hF.a9 hA⟩
      rw [f_X12_wagsBy, c1, hab]
      by_cases c : 0 ≤ B
      · rw [if_pos c, if_pos c]; rfl
      · rw [if_neg c, if_neg c]; rfl
    · rw [if_neg w2, if_neg w2]
      obtain ⟨b', l', i1, i2, i3⟩ := order_l q5 256 FU 0 (-1) 0 (by omega) (by decide) (Or.inl rfl) (by omega)
      rw [show nI 0 = 0 from rfl] at i1 i2
      rw [i1, i2]
      by_cases w0 : w = 0
      · rw [if_pos w0, if_pos w0]; exact ⟨_, x', m', rfl, rfl, nr, tc, hF.a9 hA⟩
      · rw [if_neg w0, if_neg w0, i3, bpE]; exact ⟨_, x', m', rfl, rfl, nr, tc, hF.a9 hA⟩
  · rw [iz_neg hw]
    exact ⟨_, x, m, rfl, rfl, hI⟩
