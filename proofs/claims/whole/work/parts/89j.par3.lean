section PAR3
variable {B : Nat → Int32} {n : Nat}
theorem cmpE {m : St} {c : Int32} (hc : c = 20060 ∨ c = 20061) (hb : m.1 0 24 = 0) (ht : MT m c) {t : Nat} {rc : Nat → St → Option (Int32 × St)} (v3 : Int32) : bp (f_X12_isSign m 60) (fun v5 => jn (nm (m.2.1 0 21) (fun v7 => jn (fun (t8 : Int32) => bdv (f_X12_next m) (fun σ10 => bd (rc t σ10) (fun v11 σ12 => (if t8 = 0 then (if v3 = v11 then some (1, σ12) else some (0, σ12)) else (if v11 ≤ v3 then some (0, σ12) else some (1, σ12)))))) (fun (j9 : Int32 → Option (Int32 × St)) => (if v7 = 60 then j9 1 else j9 0)))) (fun (j6 : Option (Int32 × St)) => (if v5 = 0 then bp (f_X12_isSign m 61) (fun v18 => (if v18 = 0 then some (v3, m) else j6)) else j6))) = bdv (f_X12_next m) (fun y => bd (rc t y) (fun w z => some (jv c v3 w, z))) := by
  have ws : ∀ q, q < 1000 → c = nI (20000 + q) → m.2.1 0 21 = Int32.toInt64 (nI q) := by
    intro q hq e
    rcases ht with ⟨k, e'⟩ | ⟨k, _, e'⟩ | ⟨k, w, hw, e', _⟩ | ⟨k, s, t1, t2, e', w⟩ | ⟨k, e'⟩
    · rw [e] at e'; exact absurd e'.symm (n1 _ (by omega))
    · rcases e' with e' | ⟨i, hi, e'⟩
      · rw [e] at e'; exact absurd e'.symm (n2 _ (by omega))
      · rw [e] at e'; have := nI_inj (by omega) (by omega) e'; omega
    · rw [e] at e'; have := nI_inj (by omega) (by omega) e'; omega
    · rw [e] at e'; have := nI_inj (by omega) (by omega) e'
      rw [w, show s = q by omega]
    · rw [e] at e'; exact absurd e'.symm (n2 _ (by omega))
  rcases hc with rfl | rfl
  · have hj : ∀ w, jv 20060 v3 w = if w ≤ v3 then 0 else 1 := fun w => by
      unfold jv
      rw [if_neg (show ¬ (20060 : Int32) = 10009 by decide), if_neg (show ¬ (20060 : Int32) = 20042 by decide), if_neg (show ¬ (20060 : Int32) = 20043 by decide), if_neg (show ¬ (20060 : Int32) = 20045 by decide), if_pos rfl]
    rw [isSignE (S := 60) (C := 20060) (s := 60) rfl rfl (by omega) hb ht, bpE, if_pos rfl, jnE, if_neg ne10, nmE, ws 60 (by omega) rfl, jnI, if_pos (show Int32.toInt64 (nI 60) = 60 from rfl)]
    have key : ∀ (w : Int32) (z : St), (if (1 : Int32) = 0 then (if v3 = w then some ((1 : Int32), z) else some (0, z)) else (if w ≤ v3 then some (0, z) else some (1, z))) = some (jv 20060 v3 w, z) := fun w z => by
      rw [if_neg ne10, hj]
      by_cases a : w ≤ v3
      · rw [if_pos a, if_pos a]
      · rw [if_neg a, if_neg a]
    simp only [key]
  · have hj : ∀ w, jv 20061 v3 w = if v3 = w then 1 else 0 := fun w => by
      unfold jv
      rw [if_neg (show ¬ (20061 : Int32) = 10009 by decide), if_neg (show ¬ (20061 : Int32) = 20042 by decide), if_neg (show ¬ (20061 : Int32) = 20043 by decide), if_neg (show ¬ (20061 : Int32) = 20045 by decide), if_neg (show ¬ (20061 : Int32) = 20060 by decide), if_pos rfl]
    rw [isSignE (S := 60) (C := 20060) (s := 60) rfl rfl (by omega) hb ht, bpE, if_neg (show ¬ (20061 : Int32) = 20060 by decide), jnE, if_pos rfl, isSignE (S := 61) (C := 20061) (s := 61) rfl rfl (by omega) hb ht, bpE, if_pos rfl, if_neg ne10, nmE, ws 61 (by omega) rfl, jnI, if_neg (show ¬ Int32.toInt64 (nI 61) = 60 by decide)]
    have key : ∀ (w : Int32) (z : St), (if v3 = w then some ((1 : Int32), z) else some (0, z)) = some (jv 20061 v3 w, z) := fun w z => by
      rw [hj]
      by_cases a : v3 = w
      · rw [if_pos a, if_pos a]
      · rw [if_neg a, if_neg a]
    simp only [if_true, key]
theorem ls_not {d : Nat} (hn : n ≤ 160) (hB : ∀ i, i < n → ∃ c, c < 256 ∧ B i = nI c) (h2 : LSt B n d 2) (h3 : LSt B n d 3) : LSt B n (d + 1) 3 := by
  intro p o x sz hX hsz ho hd
  have e1 : f_GT (d + 1) 3 x (nI o) = fb_X9_readNot (f_GT d) x (nI o) := rfl
  have e2 : f_GM (d + 1) 3 = fb_X12_not (f_GM d) := rfl
  rw [e1, e2]
  have hpn := hX.2.2.2.2.2.2.2
  have hx4 := hX.2.2.1
  unfold fb_X9_readNot
  rw [nmE, hx4]
  by_cases c1 : (tk B n p).1 = 10010
  · obtain ⟨hn1, hn2⟩ := codeN c1 (by decide) (by decide)
    rw [if_pos c1]
    by_cases c5 : o < 5
    · rw [if_pos (by rw [nI_ltk (by omega), show (5 : Int32).toInt = 5 from rfl]; omega)]
      obtain ⟨x1, a1, a2, a3, a4, a5⟩ := rxNext hn hX hn1
      obtain ⟨ok, x2, p2, sz2, L2, b1, b2, b3, b4, b5, b6, b7⟩ := h3 _ (o + 1) x1 sz a3 (by omega) (by omega) (by omega)
      obtain ⟨x3, sz3, k1, k2, k3, k4⟩ := rxPut b4 10010
      have hp2n := b4.2.2.2.2.2.2.2
      rw [a1, bdvE, nI_1, b1, bdE, k1, bdvE, gd01 b2]
      refine ⟨ok, x3, p2, sz3, L2 ++ [10010], rfl, b2, (a2.trans b3).trans k2, k3, by omega, fun h => ?_, fun j m hj hM hs => ?_⟩
      · obtain ⟨g1, g2, g3, g4, g5⟩ := b6 h
        obtain ⟨q1, q2, q3⟩ := k4 (by omega)
        refine ⟨by simp; omega, by simp; omega, by simp, fun k hk => by rw [q3 k (by omega), g4 k hk, a4], SO.app (g5.cg (fun k hk => q3 k (by omega))) (fun k hk => ?_)⟩
        have : k = 0 := by simp at hk; omega
        subst this
        rw [Nat.add_zero, ← g1, q2]; rfl
      · obtain ⟨m1, d1, d2, d3⟩ := (opensE hn hB hj hpn hM ho hn1 hn2).1 c5
        obtain ⟨w, m2, f1, f2, f3, f4⟩ := b7 j m1 hj d3 (d2.seat hs)
        have hone : fb_X12_not (f_GM d) m = some (if w = 0 then 1 else 0, sI m2 0 23 (m2.1 0 23 - 1)) := by
          unfold fb_X12_not
          rw [isWordE (W := 10631) (C := 10010) (i := 10) (by omega) rfl rfl hM.2.1 hM.2.2.2.1, bpE, if_pos c1, if_neg ne10, d1, bdE, if_neg ne10, f1, bdE, nmE, nmE]
          by_cases w0 : w = 0
          · rw [if_pos w0, if_pos w0]
          · rw [if_neg w0, if_neg w0]
        refine ⟨_, _, hone, (d2.trans f2).trans (FM.sI _ _ ⟨by omega, by omega⟩), fun h => (f3 h).op _, fun h => ?_⟩
        obtain ⟨f5, f6⟩ := f4 h
        rw [d2.env] at f6
        refine ⟨?_, f6.not⟩
        rw [f5.2.2.1, nI_pred]
        exact f5.op o
    · rw [if_neg (by rw [nI_ltk (by omega), show (5 : Int32).toInt = 5 from rfl]; omega)]
      refine ⟨0, x, p, sz, [], rfl, Or.inl rfl, FX.rfl' x, hX, Nat.le_refl _, fun h => absurd h (by decide), fun j m hj hM hs => ?_⟩
      obtain ⟨m1, d1, d2, d3⟩ := (opensE hn hB hj hpn hM ho hn1 hn2).2 c5
      refine ⟨0, m1, ?_, d2, fun _ => d3, fun h => absurd h (by decide)⟩
      unfold fb_X12_not
      rw [isWordE (W := 10631) (C := 10010) (i := 10) (by omega) rfl rfl hM.2.1 hM.2.2.2.1, bpE, if_pos c1, if_neg ne10, d1, bdE, if_pos rfl]
  · rw [if_neg c1]
    obtain ⟨ok, x1, p1, sz1, L1, b1, b2, b3, b4, b5, b6, b7⟩ := h2 p o x sz hX hsz ho (by omega)
    have hp1n := b4.2.2.2.2.2.2.2
    have hx14 := b4.2.2.1
    rw [b1, bdE, nmE, hx14]
    have hmod : ∀ j m v m1, RM B n j m p o → f_GM d 2 m = some (v, m1) → fb_X12_not (f_GM d) m = bp (f_X12_isSign m1 60) (fun v5 => jn (nm (m1.2.1 0 21) (fun v7 => jn (fun (t8 : Int32) => bdv (f_X12_next m1) (fun σ10 => bd (f_GM d 2 σ10) (fun v11 σ12 => (if t8 = 0 then (if v = v11 then some (1, σ12) else some (0, σ12)) else (if v11 ≤ v then some (0, σ12) else some (1, σ12)))))) (fun (j9 : Int32 → Option (Int32 × St)) => (if v7 = 60 then j9 1 else j9 0)))) (fun (j6 : Option (Int32 × St)) => (if v5 = 0 then bp (f_X12_isSign m1 61) (fun v18 => (if v18 = 0 then some (v, m1) else j6)) else j6))) := by
      intro j m v m1 hM hv
      unfold fb_X12_not
      rw [isWordE (W := 10631) (C := 10010) (i := 10) (by omega) rfl rfl hM.2.1 hM.2.2.2.1, bpE, if_neg c1, if_pos rfl, hv, bdE]
    rcases b2 with rfl | rfl
    · rw [if_pos rfl, g00]
      refine ⟨0, x1, p1, sz1, [], rfl, Or.inl rfl, b3, b4, b5, fun h => absurd h (by decide), fun j m hj hM hs => ?_⟩
      obtain ⟨v, m1, f1, f2, f3, f4⟩ := b7 j m hj hM hs
      have hbad := f3 rfl
      refine ⟨v, m1, ?_, f2, fun _ => hbad, fun h => absurd h (by decide)⟩
      rw [hmod j m v m1 hM f1, isSignB _ hbad.1, bpE, jnE, if_pos rfl, isSignB _ hbad.1, bpE, if_pos rfl]
    · rw [if_neg ne10, jnE]
      obtain ⟨g1, g2, g3, g4, g5⟩ := b6 rfl
      by_cases cc : (tk B n p1).1 = 20060 ∨ (tk B n p1).1 = 20061
      · have hoc : opc (tk B n p1).1 := by rcases cc with e | e <;> (rw [e]; unfold opc; decide)
        obtain ⟨x2, a1, a2, a3, a4, a5⟩ := rxNext hn b4 hoc.2.2.2.1
        obtain ⟨ok2, x3, p3, sz3, L3, k1, k2, k3, k4, k5, k6, k7⟩ := h2 _ o x2 sz1 a3 (by omega) ho (by omega)
        obtain ⟨x4, sz4, l1, l2, l3, l4⟩ := rxPut k4 (tk B n p1).1
        have hp3n := k4.2.2.2.2.2.2.2
        have hcls : (if (tk B n p1).1 = 20060 then bdv (f_X9_next x1) (fun σ9 => bd (f_GT d 2 σ9 (nI o)) (fun v10 σ11 => bdv (f_X9_put σ11 (tk B n p1).1) (fun σ12 => gd (v10 = 0 ∨ v10 = 1) (some (v10, σ12))))) else if (tk B n p1).1 = 20061 then bdv (f_X9_next x1) (fun σ9 => bd (f_GT d 2 σ9 (nI o)) (fun v10 σ11 => bdv (f_X9_put σ11 (tk B n p1).1) (fun σ12 => gd (v10 = 0 ∨ v10 = 1) (some (v10, σ12))))) else gd ((1 : Int32) = 0 ∨ (1 : Int32) = 1) (some (1, x1))) = some (ok2, x4) := by
          have hh : bdv (f_X9_next x1) (fun σ9 => bd (f_GT d 2 σ9 (nI o)) (fun v10 σ11 => bdv (f_X9_put σ11 (tk B n p1).1) (fun σ12 => gd (v10 = 0 ∨ v10 = 1) (some (v10, σ12))))) = some (ok2, x4) := by
            rw [a1, bdvE, k1, bdE, l1, bdvE, gd01 k2]
          rw [hh]
          rcases cc with e | e
          · rw [if_pos e]
          · rw [if_neg (by rw [e]; decide), if_pos e]
        rw [hcls]
        refine ⟨ok2, x4, p3, sz4, L1 ++ (L3 ++ [(tk B n p1).1]), rfl, k2, ((b3.trans a2).trans k3).trans l2, l3, by omega, fun h => ?_, fun j m hj hM hs => ?_⟩
        · obtain ⟨q1, q2, q3, q4, q5⟩ := k6 h
          obtain ⟨r1, r2, r3⟩ := l4 (by omega)
          refine ⟨by simp; omega, by simp; omega, by simp; omega, fun k hk => by rw [r3 k (by omega), q4 k (by omega), a4, g4 k hk], SO.app (g5.cg (fun k hk => by rw [r3 k (by omega), q4 k (by omega), a4])) (SO.app ?_ (fun k hk => ?_))⟩
          · rw [← g1]; exact q5.cg (fun k hk => r3 k (by omega))
          · have : k = 0 := by simp at hk; omega
            subst this
            rw [Nat.add_zero, ← g1, ← q1, r2]; rfl
        · obtain ⟨v, m1, f1, f2, f3, f4⟩ := b7 j m hj hM hs
          obtain ⟨f5, f6⟩ := f4 rfl
          obtain ⟨m2, u1, u2, u3⟩ := rmNext hn hB hj hp1n f5 hoc.2.2.2.1 hoc.2.2.2.2
          obtain ⟨w, m3, w1, w2, w3, w4⟩ := k7 j m2 hj u3 (u2.seat (f2.seat hs))
          refine ⟨jv (tk B n p1).1 v w, m3, ?_, (f2.trans u2).trans w2, w3, fun h => ?_⟩
          · rw [hmod j m v m1 hM f1, cmpE cc f5.2.1 f5.2.2.2.1, u1, bdvE, w1, bdE]
          · obtain ⟨w5, w6⟩ := w4 h
            rw [u2.env, f2.env] at w6
            exact ⟨w5, f6.join w6 hoc⟩
      · have cc1 : ¬ (tk B n p1).1 = 20060 := fun e => cc (Or.inl e)
        have cc2 : ¬ (tk B n p1).1 = 20061 := fun e => cc (Or.inr e)
        rw [if_neg cc1, if_neg cc2, g11]
        refine ⟨1, x1, p1, sz1, L1, rfl, Or.inr rfl, b3, b4, b5, b6, fun j m hj hM hs => ?_⟩
        obtain ⟨v, m1, f1, f2, f3, f4⟩ := b7 j m hj hM hs
        obtain ⟨f5, f6⟩ := f4 rfl
        refine ⟨v, m1, ?_, f2, f3, f4⟩
        rw [hmod j m v m1 hM f1, isSignE (S := 60) (C := 20060) (s := 60) rfl rfl (by omega) f5.2.1 f5.2.2.2.1, bpE, if_neg cc1, jnE, if_pos rfl, isSignE (S := 61) (C := 20061) (s := 61) rfl rfl (by omega) f5.2.1 f5.2.2.2.1, bpE, if_neg cc2, if_pos rfl]
/-- all of them -/
theorem ls_none (B : Nat → Int32) (n t : Nat) : LSt B n 0 t := fun p o x sz _ _ _ h => by omega
theorem ls_all (hn : n ≤ 160) (hB : ∀ i, i < n → ∃ c, c < 256 ∧ B i = nI c) : ∀ d, LSt B n d 0 ∧ LSt B n d 1 ∧ LSt B n d 2 ∧ LSt B n d 3 ∧ LSt B n d 4 ∧ LSt B n d 5 := by
  intro d
  induction d with
  | zero => exact ⟨ls_none B n 0, ls_none B n 1, ls_none B n 2, ls_none B n 3, ls_none B n 4, ls_none B n 5⟩
  | succ d ih =>
    obtain ⟨i0, i1, i2, i3, i4, i5⟩ := ih
    exact ⟨ls_one hn hB i0 i5, ls_term hn hB i0, ls_sum hn hB i1, ls_not hn hB i2 i3, ls_both hn hB i3, ls_either hn hB i4⟩
end PAR3
