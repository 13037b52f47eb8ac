section PAR2
variable {B : Nat → Int32} {n : Nat}
theorem RM.op {j p o : Nat} {m : St} (h : RM B n j m p o) (o' : Nat) : RM B n j (sI m 0 23 (nI o')) p o' := by
  obtain ⟨a1, a2, a3, a4, a5, a6⟩ := h
  refine ⟨a1.cg (sI_rne _ 0 _ _ 17 (by omega)) (sI_rne _ 0 _ _ 18 (by omega)) (sI_ro _ 0 _ _ 1 (by omega)), ?_, sI_at _ _ _ _, ?_, ?_, fun h1 h2 => ?_⟩
  · rw [sI_rne _ 0 _ _ 24 (by omega)]; exact a2
  · unfold MT at a4 ⊢
    rw [sI_rne _ 0 _ _ 19 (by omega), sI_2]; exact a4
  · rw [sI_rne _ 0 _ _ 20 (by omega)]; exact a5
  · rw [sI_rne _ 0 _ _ 22 (by omega)]; exact a6 h1 h2
theorem Bad.op {p : Nat} {m : St} (h : Bad B n m p) (v : Int32) : Bad B n (sI m 0 23 v) p := FM.bad h (sI_rne _ 0 _ _ 24 (by omega)) (sI_rne _ 0 _ _ 25 (by omega))
theorem opensE {j p o : Nat} {m : St} (hn : n ≤ 160) (hB : ∀ i, i < n → ∃ c, c < 256 ∧ B i = nI c) (hj : j < 6) (hp : p ≤ n) (h : RM B n j m p o) (ho : o ≤ 5) (h1 : (tk B n p).1 ≠ -1) (h2 : (tk B n p).1 ≠ -2) : (o < 5 → ∃ m', f_X12_opens m = some (1, m') ∧ FM m m' ∧ RM B n j m' (tk B n p).2.2 (o + 1)) ∧ (¬ o < 5 → ∃ m', f_X12_opens m = some (0, m') ∧ FM m m' ∧ Bad B n m' p) := by
  have h3 := h.2.2.1
  unfold f_X12_opens
  rw [nmE, h3]
  constructor
  · intro c
    have hne : ¬ nI o = 5 := fun e => by have := nI_inj (a := o) (b := 5) (by omega) (by omega) e; omega
    obtain ⟨m', q1, q2, q3⟩ := rmNext hn hB hj hp (h.op (o + 1)) h1 h2
    rw [if_neg hne, nmE, nmE, nI_1, q1, bdvE]
    exact ⟨m', rfl, (FM.sI m _ ⟨by omega, by omega⟩).trans q2, q3⟩
  · intro c
    have he : nI o = 5 := by rw [show o = 5 by omega]; rfl
    obtain ⟨m', q1, q2, q3, _⟩ := failE h
    rw [if_pos he, q1, bdvE]
    exact ⟨m', rfl, q2, q3⟩
theorem nameE {m : St} {code : Int32} (hb : m.1 0 24 = 0) (h : MT m code) (hs : SeatOk m) : f_X12_name m = if code = 10000 then some (eM m 0, m) else if code = 10001 then some (eM m 1, m) else if code = 10002 then some (eM m 2, m) else if code = 10003 then some (eM m 3, m) else if code = 10004 then some (eM m 4, m) else if code = 10005 then some (eM m 5, m) else bdv (f_X12_fail m) (fun σ13 => some (0, σ13)) := by
  obtain ⟨k, hk, e⟩ := hs
  unfold f_X12_name
  rw [isWordE (W := 3497099) (C := 10000) (i := 0) (by omega) rfl rfl hb h, bpE]
  by_cases c0 : code = 10000
  · rw [if_pos c0, if_neg ne10, if_pos c0, nmE]; rfl
  rw [if_neg c0, if_pos rfl, if_neg c0, isWordE (W := 10502465) (C := 10001) (i := 1) (by omega) rfl rfl hb h, bpE]
  by_cases c1 : code = 10001
  · rw [if_pos c1, if_neg ne10, if_pos c1, nmE]; rfl
  rw [if_neg c1, if_pos rfl, if_neg c1, isWordE (W := 377669) (C := 10002) (i := 2) (by omega) rfl rfl hb h, bpE]
  by_cases c2 : code = 10002
  · rw [if_pos c2, if_neg ne10, if_pos c2, nmE]; rfl
  rw [if_neg c2, if_pos rfl, if_neg c2, isWordE (W := 141471) (C := 10003) (i := 3) (by omega) rfl rfl hb h, bpE]
  by_cases c3 : code = 10003
  · rw [if_pos c3, if_neg ne10, if_pos c3, nmE, e, gdN hk (by omega), nmE]
    show some (m.1 10 (nI k).toNatClampNeg, m) = some (m.1 10 (m.1 0 28).toNatClampNeg, m)
    rw [e]
  rw [if_neg c3, if_pos rfl, if_neg c3, isWordE (W := 10416091) (C := 10004) (i := 4) (by omega) rfl rfl hb h, bpE]
  by_cases c4 : code = 10004
  · rw [if_pos c4, if_neg ne10, if_pos c4, nmE]; rfl
  rw [if_neg c4, if_pos rfl, if_neg c4, isWordE (W := 283623584) (C := 10005) (i := 5) (by omega) rfl rfl hb h, bpE]
  by_cases c5 : code = 10005
  · rw [if_pos c5, if_neg ne10, if_pos c5, nmE]; rfl
  rw [if_neg c5, if_pos rfl, if_neg c5]
theorem one_fail {j p o : Nat} {m : St} {rc : Nat → St → Option (Int32 × St)} (h : RM B n j m p o) (hs : SeatOk m) (h1 : ¬ (0 ≤ (tk B n p).1.toInt ∧ (tk B n p).1.toInt < 10006)) (h2 : (tk B n p).1 ≠ 20045) (h3 : (tk B n p).1 ≠ 20040) : ∃ v m', fb_X12_one rc m = some (v, m') ∧ FM m m' ∧ Bad B n m' p := by
  obtain ⟨m', q1, q2, q3, _⟩ := failE h
  obtain ⟨a1, a2, a3, a4, a5, a6⟩ := id h
  have hname : f_X12_name m = some (0, m') := by
    have nc : ∀ q : Nat, q < 10006 → (tk B n p).1 ≠ nI q := fun q hq e => h1 (by rw [e, nI_rng (by omega)]; omega)
    rw [nameE a2 a4 hs, if_neg (show ¬ (tk B n p).1 = 10000 from nc 10000 (by omega)), if_neg (show ¬ (tk B n p).1 = 10001 from nc 10001 (by omega)), if_neg (show ¬ (tk B n p).1 = 10002 from nc 10002 (by omega)), if_neg (show ¬ (tk B n p).1 = 10003 from nc 10003 (by omega)), if_neg (show ¬ (tk B n p).1 = 10004 from nc 10004 (by omega)), if_neg (show ¬ (tk B n p).1 = 10005 from nc 10005 (by omega)), q1, bdvE]
  have hk2 : ¬ m.1 0 19 = 2 := fun e => by
    rcases a4 with ⟨k, _⟩ | ⟨k, _⟩ | ⟨k, v, hv, ev, _⟩ | ⟨k, _⟩ | ⟨k, _⟩
    · rw [e] at k; exact absurd k (by decide)
    · rw [e] at k; exact absurd k (by decide)
    · exact h1 (by rw [ev, nI_rng (by omega)]; omega)
    · rw [e] at k; exact absurd k (by decide)
    · rw [e] at k; exact absurd k (by decide)
  refine ⟨0, m', ?_, q2, q3⟩
  unfold fb_X12_one
  rw [isSignE (S := 45) (C := 20045) (s := 45) rfl rfl (by omega) a2 a4, bpE, if_neg h2, if_pos rfl, isSignE (S := 40) (C := 20040) (s := 40) rfl rfl (by omega) a2 a4, bpE, if_neg h3, if_pos rfl, nmE, a2, jnE, if_pos rfl, nmE, if_neg hk2, nmE, jnE, if_pos rfl, nmE, q1, bdvE, hname, bdE, nmE, q3.1, if_neg ne10, ite_self]
theorem Ev.one {e : Nat → Int32} {c v : Int32} (h : 0 ≤ c.toInt ∧ c.toInt < 10006) (hv : v = if 10000 ≤ c.toInt then e (c.toInt - 10000).toNat else c) : Ev e [c] v := by
  intro last stk
  show est e (last, stk) c = _
  unfold est
  rw [if_pos h, ← hv]
theorem Ev.neg {e : Nat → Int32} {L : List Int32} {v : Int32} (h : Ev e L v) : Ev e (L ++ [30000]) (-v) := by
  intro last stk
  rw [List.foldl_append, h]
  show est e (v, last :: stk) 30000 = _
  unfold est
  rw [if_neg (by decide), if_pos rfl]
theorem Ev.not {e : Nat → Int32} {L : List Int32} {v : Int32} (h : Ev e L v) : Ev e (L ++ [10010]) (if v = 0 then 1 else 0) := by
  intro last stk
  rw [List.foldl_append, h]
  show est e (v, last :: stk) 10010 = _
  unfold est
  rw [if_neg (by decide), if_neg (by decide), if_pos rfl]
theorem codeN {p : Nat} {c : Int32} (h : (tk B n p).1 = c) (h1 : c ≠ -1) (h2 : c ≠ -2) : (tk B n p).1 ≠ -1 ∧ (tk B n p).1 ≠ -2 := by rw [h]; exact ⟨h1, h2⟩
theorem ls_one {d : Nat} (hn : n ≤ 160) (hB : ∀ i, i < n → ∃ c, c < 256 ∧ B i = nI c) (h0 : LSt B n d 0) (h5 : LSt B n d 5) : LSt B n (d + 1) 0 := by
  intro p o x sz hX hsz ho hd
  have e1 : f_GT (d + 1) 0 x (nI o) = fb_X9_readOne (f_GT d) x (nI o) := rfl
  have e2 : f_GM (d + 1) 0 = fb_X12_one (f_GM d) := rfl
  rw [e1, e2]
  have hpn := hX.2.2.2.2.2.2.2
  have hx4 := hX.2.2.1
  unfold fb_X9_readOne
  rw [nmE, hx4, xOper, bpE]
  by_cases c1 : 0 ≤ (tk B n p).1.toInt ∧ (tk B n p).1.toInt < 10006
  · -- a number, a name
    have hn1 : (tk B n p).1 ≠ -1 := fun e => by rw [e, show (-1 : Int32).toInt = -1 from rfl] at c1; omega
    have hn2 : (tk B n p).1 ≠ -2 := fun e => by rw [e, show (-2 : Int32).toInt = -2 from rfl] at c1; omega
    obtain ⟨t1, t2, t3⟩ := (tk_adv (B := B) hn hpn).2.2 hn1
    have ht1 := (tk_adv (B := B) hn hpn).1
    obtain ⟨x1, sz1, a1, a2, a3, a4⟩ := rxPut hX (tk B n p).1
    obtain ⟨k1, k2, k3⟩ := a4 (by omega)
    obtain ⟨x2, b1, b2, b3, b4, b5⟩ := rxNext hn a3 hn1
    rw [iz_pos c1, if_neg ne10, nmE, a1, bdvE, b1, bdvE]
    refine ⟨1, x2, (tk B n p).2.2, sz1, [(tk B n p).1], rfl, Or.inr rfl, a2.trans b2, b3, by omega, fun _ => ⟨k1, by simp; omega, by simp, fun k hk => by rw [b4, k3 k (by omega)], fun k hk => ?_⟩, fun j m hj hM hs => ?_⟩
    · have : k = 0 := by simp at hk; omega
      subst this
      rw [Nat.add_zero, b4, k2]; rfl
    · obtain ⟨m1, d1, d2, d3⟩ := rmNext hn hB hj hpn hM hn1 hn2
      obtain ⟨r1, r2, r3, r4, r5, r6⟩ := id hM
      have s45 : ¬ (tk B n p).1 = 20045 := fun e => by rw [e, show (20045 : Int32).toInt = 20045 from rfl] at c1; omega
      have s40 : ¬ (tk B n p).1 = 20040 := fun e => by rw [e, show (20040 : Int32).toInt = 20040 from rfl] at c1; omega
      have hd1b : m1.1 0 24 = 0 := d3.2.1
      by_cases c2 : (tk B n p).1.toInt < 10000
      · obtain ⟨v, hv, ev⟩ := of_rng (n := 10000) c1.1 (by omega)
        have hk : m.1 0 19 = 2 ∧ (m.2.1 0 21).toInt = v := by
          rcases r4 with ⟨k, e⟩ | ⟨k, _, e⟩ | ⟨k, w, hw, e, ew⟩ | ⟨k, s, q1, q2, e, w⟩ | ⟨k, e⟩
          · exact absurd e hn1
          · rcases e with e | ⟨i, hi, e⟩
            · exact absurd e hn2
            · rw [e] at ev; have := nI_inj (by omega) (by omega) ev; omega
          · rw [e] at ev; have := nI_inj (by omega) (by omega) ev; exact ⟨k, by omega⟩
          · rw [e] at ev; have := nI_inj (by omega) (by omega) ev; omega
          · exact absurd e hn2
        refine ⟨(tk B n p).1, m1, ?_, d2, fun h => absurd h (by decide), fun _ => ⟨d3, Ev.one c1 (by rw [if_neg (by omega)])⟩⟩
        have hi32 : (m.2.1 0 21).toInt32 = (tk B n p).1 := l2i (by rw [hk.2, ev, nI_rng (by omega)])
        unfold fb_X12_one
        rw [isSignE (S := 45) (C := 20045) (s := 45) rfl rfl (by omega) r2 r4, bpE, if_neg s45, if_pos rfl, isSignE (S := 40) (C := 20040) (s := 40) rfl rfl (by omega) r2 r4, bpE, if_neg s40, if_pos rfl, nmE, r2, jnE, if_pos rfl, nmE, hk.1, if_pos rfl, nmE, nmE, d1, bdvE, hi32]
      · have hk1 : m.1 0 19 = 1 := by
          rcases r4 with ⟨k, e⟩ | ⟨k, _, e⟩ | ⟨k, w, hw, e, ew⟩ | ⟨k, s, q1, q2, e, w⟩ | ⟨k, e⟩
          · exact absurd e hn1
          · exact k
          · rw [e, nI_rng (by omega)] at c2; omega
          · rw [e, nI_rng (by omega)] at c1; omega
          · exact absurd e hn2
        obtain ⟨i, hi, ei⟩ : ∃ i, i < 6 ∧ (tk B n p).1 = nI (10000 + i) := by
          obtain ⟨q, hq, eq⟩ := of_rng (n := 10006) c1.1 (by omega)
          rw [eq, nI_rng (by omega)] at c2
          exact ⟨q - 10000, by omega, by rw [eq, show 10000 + (q - 10000) = q by omega]⟩
        have hname : f_X12_name m = some (eM m i, m) := by
          rw [nameE r2 r4 hs, ei]
          match i, hi with
          | 0, _ => rfl
          | 1, _ => rfl
          | 2, _ => rfl
          | 3, _ => rfl
          | 4, _ => rfl
          | 5, _ => rfl
        refine ⟨eM m i, m1, ?_, d2, fun h => absurd h (by decide), fun _ => ⟨d3, Ev.one c1 (by rw [if_pos (by omega), ei, nI_rng (by omega)]; congr 1; omega)⟩⟩
        unfold fb_X12_one
        rw [isSignE (S := 45) (C := 20045) (s := 45) rfl rfl (by omega) r2 r4, bpE, if_neg s45, if_pos rfl, isSignE (S := 40) (C := 20040) (s := 40) rfl rfl (by omega) r2 r4, bpE, if_neg s40, if_pos rfl, nmE, r2, jnE, if_pos rfl, nmE, hk1, if_neg (by decide), nmE, jnE, if_pos rfl, nmE, if_pos rfl, hname, bdE, nmE, r2, if_pos rfl, d1, bdvE]
  · rw [iz_neg c1, if_pos rfl]
    by_cases c5 : o < 5
    · rw [if_pos (by rw [nI_ltk (by omega), show (5 : Int32).toInt = 5 from rfl]; omega), nmE]
      by_cases c2 : (tk B n p).1 = 20045
      · -- - ONE
        obtain ⟨hn1, hn2⟩ := codeN c2 (by decide) (by decide)
        obtain ⟨x1, a1, a2, a3, a4, a5⟩ := rxNext hn hX hn1
        obtain ⟨ok, x2, p2, sz2, L2, b1, b2, b3, b4, b5, b6, b7⟩ := h0 _ (o + 1) x1 sz a3 (by omega) (by omega) (by omega)
        obtain ⟨x3, sz3, k1, k2, k3, k4⟩ := rxPut b4 30000
        have hp2n := b4.2.2.2.2.2.2.2
        rw [if_pos c2, a1, bdvE, nI_1, b1, bdE, k1, bdvE, gd01 b2]
        refine ⟨ok, x3, p2, sz3, L2 ++ [30000], rfl, b2, (a2.trans b3).trans k2, k3, by omega, fun h => ?_, fun j m hj hM hs => ?_⟩
        · obtain ⟨g1, g2, g3, g4, g5⟩ := b6 h
          obtain ⟨q1, q2, q3⟩ := k4 (by omega)
          refine ⟨by simp; omega, by simp; omega, by simp, fun k hk => by rw [q3 k (by omega), g4 k hk, a4], SO.app (g5.cg (fun k hk => q3 k (by omega))) (fun k hk => ?_)⟩
          have : k = 0 := by simp at hk; omega
          subst this
          rw [Nat.add_zero, ← g1, q2]; rfl
        · obtain ⟨m1, d1, d2, d3⟩ := (opensE hn hB hj hpn hM ho hn1 hn2).1 c5
          obtain ⟨w, m2, f1, f2, f3, f4⟩ := b7 j m1 hj d3 (d2.seat hs)
          have r4 := hM.2.2.2.1
          have r2 := hM.2.1
          have hone : fb_X12_one (f_GM d) m = some (-w, sI m2 0 23 (m2.1 0 23 - 1)) := by
            unfold fb_X12_one
            rw [isSignE (S := 45) (C := 20045) (s := 45) rfl rfl (by omega) r2 r4, bpE, if_pos c2, if_neg ne10, d1, bdE, if_neg ne10, f1, bdE, nmE, nmE]
          refine ⟨-w, _, hone, (d2.trans f2).trans (FM.sI _ _ ⟨by omega, by omega⟩), fun h => (f3 h).op _, fun h => ?_⟩
          obtain ⟨f5, f6⟩ := f4 h
          rw [d2.env] at f6
          refine ⟨?_, f6.neg⟩
          rw [f5.2.2.1, nI_pred]
          exact f5.op o
      · rw [if_neg c2]
        unfold f_X9_take
        rw [nmE, hx4]
        by_cases c3 : (tk B n p).1 = 20040
        · -- ( E )
          obtain ⟨hn1, hn2⟩ := codeN c3 (by decide) (by decide)
          obtain ⟨x1, a1, a2, a3, a4, a5⟩ := rxNext hn hX hn1
          obtain ⟨ok, x2, p2, sz2, L2, b1, b2, b3, b4, b5, b6, b7⟩ := h5 _ (o + 1) x1 sz a3 (by omega) (by omega) (by omega)
          have hp2n := b4.2.2.2.2.2.2.2
          have hx24 := b4.2.2.1
          rw [if_pos c3, a1, bdvE, bdE, if_neg ne10, nI_1, b1, bdE]
          have hone : ∀ j m m1 w m2, RM B n j m p o → f_X12_opens m = some (1, m1) → f_GM d 5 m1 = some (w, m2) → fb_X12_one (f_GM d) m = bp (f_X12_isSign m2 41) (fun v29 => jn (fun (σ30 : St) => nm (σ30.1 0 23) (fun v32 => nm (sI σ30 0 23 (v32 - 1)) (fun σ33 => nm (σ33.1 0 24) (fun v34 => (if v34 = 0 then bdv (f_X12_next σ33) (fun σ36 => some (w, σ36)) else some (w, σ33)))))) (fun (j31 : St → Option (Int32 × St)) => (if v29 = 0 then bdv (f_X12_fail m2) (fun σ38 => j31 σ38) else j31 m2))) := by
            intro j m m1 w m2 hM d1 f1
            unfold fb_X12_one
            rw [isSignE (S := 45) (C := 20045) (s := 45) rfl rfl (by omega) hM.2.1 hM.2.2.2.1, bpE, if_neg c2, if_pos rfl, isSignE (S := 40) (C := 20040) (s := 40) rfl rfl (by omega) hM.2.1 hM.2.2.2.1, bpE, if_pos c3, if_neg ne10, d1, bdE, if_neg ne10, f1, bdE]
          rcases b2 with rfl | rfl
          · rw [if_pos rfl]
            refine ⟨0, x2, p2, sz2, [], rfl, Or.inl rfl, a2.trans b3, b4, by omega, fun h => absurd h (by decide), fun j m hj hM hs => ?_⟩
            obtain ⟨m1, d1, d2, d3⟩ := (opensE hn hB hj hpn hM ho hn1 hn2).1 c5
            obtain ⟨w, m2, f1, f2, f3, f4⟩ := b7 j m1 hj d3 (d2.seat hs)
            have hbad := f3 rfl
            refine ⟨w, sI m2 0 23 (m2.1 0 23 - 1), ?_, (d2.trans f2).trans (FM.sI _ _ ⟨by omega, by omega⟩), fun _ => hbad.op _, fun h => absurd h (by decide)⟩
            rw [hone j m m1 w m2 hM d1 f1, isSignB _ hbad.1, bpE, jnE, if_pos rfl, failB hbad.1, bdvE]
            dsimp only
            rw [nmE, nmE, nmE, (hbad.op _).1, if_neg ne10]
          · rw [if_neg ne10, nmE, hx24]
            obtain ⟨g1, g2, g3, g4, g5⟩ := b6 rfl
            by_cases c4 : (tk B n p2).1 = 20041
            · obtain ⟨hm1, hm2⟩ := codeN c4 (by decide) (by decide)
              obtain ⟨x3, k1, k2, k3, k4, k5⟩ := rxNext hn b4 hm1
              rw [if_pos c4, k1, bdvE, bdE, if_neg ne10]
              refine ⟨1, x3, (tk B n p2).2.2, sz2, L2, rfl, Or.inr rfl, (a2.trans b3).trans k2, k3, by omega, fun _ => ⟨g1, by omega, g3, fun k hk => by rw [k4, g4 k hk, a4], g5.cg (fun k _ => by rw [k4])⟩, fun j m hj hM hs => ?_⟩
              obtain ⟨m1, d1, d2, d3⟩ := (opensE hn hB hj hpn hM ho hn1 hn2).1 c5
              obtain ⟨w, m2, f1, f2, f3, f4⟩ := b7 j m1 hj d3 (d2.seat hs)
              obtain ⟨f5, f6⟩ := f4 rfl
              rw [d2.env] at f6
              obtain ⟨m3, l1, l2, l3⟩ := rmNext hn hB hj hp2n (f5.op o) hm1 hm2
              refine ⟨w, m3, ?_, ((d2.trans f2).trans (FM.sI _ _ ⟨by omega, by omega⟩)).trans l2, fun h => absurd h (by decide), fun _ => ⟨l3, f6⟩⟩
              rw [hone j m m1 w m2 hM d1 f1, isSignE (S := 41) (C := 20041) (s := 41) rfl rfl (by omega) f5.2.1 f5.2.2.2.1, bpE, if_pos c4, jnE, if_neg ne10]
              dsimp only
              rw [nmE, f5.2.2.1, nI_pred, nmE, nmE, (f5.op o).2.1, if_pos rfl, l1, bdvE]
            · rw [if_neg c4, bdE, if_pos rfl]
              refine ⟨0, x2, p2, sz2, [], rfl, Or.inl rfl, a2.trans b3, b4, by omega, fun h => absurd h (by decide), fun j m hj hM hs => ?_⟩
              obtain ⟨m1, d1, d2, d3⟩ := (opensE hn hB hj hpn hM ho hn1 hn2).1 c5
              obtain ⟨w, m2, f1, f2, f3, f4⟩ := b7 j m1 hj d3 (d2.seat hs)
              obtain ⟨f5, f6⟩ := f4 rfl
              obtain ⟨m3, l1, l2, l3, l4⟩ := failE f5
              refine ⟨w, sI m3 0 23 (m3.1 0 23 - 1), ?_, ((d2.trans f2).trans l2).trans (FM.sI _ _ ⟨by omega, by omega⟩), fun _ => l3.op _, fun h => absurd h (by decide)⟩
              rw [hone j m m1 w m2 hM d1 f1, isSignE (S := 41) (C := 20041) (s := 41) rfl rfl (by omega) f5.2.1 f5.2.2.2.1, bpE, if_neg c4, jnE, if_pos rfl, l1, bdvE]
              dsimp only
              rw [nmE, nmE, nmE, (l3.op _).1, if_neg ne10]
        · rw [if_neg c3, bdE, if_pos rfl]
          refine ⟨0, x, p, sz, [], rfl, Or.inl rfl, FX.rfl' x, hX, Nat.le_refl _, fun h => absurd h (by decide), fun j m hj hM hs => ?_⟩
          obtain ⟨v, m', q1, q2, q3⟩ := one_fail (rc := f_GM d) hM hs c1 c2 c3
          exact ⟨v, m', q1, q2, fun _ => q3, fun h => absurd h (by decide)⟩
    · rw [if_neg (by rw [nI_ltk (by omega), show (5 : Int32).toInt = 5 from rfl]; omega)]
      refine ⟨0, x, p, sz, [], rfl, Or.inl rfl, FX.rfl' x, hX, Nat.le_refl _, fun h => absurd h (by decide), fun j m hj hM hs => ?_⟩
      by_cases c2 : (tk B n p).1 = 20045
      · obtain ⟨hn1, hn2⟩ := codeN c2 (by decide) (by decide)
        obtain ⟨m1, d1, d2, d3⟩ := (opensE hn hB hj hpn hM ho hn1 hn2).2 c5
        refine ⟨0, m1, ?_, d2, fun _ => d3, fun h => absurd h (by decide)⟩
        unfold fb_X12_one
        rw [isSignE (S := 45) (C := 20045) (s := 45) rfl rfl (by omega) hM.2.1 hM.2.2.2.1, bpE, if_pos c2, if_neg ne10, d1, bdE, if_pos rfl]
      · by_cases c3 : (tk B n p).1 = 20040
        · obtain ⟨hn1, hn2⟩ := codeN c3 (by decide) (by decide)
          obtain ⟨m1, d1, d2, d3⟩ := (opensE hn hB hj hpn hM ho hn1 hn2).2 c5
          refine ⟨0, m1, ?_, d2, fun _ => d3, fun h => absurd h (by decide)⟩
          unfold fb_X12_one
          rw [isSignE (S := 45) (C := 20045) (s := 45) rfl rfl (by omega) hM.2.1 hM.2.2.2.1, bpE, if_neg c2, if_pos rfl, isSignE (S := 40) (C := 20040) (s := 40) rfl rfl (by omega) hM.2.1 hM.2.2.2.1, bpE, if_pos c3, if_neg ne10, d1, bdE, if_pos rfl]
        · obtain ⟨v, m', q1, q2, q3⟩ := one_fail (rc := f_GM d) hM hs c1 c2 c3
          exact ⟨v, m', q1, q2, fun _ => q3, fun h => absurd h (by decide)⟩
end PAR2
