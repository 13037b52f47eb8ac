/-! READING: the class's reader and the model's, step by step -/
def RX (B : Nat → Int32) (n : Nat) (x : St) (p sz : Nat) : Prop := x.1 15 1 = nI n ∧ (∀ i, i < n → B i = x.1 16 i &&& 255) ∧ x.1 17 4 = (tk B n p).1 ∧ x.1 17 5 = nI (tk B n p).2.1 ∧ x.1 17 6 = nI (tk B n p).2.2 ∧ x.1 17 2 = nI sz ∧ sz ≤ 160 ∧ p ≤ n
def FX (x x' : St) : Prop := (∀ c, c ≠ 17 → c ≠ 18 → x'.1 c = x.1 c) ∧ x'.1 17 3 = x.1 17 3 ∧ x'.2 = x.2
theorem FX.rfl' (x : St) : FX x x := ⟨fun _ _ _ => rfl, rfl, rfl⟩
theorem FX.trans {x x' x'' : St} (h : FX x x') (g : FX x' x'') : FX x x'' := ⟨fun c a b => by rw [g.1 c a b, h.1 c a b], by rw [g.2.1, h.2.1], by rw [g.2.2, h.2.2]⟩
def RM (B : Nat → Int32) (n j : Nat) (m : St) (p o : Nat) : Prop := MB B n j m ∧ m.1 0 24 = 0 ∧ m.1 0 23 = nI o ∧ MT m (tk B n p).1 ∧ m.1 0 20 = nI (tk B n p).2.1 ∧ ((tk B n p).1 ≠ -1 → (tk B n p).1 ≠ -2 → m.1 0 22 = nI (tk B n p).2.2)
def FM (m m' : St) : Prop := (∀ c, c ≠ 0 → m'.1 c = m.1 c) ∧ (∀ i, i < 19 ∨ 25 < i → m'.1 0 i = m.1 0 i) ∧ (∀ c, c ≠ 0 → m'.2.1 c = m.2.1 c) ∧ (∀ i, i ≠ 21 → m'.2.1 0 i = m.2.1 0 i)
theorem FM.rfl' (m : St) : FM m m := ⟨fun _ _ => rfl, fun _ _ => rfl, fun _ _ => rfl, fun _ _ => rfl⟩
theorem FM.trans {m m' m'' : St} (h : FM m m') (g : FM m' m'') : FM m m'' := ⟨fun c hc => by rw [g.1 c hc, h.1 c hc], fun i hi => by rw [g.2.1 i hi, h.2.1 i hi], fun c hc => by rw [g.2.2.1 c hc, h.2.2.1 c hc], fun i hi => by rw [g.2.2.2 i hi, h.2.2.2 i hi]⟩
theorem FT.fm {m m' : St} (h : FT m m') : FM m m' := ⟨h.1, fun i hi => h.2.1 i (by omega), h.2.2.1, h.2.2.2⟩
theorem FM.sI (m : St) {j : Nat} (v : Int32) (hj : 19 ≤ j ∧ j ≤ 25) : FM m (sI m 0 j v) := ⟨fun c hc => sI_ro _ 0 _ _ c hc, fun i hi => sI_rne _ 0 _ _ i (by omega), fun _ _ => rfl, fun _ _ => rfl⟩
def Bad (B : Nat → Int32) (n : Nat) (m : St) (p : Nat) : Prop := m.1 0 24 = 1 ∧ m.1 0 25 = nI (tk B n p).2.1
def eM (m : St) (k : Nat) : Int32 := if k = 0 then m.1 0 26 else if k = 1 then m.1 0 27 else if k = 2 then m.1 0 28 else if k = 3 then m.1 10 (m.1 0 28).toNatClampNeg else if k = 4 then m.1 0 29 else m.1 0 30
def SeatOk (m : St) : Prop := ∃ k, k < 8 ∧ m.1 0 28 = nI k
theorem FM.env {m m' : St} (h : FM m m') : eM m' = eM m := by
  funext k
  unfold eM
  rw [h.2.1 26 (by omega), h.2.1 27 (by omega), h.2.1 28 (by omega), h.2.1 29 (by omega), h.2.1 30 (by omega), h.1 10 (by omega)]
theorem FM.seat {m m' : St} (h : FM m m') (hs : SeatOk m) : SeatOk m' := by
  obtain ⟨k, a, b⟩ := hs
  exact ⟨k, a, by rw [h.2.1 28 (by omega)]; exact b⟩
def SO (x : St) (sz : Nat) (L : List Int32) : Prop := ∀ k, k < L.length → x.1 18 (sz + k) = L.getD k 0
theorem SO.app {x : St} {sz : Nat} {L1 L2 : List Int32} (h1 : SO x sz L1) (h2 : SO x (sz + L1.length) L2) : SO x sz (L1 ++ L2) := by
  intro k hk
  by_cases c : k < L1.length
  · rw [h1 k c]; simp [List.getElem?_append_left c]
  · have := h2 (k - L1.length) (by simp at hk; omega)
    rw [show sz + k = sz + L1.length + (k - L1.length) by omega, this]
    simp [List.getElem?_append_right (show L1.length ≤ k by omega)]
theorem SO.cg {x x' : St} {sz : Nat} {L : List Int32} (h : SO x sz L) (hk : ∀ k, k < sz + L.length → x'.1 18 k = x.1 18 k) : SO x' sz L := fun k q => by rw [hk _ (by omega)]; exact h k q
/-- what a reading does on both sides -/
def LSc (B : Nat → Int32) (n : Nat) (rx : Option (Int32 × St)) (rm : St → Option (Int32 × St)) (x : St) (p o sz : Nat) : Prop :=
  ∃ ok x' p' sz' L, rx = some (ok, x') ∧ (ok = 0 ∨ ok = 1) ∧ FX x x' ∧ RX B n x' p' sz' ∧ p ≤ p' ∧ (ok = 1 → sz' = sz + L.length ∧ p + L.length ≤ p' ∧ 1 ≤ L.length ∧ (∀ k, k < sz → x'.1 18 k = x.1 18 k) ∧ SO x' sz L) ∧
  ∀ j m, j < 6 → RM B n j m p o → SeatOk m → ∃ v m', rm m = some (v, m') ∧ FM m m' ∧ (ok = 0 → Bad B n m' p') ∧ (ok = 1 → RM B n j m' p' o ∧ Ev (eM m) L v)
section PAR
variable {B : Nat → Int32} {n : Nat}
theorem rxNext {x : St} {p sz : Nat} (hn : n ≤ 160) (h : RX B n x p sz) (hc : (tk B n p).1 ≠ -1) : ∃ x', f_X9_next x = some x' ∧ FX x x' ∧ RX B n x' (tk B n p).2.2 sz ∧ x'.1 18 = x.1 18 ∧ p < (tk B n p).2.2 := by
  obtain ⟨a1, a2, a3, a4, a5, a6, a7, a8⟩ := h
  obtain ⟨_, _, t3⟩ := tk_adv (B := B) hn a8
  obtain ⟨t4, t5, t6⟩ := t3 hc
  obtain ⟨x', q1, q2, q3, q4, q5, q6, q7⟩ := xNext hn t6 a1 a2 a5
  exact ⟨x', q1, ⟨fun c c1 _ => q2 c c1, q3 3 (by omega) (by omega) (by omega), q4⟩, ⟨by rw [q2 15 (by omega)]; exact a1, fun i hi => by rw [q2 16 (by omega)]; exact a2 i hi, q5, q6, q7, by rw [q3 2 (by omega) (by omega) (by omega)]; exact a6, a7, t6⟩, q2 18 (by omega), t5⟩
theorem rmNext {m : St} {j p o : Nat} (hn : n ≤ 160) (hB : ∀ i, i < n → ∃ c, c < 256 ∧ B i = nI c) (hj : j < 6) (hp : p ≤ n) (h : RM B n j m p o) (h1 : (tk B n p).1 ≠ -1) (h2 : (tk B n p).1 ≠ -2) : ∃ m', f_X12_next m = some m' ∧ FM m m' ∧ RM B n j m' (tk B n p).2.2 o := by
  obtain ⟨a1, a2, a3, a4, a5, a6⟩ := h
  obtain ⟨_, _, t3⟩ := tk_adv (B := B) hn hp
  obtain ⟨t4, t5, t6⟩ := t3 h1
  obtain ⟨m', q1, q2, q3, q4, q5⟩ := mNext hj hn a1 (a6 h1 h2) t6 hB
  exact ⟨m', q1, q2.fm, q2.mb a1, by rw [q2.2.1 24 (by omega)]; exact a2, by rw [q2.2.1 23 (by omega)]; exact a3, q4, q3, q5⟩
theorem rxPut {x : St} {p sz : Nat} (h : RX B n x p sz) (s : Int32) : ∃ x' sz', f_X9_put x s = some x' ∧ FX x x' ∧ RX B n x' p sz' ∧ (sz < 160 → sz' = sz + 1 ∧ x'.1 18 sz = s ∧ ∀ k, k ≠ sz → x'.1 18 k = x.1 18 k) := by
  obtain ⟨a1, a2, a3, a4, a5, a6, a7, a8⟩ := h
  unfold f_X9_put
  rw [nmE, a6]
  by_cases c : sz < 160
  · rw [if_neg (by rw [le_nI (by omega), show (160 : Int32).toInt = 160 from rfl]; omega), nmE, gdN c (by omega), nmE, clampN (by omega), nmE, sI_ro _ 18 _ _ 17 (by omega), a6, nmE, nI_1]
    refine ⟨_, sz + 1, rfl, ⟨fun q q1 q2 => by rw [sI_ro _ 17 _ _ q q1, sI_ro _ 18 _ _ q q2], by rw [sI_rne _ 17 _ _ 3 (by omega), sI_ro _ 18 _ _ 17 (by omega)], rfl⟩, ⟨?_, fun i hi => ?_, ?_, ?_, ?_, sI_at _ _ _ _, by omega, a8⟩, fun _ => ⟨rfl, ?_, fun k hk => ?_⟩⟩
    · rw [sI_ro _ 17 _ _ 15 (by omega), sI_ro _ 18 _ _ 15 (by omega)]; exact a1
    · rw [sI_ro _ 17 _ _ 16 (by omega), sI_ro _ 18 _ _ 16 (by omega)]; exact a2 i hi
    · rw [sI_rne _ 17 _ _ 4 (by omega), sI_ro _ 18 _ _ 17 (by omega)]; exact a3
    · rw [sI_rne _ 17 _ _ 5 (by omega), sI_ro _ 18 _ _ 17 (by omega)]; exact a4
    · rw [sI_rne _ 17 _ _ 6 (by omega), sI_ro _ 18 _ _ 17 (by omega)]; exact a5
    · rw [sI_ro _ 17 _ _ 18 (by omega), sI_at]
    · rw [sI_ro _ 17 _ _ 18 (by omega), sI_rne _ 18 _ _ k hk]
  · rw [if_pos (by rw [le_nI (by omega), show (160 : Int32).toInt = 160 from rfl]; omega)]
    exact ⟨x, sz, rfl, FX.rfl' x, ⟨a1, a2, a3, a4, a5, a6, a7, a8⟩, fun h => absurd h c⟩
end PAR
theorem n2 : ∀ i, i < 100000 → ¬ (-2 : Int32) = nI i := fun i hi e => by
  have := congrArg Int32.toInt e
  rw [nI_rng (by omega), show (-2 : Int32).toInt = -2 from rfl] at this
  omega
theorem n1 : ∀ i, i < 100000 → ¬ (-1 : Int32) = nI i := fun i hi e => by
  have := congrArg Int32.toInt e
  rw [nI_rng (by omega), show (-1 : Int32).toInt = -1 from rfl] at this
  omega
theorem isSignE {m : St} {code S C : Int32} {s : Nat} (hs : S = nI s) (hC : C = nI (20000 + s)) (hr : s < 1000) (hb : m.1 0 24 = 0) (h : MT m code) : f_X12_isSign m S = some (if code = C then 1 else 0) := by
  subst hC
  unfold f_X12_isSign
  rw [nmE, hb, if_pos rfl, nmE]
  rcases h with ⟨k, e⟩ | ⟨k, _, e⟩ | ⟨k, v, hv, e, _⟩ | ⟨k, t, t1, t2, e, w⟩ | ⟨k, e⟩
  · rw [k, e, if_neg (by decide), if_neg (n1 _ (by omega))]
  · rw [k, if_neg (by decide)]
    rcases e with e | ⟨i, hi, e⟩
    · rw [e, if_neg (n2 _ (by omega))]
    · rw [e, if_neg (fun q => by have := nI_inj (by omega) (by omega) q; omega)]
  · rw [k, e, if_neg (by decide), if_neg (fun q => by have := nI_inj (by omega) (by omega) q; omega)]
  · rw [k, e, if_pos rfl, nmE, w, hs]
    by_cases c : t = s
    · rw [c, if_pos rfl, if_pos rfl]
    · rw [if_neg (fun q => by
        have := congrArg Int64.toInt q
        rw [i2l_toInt, i2l_toInt, nI_rng (by omega), nI_rng (by omega)] at this
        omega), if_neg (fun q => by have := nI_inj (by omega) (by omega) q; omega)]
  · rw [k, e, if_neg (by decide), if_neg (n2 _ (by omega))]
theorem isWordE {m : St} {code C : Int32} {W : Int64} {i : Nat} (hi : i < 11) (hW : W = Wv.getD i 0) (hC : C = nI (10000 + i)) (hb : m.1 0 24 = 0) (h : MT m code) : f_X12_isWord m W = some (if code = C then 1 else 0) := by
  subst hC
  unfold f_X12_isWord
  rw [nmE, hb, if_pos rfl, nmE]
  rcases h with ⟨k, e⟩ | ⟨k, g, e⟩ | ⟨k, v, hv, e, _⟩ | ⟨k, t, t1, t2, e, w⟩ | ⟨k, e⟩
  · rw [k, e, if_neg (by decide), if_neg (n1 _ (by omega))]
  · rw [k, if_pos rfl, nmE, hW]
    by_cases c : m.2.1 0 21 = Wv.getD i 0
    · rw [if_pos c, if_pos ((g i hi).mp c)]
    · rw [if_neg c, if_neg (fun q => c ((g i hi).mpr q))]
  · rw [k, e, if_neg (by decide), if_neg (fun q => by have := nI_inj (by omega) (by omega) q; omega)]
  · rw [k, e, if_neg (by decide), if_neg (fun q => by have := nI_inj (by omega) (by omega) q; omega)]
  · rw [k, e, if_neg (by decide), if_neg (n2 _ (by omega))]
theorem isSignB {m : St} (S : Int32) (hb : m.1 0 24 = 1) : f_X12_isSign m S = some 0 := by
  unfold f_X12_isSign
  rw [nmE, hb, if_neg ne10]
theorem isWordB {m : St} (W : Int64) (hb : m.1 0 24 = 1) : f_X12_isWord m W = some 0 := by
  unfold f_X12_isWord
  rw [nmE, hb, if_neg ne10]
theorem failB {m : St} (hb : m.1 0 24 = 1) : f_X12_fail m = some m := by
  unfold f_X12_fail
  rw [nmE, hb, if_neg ne10]
theorem failE {B : Nat → Int32} {n j p o : Nat} {m : St} (h : RM B n j m p o) : ∃ m', f_X12_fail m = some m' ∧ FM m m' ∧ Bad B n m' p ∧ m'.1 0 23 = m.1 0 23 := by
  obtain ⟨a1, a2, a3, a4, a5, a6⟩ := h
  unfold f_X12_fail
  rw [nmE, a2, if_pos rfl, nmE, nmE, nmE, sI_rne _ 0 _ _ 20 (by omega), a5]
  refine ⟨_, rfl, (FM.sI m 1 ⟨by omega, by omega⟩).trans (FM.sI _ _ ⟨by omega, by omega⟩), ⟨?_, sI_at _ _ _ _⟩, ?_⟩
  · rw [sI_rne _ 0 _ _ 24 (by omega), sI_at]
  · rw [sI_rne _ 0 _ _ 23 (by omega), sI_rne _ 0 _ _ 23 (by omega)]
theorem FM.bad {B : Nat → Int32} {n p : Nat} {m m' : St} (h : Bad B n m p) (h1 : m'.1 0 24 = m.1 0 24) (h2 : m'.1 0 25 = m.1 0 25) : Bad B n m' p := by
  unfold Bad at h ⊢
  rw [h1, h2]; exact h
/-- a sign behind two values -/
def opc (c : Int32) : Prop := ¬ (0 ≤ c.toInt ∧ c.toInt < 10006) ∧ ¬ c = 30000 ∧ ¬ c = 10010 ∧ c ≠ -1 ∧ c ≠ -2
theorem Ev.join {e : Nat → Int32} {L L2 : List Int32} {v w c : Int32} (h1 : Ev e L v) (h2 : Ev e L2 w) (hc : opc c) : Ev e (L ++ (L2 ++ [c])) (jv c v w) := by
  intro last stk
  rw [List.foldl_append, h1, List.foldl_append, h2]
  show est e (w, v :: last :: stk) c = _
  unfold est
  rw [if_neg hc.1, if_neg hc.2.1, if_neg hc.2.2.1]
section LOOP
variable {B : Nat → Int32} {n o : Nat} {CL : Nat → Int32 → Int32 → St → Option (Int32 × St)} {ML : Nat → Int32 → St → Option (Int32 × St)} {op : Int32 → Prop} {rc rcM : St → Option (Int32 × St)}
theorem loop_gen (hn : n ≤ 160) (hB : ∀ i, i < n → ∃ c, c < 256 ∧ B i = nI c) (hop : ∀ c, op c → opc c)
    (hrc : ∀ p x sz, RX B n x p sz → sz ≤ p → LSc B n (rc x) rcM x p o sz)
    (hC0 : ∀ f i x, i < 160 → CL (f + 1) 0 (nI i) x = some (0, x))
    (hC1 : ∀ f i x, i < 160 → ¬ op (x.1 17 4) → CL (f + 1) 1 (nI i) x = some (1, x))
    (hC2 : ∀ f i x c, i < 160 → op c → x.1 17 4 = c → CL (f + 1) 1 (nI i) x = bdv (f_X9_next x) (fun y => bd (rc y) (fun v z => bdv (f_X9_put z c) (fun w => CL f v (nI (i + 1)) w))))
    (hM0 : ∀ f v m, m.1 0 24 = 1 → ML (f + 1) v m = some (v, m))
    (hM1 : ∀ f v m c, m.1 0 24 = 0 → MT m c → ¬ op c → ML (f + 1) v m = some (v, m))
    (hM2 : ∀ f v m c, m.1 0 24 = 0 → MT m c → op c → ML (f + 1) v m = bdv (f_X12_next m) (fun y => bd (rcM y) (fun w z => ML f (jv c v w) z))) :
    ∀ (D p i F : Nat) (x : St) (sz : Nat), n - p ≤ D → D + 2 < F → 2 * i ≤ p → RX B n x p sz → sz ≤ p → ∃ ok x' p' sz' L, CL F 1 (nI i) x = some (ok, x') ∧ (ok = 0 ∨ ok = 1) ∧ FX x x' ∧ RX B n x' p' sz' ∧ p ≤ p' ∧ (ok = 1 → sz' = sz + L.length ∧ p + L.length ≤ p' ∧ (∀ k, k < sz → x'.1 18 k = x.1 18 k) ∧ SO x' sz L) ∧ ∀ j m v, j < 6 → RM B n j m p o → SeatOk m → ∃ v' m', ML F v m = some (v', m') ∧ FM m m' ∧ (ok = 0 → Bad B n m' p') ∧ (ok = 1 → RM B n j m' p' o ∧ ∀ L0, Ev (eM m) L0 v → Ev (eM m) (L0 ++ L) v') := by
  intro D
  induction D with
  | zero =>
    intro p i F x sz hD hF hi hX hsz
    obtain ⟨F, rfl⟩ : ∃ g, F = g + 1 := ⟨F - 1, by omega⟩
    have hpn := hX.2.2.2.2.2.2.2
    have hx4 := hX.2.2.1
    have hend : (tk B n p).1 = -1 := by
      by_cases e : (tk B n p).1 = -1
      · exact e
      · have := (tk_adv (B := B) hn hpn).2.2 e; omega
    have hno : ¬ op (tk B n p).1 := fun q => (hop _ q).2.2.2.1 hend
    refine ⟨1, x, p, sz, [], hC1 F i x (by omega) (by rw [hx4]; exact hno), Or.inr rfl, FX.rfl' x, hX, Nat.le_refl _, fun _ => ⟨rfl, by simp, fun _ _ => rfl, fun k hk => by simp at hk⟩, fun j m v hj hM hs => ⟨v, m, hM1 F v m _ hM.2.1 hM.2.2.2.1 hno, FM.rfl' m, fun h => absurd h (by decide), fun _ => ⟨hM, fun L0 h => by rw [List.append_nil]; exact h⟩⟩⟩
  | succ D ih =>
    intro p i F x sz hD hF hi hX hsz
    obtain ⟨F, rfl⟩ : ∃ g, F = g + 1 := ⟨F - 1, by omega⟩
    have hpn := hX.2.2.2.2.2.2.2
    have hx4 := hX.2.2.1
    by_cases hno : op (tk B n p).1
    · have hoc := hop _ hno
      obtain ⟨x1, a1, a2, a3, a4, a5⟩ := rxNext hn hX hoc.2.2.2.1
      obtain ⟨ok, x2, p2, sz2, L2, b1, b2, b3, b4, b5, b6, b7⟩ := hrc _ x1 sz a3 (by omega)
      obtain ⟨x3, sz3, c1, c2, c3, c4⟩ := rxPut b4 (tk B n p).1
      have hcls : CL (F + 1) 1 (nI i) x = CL F ok (nI (i + 1)) x3 := by rw [hC2 F i x _ (by omega) hno hx4, a1, bdvE, b1, bdE, c1, bdvE]
      have hp2n := b4.2.2.2.2.2.2.2
      rcases b2 with rfl | rfl
      · obtain ⟨G, rfl⟩ : ∃ g, F = g + 1 := ⟨F - 1, by omega⟩
        refine ⟨0, x3, p2, sz3, [], by rw [hcls, hC0 G (i + 1) x3 (by omega)], Or.inl rfl, (a2.trans b3).trans c2, c3, by omega, fun h => absurd h (by decide), fun j m v hj hM hs => ?_⟩
        obtain ⟨m1, d1, d2, d3⟩ := rmNext hn hB hj hpn hM hoc.2.2.2.1 hoc.2.2.2.2
        obtain ⟨w, m2, e1, e2, e3, e4⟩ := b7 j m1 hj d3 (d2.seat hs)
        have hbad := e3 rfl
        exact ⟨_, m2, by rw [hM2 (G + 1) v m _ hM.2.1 hM.2.2.2.1 hno, d1, bdvE, e1, bdE, hM0 G _ m2 hbad.1], d2.trans e2, fun _ => hbad, fun h => absurd h (by decide)⟩
      · obtain ⟨g1, g2, g3, g4, g5⟩ := b6 rfl
        obtain ⟨k1, k2, k3⟩ := c4 (by omega)
        obtain ⟨ok', x', p', sz', L', i1, i2, i3, i4, i5, i6, i7⟩ := ih p2 (i + 1) F x3 sz3 (by omega) (by omega) (by omega) c3 (by omega)
        refine ⟨ok', x', p', sz', (L2 ++ [(tk B n p).1]) ++ L', by rw [hcls, i1], i2, ((a2.trans b3).trans c2).trans i3, i4, by omega, fun h => ?_, fun j m v hj hM hs => ?_⟩
        · obtain ⟨q1, q2, q3, q4⟩ := i6 h
          have hso : SO x3 sz (L2 ++ [(tk B n p).1]) := by
            refine SO.app (g5.cg (fun k hk => k3 k (by omega))) (fun k hk => ?_)
            have : k = 0 := by simp at hk; omega
            subst this
            rw [Nat.add_zero, ← g1, k2]; rfl
          refine ⟨by simp; omega, by simp; omega, fun k hk => by rw [q3 k (by omega), k3 k (by omega), g4 k hk, a4], SO.app (hso.cg (fun k hk => q3 k (by simp at hk; omega))) ?_⟩
          have : sz + (L2 ++ [(tk B n p).1]).length = sz3 := by simp; omega
          rw [this]; exact q4
        · obtain ⟨m1, d1, d2, d3⟩ := rmNext hn hB hj hpn hM hoc.2.2.2.1 hoc.2.2.2.2
          obtain ⟨w, m2, e1, e2, e3, e4⟩ := b7 j m1 hj d3 (d2.seat hs)
          obtain ⟨e5, e6⟩ := e4 rfl
          have hF2 := d2.trans e2
          obtain ⟨v', m', f1, f2, f3, f4⟩ := i7 j m2 (jv (tk B n p).1 v w) hj e5 (hF2.seat hs)
          refine ⟨v', m', by rw [hM2 F v m _ hM.2.1 hM.2.2.2.1 hno, d1, bdvE, e1, bdE, f1], hF2.trans f2, f3, fun h => ⟨(f4 h).1, fun L0 hL => ?_⟩⟩
          have := (f4 h).2 (L0 ++ (L2 ++ [(tk B n p).1])) (by
            rw [hF2.env]
            rw [d2.env] at e6
            exact hL.join e6 hoc)
          rw [hF2.env, List.append_assoc] at this
          exact this
    · refine ⟨1, x, p, sz, [], hC1 F i x (by omega) (by rw [hx4]; exact hno), Or.inr rfl, FX.rfl' x, hX, Nat.le_refl _, fun _ => ⟨rfl, by simp, fun _ _ => rfl, fun k hk => by simp at hk⟩, fun j m v hj hM hs => ⟨v, m, hM1 F v m _ hM.2.1 hM.2.2.2.1 hno, FM.rfl' m, fun h => absurd h (by decide), fun _ => ⟨hM, fun L0 h => by rw [List.append_nil]; exact h⟩⟩⟩
theorem seq_gen (hn : n ≤ 160) (hB : ∀ i, i < n → ∃ c, c < 256 ∧ B i = nI c) (hop : ∀ c, op c → opc c)
    (hrc : ∀ p x sz, RX B n x p sz → sz ≤ p → LSc B n (rc x) rcM x p o sz)
    (hC0 : ∀ f i x, i < 160 → CL (f + 1) 0 (nI i) x = some (0, x))
    (hC1 : ∀ f i x, i < 160 → ¬ op (x.1 17 4) → CL (f + 1) 1 (nI i) x = some (1, x))
    (hC2 : ∀ f i x c, i < 160 → op c → x.1 17 4 = c → CL (f + 1) 1 (nI i) x = bdv (f_X9_next x) (fun y => bd (rc y) (fun v z => bdv (f_X9_put z c) (fun w => CL f v (nI (i + 1)) w))))
    (hM0 : ∀ f v m, m.1 0 24 = 1 → ML (f + 1) v m = some (v, m))
    (hM1 : ∀ f v m c, m.1 0 24 = 0 → MT m c → ¬ op c → ML (f + 1) v m = some (v, m))
    (hM2 : ∀ f v m c, m.1 0 24 = 0 → MT m c → op c → ML (f + 1) v m = bdv (f_X12_next m) (fun y => bd (rcM y) (fun w z => ML f (jv c v w) z)))
    {p sz : Nat} {x : St} (hX : RX B n x p sz) (hsz : sz ≤ p) : LSc B n (bd (rc x) (fun v1 σ2 => CL FU v1 0 σ2)) (fun m => bd (rcM m) (fun v1 σ2 => ML FU v1 σ2)) x p o sz := by
  have hFU : FU = 4999 + 1 := rfl
  have z0 : (0 : Int32) = nI 0 := rfl
  obtain ⟨ok, x1, p1, sz1, L1, b1, b2, b3, b4, b5, b6, b7⟩ := hrc p x sz hX hsz
  rcases b2 with rfl | rfl
  · refine ⟨0, x1, p1, sz1, L1, by rw [b1, bdE, hFU, show CL (4999 + 1) 0 0 x1 = CL (4999 + 1) 0 (nI 0) x1 from rfl, hC0 _ _ _ (by omega)], Or.inl rfl, b3, b4, b5, fun h => absurd h (by decide), fun j m hj hM hs => ?_⟩
    obtain ⟨v, m', e1, e2, e3, e4⟩ := b7 j m hj hM hs
    exact ⟨v, m', by dsimp only; rw [e1, bdE, hFU, hM0 _ _ _ (e3 rfl).1], e2, e3, fun h => absurd h (by decide)⟩
  · obtain ⟨g1, g2, g3, g4, g5⟩ := b6 rfl
    have hp1n := b4.2.2.2.2.2.2.2
    obtain ⟨ok', x', p', sz', L', i1, i2, i3, i4, i5, i6, i7⟩ := loop_gen hn hB hop hrc hC0 hC1 hC2 hM0 hM1 hM2 n p1 0 FU x1 sz1 (by omega) (by unfold FU; omega) (by omega) b4 (by omega)
    refine ⟨ok', x', p', sz', L1 ++ L', by rw [b1, bdE]; exact i1, i2, b3.trans i3, i4, by omega, fun h => ?_, fun j m hj hM hs => ?_⟩
    · obtain ⟨q1, q2, q3, q4⟩ := i6 h
      refine ⟨by simp; omega, by simp; omega, by simp; omega, fun k hk => by rw [q3 k (by omega), g4 k hk], SO.app (g5.cg (fun k hk => q3 k (by omega))) ?_⟩
      rw [← g1]; exact q4
    · obtain ⟨v, m1, e1, e2, e3, e4⟩ := b7 j m hj hM hs
      obtain ⟨e5, e6⟩ := e4 rfl
      obtain ⟨v', m', f1, f2, f3, f4⟩ := i7 j m1 v hj e5 (e2.seat hs)
      refine ⟨v', m', by dsimp only; rw [e1, bdE]; exact f1, e2.trans f2, f3, fun h => ⟨(f4 h).1, ?_⟩⟩
      have := (f4 h).2 L1 (by rw [e2.env]; exact e6)
      rw [e2.env] at this
      exact this
end LOOP
