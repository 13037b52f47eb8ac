section RFROWS
variable {X : Mc} {w : Wd} {A : Nat → Prop} {own : String} {cc : ByteArray} {nL fr lo : Nat} {S : Nat → Nat × Nat} {Rf : Nat → Nat → Option Nat} {N : Nat} {ρ : Type} {Qf : ρ → State → Prop} {P P' : Option ρ} {pc : Nat} {lv lv' : List (Nat × Value)} {st : List Value} {σ : St}
theorem r_iconst (hC : Cok X w A own cc nL fr lo S Rf N) {n : Int} {v : Int32} (d : decode cc pc = .ok (.iconst n, 1)) (hv : Int32.ofInt n = v) (k : RF X w A nL Qf P (pc + 1) lv (.int v :: st) σ) : RF X w A nL Qf P pc lv st σ := by
  obtain ⟨p, l, e, R, s, m, args, below, meth, c, cells, slots⟩ := X
  obtain ⟨⟨hx, hb, hml, hown, hts⟩, hK, hA, hlk, hD, hR, hW, hX⟩ := hC
  dsimp only at hx hb hml hown hts hK hA hlk hR
  intro res hr H locs ls hP hS hl
  show W p l e R s m args below meth c H locs cells slots (Qf res) (F0 m pc ls _)
  exact lv_iconst hx hb d hv (k res hr H locs ls hP hS hl)

theorem r_bipush (hC : Cok X w A own cc nL fr lo S Rf N) {n : Int} {v : Int32} (d : decode cc pc = .ok (.bipush n, 2)) (hv : (Int8.ofInt n).toInt32 = v) (k : RF X w A nL Qf P (pc + 2) lv (.int v :: st) σ) : RF X w A nL Qf P pc lv st σ := by
  obtain ⟨p, l, e, R, s, m, args, below, meth, c, cells, slots⟩ := X
  obtain ⟨⟨hx, hb, hml, hown, hts⟩, hK, hA, hlk, hD, hR, hW, hX⟩ := hC
  dsimp only at hx hb hml hown hts hK hA hlk hR
  intro res hr H locs ls hP hS hl
  show W p l e R s m args below meth c H locs cells slots (Qf res) (F0 m pc ls _)
  exact lv_bipush hx hb d hv (k res hr H locs ls hP hS hl)

theorem r_sipush (hC : Cok X w A own cc nL fr lo S Rf N) {n : Int} {v : Int32} (d : decode cc pc = .ok (.sipush n, 3)) (hv : (Int16.ofInt n).toInt32 = v) (k : RF X w A nL Qf P (pc + 3) lv (.int v :: st) σ) : RF X w A nL Qf P pc lv st σ := by
  obtain ⟨p, l, e, R, s, m, args, below, meth, c, cells, slots⟩ := X
  obtain ⟨⟨hx, hb, hml, hown, hts⟩, hK, hA, hlk, hD, hR, hW, hX⟩ := hC
  dsimp only at hx hb hml hown hts hK hA hlk hR
  intro res hr H locs ls hP hS hl
  show W p l e R s m args below meth c H locs cells slots (Qf res) (F0 m pc ls _)
  exact lv_sipush hx hb d hv (k res hr H locs ls hP hS hl)

theorem r_lconst (hC : Cok X w A own cc nL fr lo S Rf N) {n : Fin 2} {v : Int64} (d : decode cc pc = .ok (.lconst n, 1)) (hv : Int64.ofNat (n : Nat) = v) (k : RF X w A nL Qf P (pc + 1) lv (.long v :: st) σ) : RF X w A nL Qf P pc lv st σ := by
  obtain ⟨p, l, e, R, s, m, args, below, meth, c, cells, slots⟩ := X
  obtain ⟨⟨hx, hb, hml, hown, hts⟩, hK, hA, hlk, hD, hR, hW, hX⟩ := hC
  dsimp only at hx hb hml hown hts hK hA hlk hR
  intro res hr H locs ls hP hS hl
  show W p l e R s m args below meth c H locs cells slots (Qf res) (F0 m pc ls _)
  exact lv_lconst hx hb d hv (k res hr H locs ls hP hS hl)

theorem r_ldc (hC : Cok X w A own cc nL fr lo S Rf N) {idx : Nat} {v : Int32} (lk : Cond.constant own idx v ∈ gw) (d : decode cc pc = .ok (.ldc idx, 2)) (k : RF X w A nL Qf P (pc + 2) lv (.int v :: st) σ) : RF X w A nL Qf P pc lv st σ := by
  obtain ⟨p, l, e, R, s, m, args, below, meth, c, cells, slots⟩ := X
  obtain ⟨⟨hx, hb, hml, hown, hts⟩, hK, hA, hlk, hD, hR, hW, hX⟩ := hC
  dsimp only at hx hb hml hown hts hK hA hlk hR
  intro res hr H locs ls hP hS hl
  show W p l e R s m args below meth c H locs cells slots (Qf res) (F0 m pc ls _)
  exact lv_ldc hx hb hown (hts _ lk) d (k res hr H locs ls hP hS hl)

theorem r_ldc2 (hC : Cok X w A own cc nL fr lo S Rf N) {idx : Nat} {v : Int64} (lk : Cond.constantLong own idx v ∈ gw) (d : decode cc pc = .ok (.ldc2_w idx, 3)) (k : RF X w A nL Qf P (pc + 3) lv (.long v :: st) σ) : RF X w A nL Qf P pc lv st σ := by
  obtain ⟨p, l, e, R, s, m, args, below, meth, c, cells, slots⟩ := X
  obtain ⟨⟨hx, hb, hml, hown, hts⟩, hK, hA, hlk, hD, hR, hW, hX⟩ := hC
  dsimp only at hx hb hml hown hts hK hA hlk hR
  intro res hr H locs ls hP hS hl
  show W p l e R s m args below meth c H locs cells slots (Qf res) (F0 m pc ls _)
  exact lv_ldc2 hx hb hown (hts _ lk) d (k res hr H locs ls hP hS hl)

theorem r_iload_n (hC : Cok X w A own cc nL fr lo S Rf N) {n : Fin 4} {i : Nat} {v : Int32} (d : decode cc pc = .ok (.iload_n n, 1)) (hi : (n : Nat) = i) (q : Nat) (hq : lv[q]? = some (i, .int v)) (k : RF X w A nL Qf P (pc + 1) lv (.int v :: st) σ) : RF X w A nL Qf P pc lv st σ := by
  obtain ⟨p, l, e, R, s, m, args, below, meth, c, cells, slots⟩ := X
  obtain ⟨⟨hx, hb, hml, hown, hts⟩, hK, hA, hlk, hD, hR, hW, hX⟩ := hC
  dsimp only at hx hb hml hown hts hK hA hlk hR
  intro res hr H locs ls hP hS hl
  show W p l e R s m args below meth c H locs cells slots (Qf res) (F0 m pc ls _)
  exact lv_iload_n hx hb d hi (lv_at hl q hq) (k res hr H locs ls hP hS hl)

theorem r_iload (hC : Cok X w A own cc nL fr lo S Rf N) {i : Nat} {v : Int32} (d : decode cc pc = .ok (.iload i, 2)) (q : Nat) (hq : lv[q]? = some (i, .int v)) (k : RF X w A nL Qf P (pc + 2) lv (.int v :: st) σ) : RF X w A nL Qf P pc lv st σ := by
  obtain ⟨p, l, e, R, s, m, args, below, meth, c, cells, slots⟩ := X
  obtain ⟨⟨hx, hb, hml, hown, hts⟩, hK, hA, hlk, hD, hR, hW, hX⟩ := hC
  dsimp only at hx hb hml hown hts hK hA hlk hR
  intro res hr H locs ls hP hS hl
  show W p l e R s m args below meth c H locs cells slots (Qf res) (F0 m pc ls _)
  exact lv_iload hx hb d (lv_at hl q hq) (k res hr H locs ls hP hS hl)

theorem r_istore_n (hC : Cok X w A own cc nL fr lo S Rf N) {n : Fin 4} {i : Nat} {v : Int32} (d : decode cc pc = .ok (.istore_n n, 1)) (hi : (n : Nat) = i) (hn : i < nL) (hq : (i, Value.int v) :: lv.filter (fun q => !(q.1 == i) && !(q.1 + 1 == i && q.2.category == 2)) = lv') (k : RF X w A nL Qf P (pc + 1) lv' st σ) : RF X w A nL Qf P pc lv (.int v :: st) σ := by
  obtain ⟨p, l, e, R, s, m, args, below, meth, c, cells, slots⟩ := X
  obtain ⟨⟨hx, hb, hml, hown, hts⟩, hK, hA, hlk, hD, hR, hW, hX⟩ := hC
  dsimp only at hx hb hml hown hts hK hA hlk hR
  intro res hr H locs ls hP hS hl
  show W p l e R s m args below meth c H locs cells slots (Qf res) (F0 m pc ls _)
  exact lv_istore_n hx hb d hi hl hn hq (fun ls hl => k res hr H locs ls hP hS hl)

theorem r_istore (hC : Cok X w A own cc nL fr lo S Rf N) {i : Nat} {v : Int32} (d : decode cc pc = .ok (.istore i, 2)) (hn : i < nL) (hq : (i, Value.int v) :: lv.filter (fun q => !(q.1 == i) && !(q.1 + 1 == i && q.2.category == 2)) = lv') (k : RF X w A nL Qf P (pc + 2) lv' st σ) : RF X w A nL Qf P pc lv (.int v :: st) σ := by
  obtain ⟨p, l, e, R, s, m, args, below, meth, c, cells, slots⟩ := X
  obtain ⟨⟨hx, hb, hml, hown, hts⟩, hK, hA, hlk, hD, hR, hW, hX⟩ := hC
  dsimp only at hx hb hml hown hts hK hA hlk hR
  intro res hr H locs ls hP hS hl
  show W p l e R s m args below meth c H locs cells slots (Qf res) (F0 m pc ls _)
  exact lv_istore hx hb d hl hn hq (fun ls hl => k res hr H locs ls hP hS hl)

theorem r_lload_n (hC : Cok X w A own cc nL fr lo S Rf N) {n : Fin 4} {i : Nat} {v : Int64} (d : decode cc pc = .ok (.lload_n n, 1)) (hi : (n : Nat) = i) (q : Nat) (hq : lv[q]? = some (i, .long v)) (k : RF X w A nL Qf P (pc + 1) lv (.long v :: st) σ) : RF X w A nL Qf P pc lv st σ := by
  obtain ⟨p, l, e, R, s, m, args, below, meth, c, cells, slots⟩ := X
  obtain ⟨⟨hx, hb, hml, hown, hts⟩, hK, hA, hlk, hD, hR, hW, hX⟩ := hC
  dsimp only at hx hb hml hown hts hK hA hlk hR
  intro res hr H locs ls hP hS hl
  show W p l e R s m args below meth c H locs cells slots (Qf res) (F0 m pc ls _)
  exact lv_lload_n hx hb d hi (lv_at hl q hq) (k res hr H locs ls hP hS hl)

theorem r_lload (hC : Cok X w A own cc nL fr lo S Rf N) {i : Nat} {v : Int64} (d : decode cc pc = .ok (.lload i, 2)) (q : Nat) (hq : lv[q]? = some (i, .long v)) (k : RF X w A nL Qf P (pc + 2) lv (.long v :: st) σ) : RF X w A nL Qf P pc lv st σ := by
  obtain ⟨p, l, e, R, s, m, args, below, meth, c, cells, slots⟩ := X
  obtain ⟨⟨hx, hb, hml, hown, hts⟩, hK, hA, hlk, hD, hR, hW, hX⟩ := hC
  dsimp only at hx hb hml hown hts hK hA hlk hR
  intro res hr H locs ls hP hS hl
  show W p l e R s m args below meth c H locs cells slots (Qf res) (F0 m pc ls _)
  exact lv_lload hx hb d (lv_at hl q hq) (k res hr H locs ls hP hS hl)

theorem r_lstore_n (hC : Cok X w A own cc nL fr lo S Rf N) {n : Fin 4} {i : Nat} {v : Int64} (d : decode cc pc = .ok (.lstore_n n, 1)) (hi : (n : Nat) = i) (hn : i + 1 < nL) (hq : (i, Value.long v) :: lv.filter (fun q => !(q.1 == i) && (!(q.1 == i + 1) && !(q.1 + 1 == i && q.2.category == 2))) = lv') (k : RF X w A nL Qf P (pc + 1) lv' st σ) : RF X w A nL Qf P pc lv (.long v :: st) σ := by
  obtain ⟨p, l, e, R, s, m, args, below, meth, c, cells, slots⟩ := X
  obtain ⟨⟨hx, hb, hml, hown, hts⟩, hK, hA, hlk, hD, hR, hW, hX⟩ := hC
  dsimp only at hx hb hml hown hts hK hA hlk hR
  intro res hr H locs ls hP hS hl
  show W p l e R s m args below meth c H locs cells slots (Qf res) (F0 m pc ls _)
  exact lv_lstore_n hx hb d hi hl hn hq (fun ls hl => k res hr H locs ls hP hS hl)

theorem r_lstore (hC : Cok X w A own cc nL fr lo S Rf N) {i : Nat} {v : Int64} (d : decode cc pc = .ok (.lstore i, 2)) (hn : i + 1 < nL) (hq : (i, Value.long v) :: lv.filter (fun q => !(q.1 == i) && (!(q.1 == i + 1) && !(q.1 + 1 == i && q.2.category == 2))) = lv') (k : RF X w A nL Qf P (pc + 2) lv' st σ) : RF X w A nL Qf P pc lv (.long v :: st) σ := by
  obtain ⟨p, l, e, R, s, m, args, below, meth, c, cells, slots⟩ := X
  obtain ⟨⟨hx, hb, hml, hown, hts⟩, hK, hA, hlk, hD, hR, hW, hX⟩ := hC
  dsimp only at hx hb hml hown hts hK hA hlk hR
  intro res hr H locs ls hP hS hl
  show W p l e R s m args below meth c H locs cells slots (Qf res) (F0 m pc ls _)
  exact lv_lstore hx hb d hl hn hq (fun ls hl => k res hr H locs ls hP hS hl)

theorem r_aload_n (hC : Cok X w A own cc nL fr lo S Rf N) {n : Fin 4} {i : Nat} {v : Nat} (d : decode cc pc = .ok (.aload_n n, 1)) (hi : (n : Nat) = i) (q : Nat) (hq : lv[q]? = some (i, .ref v)) (k : RF X w A nL Qf P (pc + 1) lv (.ref v :: st) σ) : RF X w A nL Qf P pc lv st σ := by
  obtain ⟨p, l, e, R, s, m, args, below, meth, c, cells, slots⟩ := X
  obtain ⟨⟨hx, hb, hml, hown, hts⟩, hK, hA, hlk, hD, hR, hW, hX⟩ := hC
  dsimp only at hx hb hml hown hts hK hA hlk hR
  intro res hr H locs ls hP hS hl
  show W p l e R s m args below meth c H locs cells slots (Qf res) (F0 m pc ls _)
  exact lv_aload_n hx hb d hi (lv_at hl q hq) (k res hr H locs ls hP hS hl)

theorem r_aload (hC : Cok X w A own cc nL fr lo S Rf N) {i : Nat} {v : Nat} (d : decode cc pc = .ok (.aload i, 2)) (q : Nat) (hq : lv[q]? = some (i, .ref v)) (k : RF X w A nL Qf P (pc + 2) lv (.ref v :: st) σ) : RF X w A nL Qf P pc lv st σ := by
  obtain ⟨p, l, e, R, s, m, args, below, meth, c, cells, slots⟩ := X
  obtain ⟨⟨hx, hb, hml, hown, hts⟩, hK, hA, hlk, hD, hR, hW, hX⟩ := hC
  dsimp only at hx hb hml hown hts hK hA hlk hR
  intro res hr H locs ls hP hS hl
  show W p l e R s m args below meth c H locs cells slots (Qf res) (F0 m pc ls _)
  exact lv_aload hx hb d (lv_at hl q hq) (k res hr H locs ls hP hS hl)

theorem r_astore_n (hC : Cok X w A own cc nL fr lo S Rf N) {n : Fin 4} {i : Nat} {v : Nat} (d : decode cc pc = .ok (.astore_n n, 1)) (hi : (n : Nat) = i) (hn : i < nL) (hq : (i, Value.ref v) :: lv.filter (fun q => !(q.1 == i) && !(q.1 + 1 == i && q.2.category == 2)) = lv') (k : RF X w A nL Qf P (pc + 1) lv' st σ) : RF X w A nL Qf P pc lv (.ref v :: st) σ := by
  obtain ⟨p, l, e, R, s, m, args, below, meth, c, cells, slots⟩ := X
  obtain ⟨⟨hx, hb, hml, hown, hts⟩, hK, hA, hlk, hD, hR, hW, hX⟩ := hC
  dsimp only at hx hb hml hown hts hK hA hlk hR
  intro res hr H locs ls hP hS hl
  show W p l e R s m args below meth c H locs cells slots (Qf res) (F0 m pc ls _)
  exact lv_astore_n hx hb d hi hl hn hq (fun ls hl => k res hr H locs ls hP hS hl)

theorem r_astore (hC : Cok X w A own cc nL fr lo S Rf N) {i : Nat} {v : Nat} (d : decode cc pc = .ok (.astore i, 2)) (hn : i < nL) (hq : (i, Value.ref v) :: lv.filter (fun q => !(q.1 == i) && !(q.1 + 1 == i && q.2.category == 2)) = lv') (k : RF X w A nL Qf P (pc + 2) lv' st σ) : RF X w A nL Qf P pc lv (.ref v :: st) σ := by
  obtain ⟨p, l, e, R, s, m, args, below, meth, c, cells, slots⟩ := X
  obtain ⟨⟨hx, hb, hml, hown, hts⟩, hK, hA, hlk, hD, hR, hW, hX⟩ := hC
  dsimp only at hx hb hml hown hts hK hA hlk hR
  intro res hr H locs ls hP hS hl
  show W p l e R s m args below meth c H locs cells slots (Qf res) (F0 m pc ls _)
  exact lv_astore hx hb d hl hn hq (fun ls hl => k res hr H locs ls hP hS hl)

theorem r_iinc (hC : Cok X w A own cc nL fr lo S Rf N) {i : Nat} {n : Int} {x v : Int32} (d : decode cc pc = .ok (.iinc i n, 3)) (q : Nat) (hq : lv[q]? = some (i, .int x)) (hv : x + Int32.ofInt n = v) (hn : i < nL) (hl' : (i, Value.int v) :: lv.filter (fun q => !(q.1 == i) && !(q.1 + 1 == i && q.2.category == 2)) = lv') (k : RF X w A nL Qf P (pc + 3) lv' st σ) : RF X w A nL Qf P pc lv st σ := by
  obtain ⟨p, l, e, R, s, m, args, below, meth, c, cells, slots⟩ := X
  obtain ⟨⟨hx, hb, hml, hown, hts⟩, hK, hA, hlk, hD, hR, hW, hX⟩ := hC
  dsimp only at hx hb hml hown hts hK hA hlk hR
  intro res hr H locs ls hP hS hl
  show W p l e R s m args below meth c H locs cells slots (Qf res) (F0 m pc ls _)
  exact lv_iinc hx hb d hl hq hv hn hl' (fun ls hl => k res hr H locs ls hP hS hl)

theorem r_iadd (hC : Cok X w A own cc nL fr lo S Rf N) {x y : Int32} (d : decode cc pc = .ok (.iadd, 1)) (k : RF X w A nL Qf P (pc + 1) lv (.int (x + y) :: st) σ) : RF X w A nL Qf P pc lv (.int y :: .int x :: st) σ := by
  obtain ⟨p, l, e, R, s, m, args, below, meth, c, cells, slots⟩ := X
  obtain ⟨⟨hx, hb, hml, hown, hts⟩, hK, hA, hlk, hD, hR, hW, hX⟩ := hC
  dsimp only at hx hb hml hown hts hK hA hlk hR
  intro res hr H locs ls hP hS hl
  show W p l e R s m args below meth c H locs cells slots (Qf res) (F0 m pc ls _)
  exact lv_iadd hx hb d (k res hr H locs ls hP hS hl)

theorem r_isub (hC : Cok X w A own cc nL fr lo S Rf N) {x y : Int32} (d : decode cc pc = .ok (.isub, 1)) (k : RF X w A nL Qf P (pc + 1) lv (.int (x - y) :: st) σ) : RF X w A nL Qf P pc lv (.int y :: .int x :: st) σ := by
  obtain ⟨p, l, e, R, s, m, args, below, meth, c, cells, slots⟩ := X
  obtain ⟨⟨hx, hb, hml, hown, hts⟩, hK, hA, hlk, hD, hR, hW, hX⟩ := hC
  dsimp only at hx hb hml hown hts hK hA hlk hR
  intro res hr H locs ls hP hS hl
  show W p l e R s m args below meth c H locs cells slots (Qf res) (F0 m pc ls _)
  exact lv_isub hx hb d (k res hr H locs ls hP hS hl)

theorem r_imul (hC : Cok X w A own cc nL fr lo S Rf N) {x y : Int32} (d : decode cc pc = .ok (.imul, 1)) (k : RF X w A nL Qf P (pc + 1) lv (.int (x * y) :: st) σ) : RF X w A nL Qf P pc lv (.int y :: .int x :: st) σ := by
  obtain ⟨p, l, e, R, s, m, args, below, meth, c, cells, slots⟩ := X
  obtain ⟨⟨hx, hb, hml, hown, hts⟩, hK, hA, hlk, hD, hR, hW, hX⟩ := hC
  dsimp only at hx hb hml hown hts hK hA hlk hR
  intro res hr H locs ls hP hS hl
  show W p l e R s m args below meth c H locs cells slots (Qf res) (F0 m pc ls _)
  exact lv_imul hx hb d (k res hr H locs ls hP hS hl)

theorem r_iand (hC : Cok X w A own cc nL fr lo S Rf N) {x y : Int32} (d : decode cc pc = .ok (.iand, 1)) (k : RF X w A nL Qf P (pc + 1) lv (.int (x &&& y) :: st) σ) : RF X w A nL Qf P pc lv (.int y :: .int x :: st) σ := by
  obtain ⟨p, l, e, R, s, m, args, below, meth, c, cells, slots⟩ := X
  obtain ⟨⟨hx, hb, hml, hown, hts⟩, hK, hA, hlk, hD, hR, hW, hX⟩ := hC
  dsimp only at hx hb hml hown hts hK hA hlk hR
  intro res hr H locs ls hP hS hl
  show W p l e R s m args below meth c H locs cells slots (Qf res) (F0 m pc ls _)
  exact lv_iand hx hb d (k res hr H locs ls hP hS hl)

theorem r_ior (hC : Cok X w A own cc nL fr lo S Rf N) {x y : Int32} (d : decode cc pc = .ok (.ior, 1)) (k : RF X w A nL Qf P (pc + 1) lv (.int (x ||| y) :: st) σ) : RF X w A nL Qf P pc lv (.int y :: .int x :: st) σ := by
  obtain ⟨p, l, e, R, s, m, args, below, meth, c, cells, slots⟩ := X
  obtain ⟨⟨hx, hb, hml, hown, hts⟩, hK, hA, hlk, hD, hR, hW, hX⟩ := hC
  dsimp only at hx hb hml hown hts hK hA hlk hR
  intro res hr H locs ls hP hS hl
  show W p l e R s m args below meth c H locs cells slots (Qf res) (F0 m pc ls _)
  exact lv_ior hx hb d (k res hr H locs ls hP hS hl)

theorem r_ixor (hC : Cok X w A own cc nL fr lo S Rf N) {x y : Int32} (d : decode cc pc = .ok (.ixor, 1)) (k : RF X w A nL Qf P (pc + 1) lv (.int (x ^^^ y) :: st) σ) : RF X w A nL Qf P pc lv (.int y :: .int x :: st) σ := by
  obtain ⟨p, l, e, R, s, m, args, below, meth, c, cells, slots⟩ := X
  obtain ⟨⟨hx, hb, hml, hown, hts⟩, hK, hA, hlk, hD, hR, hW, hX⟩ := hC
  dsimp only at hx hb hml hown hts hK hA hlk hR
  intro res hr H locs ls hP hS hl
  show W p l e R s m args below meth c H locs cells slots (Qf res) (F0 m pc ls _)
  exact lv_ixor hx hb d (k res hr H locs ls hP hS hl)

theorem r_ishl (hC : Cok X w A own cc nL fr lo S Rf N) {x y : Int32} (d : decode cc pc = .ok (.ishl, 1)) (k : RF X w A nL Qf P (pc + 1) lv (.int (x <<< (y &&& 31)) :: st) σ) : RF X w A nL Qf P pc lv (.int y :: .int x :: st) σ := by
  obtain ⟨p, l, e, R, s, m, args, below, meth, c, cells, slots⟩ := X
  obtain ⟨⟨hx, hb, hml, hown, hts⟩, hK, hA, hlk, hD, hR, hW, hX⟩ := hC
  dsimp only at hx hb hml hown hts hK hA hlk hR
  intro res hr H locs ls hP hS hl
  show W p l e R s m args below meth c H locs cells slots (Qf res) (F0 m pc ls _)
  exact lv_ishl hx hb d (k res hr H locs ls hP hS hl)

theorem r_ishr (hC : Cok X w A own cc nL fr lo S Rf N) {x y : Int32} (d : decode cc pc = .ok (.ishr, 1)) (k : RF X w A nL Qf P (pc + 1) lv (.int (x >>> (y &&& 31)) :: st) σ) : RF X w A nL Qf P pc lv (.int y :: .int x :: st) σ := by
  obtain ⟨p, l, e, R, s, m, args, below, meth, c, cells, slots⟩ := X
  obtain ⟨⟨hx, hb, hml, hown, hts⟩, hK, hA, hlk, hD, hR, hW, hX⟩ := hC
  dsimp only at hx hb hml hown hts hK hA hlk hR
  intro res hr H locs ls hP hS hl
  show W p l e R s m args below meth c H locs cells slots (Qf res) (F0 m pc ls _)
  exact lv_ishr hx hb d (k res hr H locs ls hP hS hl)

theorem r_ladd (hC : Cok X w A own cc nL fr lo S Rf N) {x y : Int64} (d : decode cc pc = .ok (.ladd, 1)) (k : RF X w A nL Qf P (pc + 1) lv (.long (x + y) :: st) σ) : RF X w A nL Qf P pc lv (.long y :: .long x :: st) σ := by
  obtain ⟨p, l, e, R, s, m, args, below, meth, c, cells, slots⟩ := X
  obtain ⟨⟨hx, hb, hml, hown, hts⟩, hK, hA, hlk, hD, hR, hW, hX⟩ := hC
  dsimp only at hx hb hml hown hts hK hA hlk hR
  intro res hr H locs ls hP hS hl
  show W p l e R s m args below meth c H locs cells slots (Qf res) (F0 m pc ls _)
  exact lv_ladd hx hb d (k res hr H locs ls hP hS hl)

theorem r_lsub (hC : Cok X w A own cc nL fr lo S Rf N) {x y : Int64} (d : decode cc pc = .ok (.lsub, 1)) (k : RF X w A nL Qf P (pc + 1) lv (.long (x - y) :: st) σ) : RF X w A nL Qf P pc lv (.long y :: .long x :: st) σ := by
  obtain ⟨p, l, e, R, s, m, args, below, meth, c, cells, slots⟩ := X
  obtain ⟨⟨hx, hb, hml, hown, hts⟩, hK, hA, hlk, hD, hR, hW, hX⟩ := hC
  dsimp only at hx hb hml hown hts hK hA hlk hR
  intro res hr H locs ls hP hS hl
  show W p l e R s m args below meth c H locs cells slots (Qf res) (F0 m pc ls _)
  exact lv_lsub hx hb d (k res hr H locs ls hP hS hl)

theorem r_lmul (hC : Cok X w A own cc nL fr lo S Rf N) {x y : Int64} (d : decode cc pc = .ok (.lmul, 1)) (k : RF X w A nL Qf P (pc + 1) lv (.long (x * y) :: st) σ) : RF X w A nL Qf P pc lv (.long y :: .long x :: st) σ := by
  obtain ⟨p, l, e, R, s, m, args, below, meth, c, cells, slots⟩ := X
  obtain ⟨⟨hx, hb, hml, hown, hts⟩, hK, hA, hlk, hD, hR, hW, hX⟩ := hC
  dsimp only at hx hb hml hown hts hK hA hlk hR
  intro res hr H locs ls hP hS hl
  show W p l e R s m args below meth c H locs cells slots (Qf res) (F0 m pc ls _)
  exact lv_lmul hx hb d (k res hr H locs ls hP hS hl)

theorem r_land (hC : Cok X w A own cc nL fr lo S Rf N) {x y : Int64} (d : decode cc pc = .ok (.land, 1)) (k : RF X w A nL Qf P (pc + 1) lv (.long (x &&& y) :: st) σ) : RF X w A nL Qf P pc lv (.long y :: .long x :: st) σ := by
  obtain ⟨p, l, e, R, s, m, args, below, meth, c, cells, slots⟩ := X
  obtain ⟨⟨hx, hb, hml, hown, hts⟩, hK, hA, hlk, hD, hR, hW, hX⟩ := hC
  dsimp only at hx hb hml hown hts hK hA hlk hR
  intro res hr H locs ls hP hS hl
  show W p l e R s m args below meth c H locs cells slots (Qf res) (F0 m pc ls _)
  exact lv_land hx hb d (k res hr H locs ls hP hS hl)

theorem r_lor (hC : Cok X w A own cc nL fr lo S Rf N) {x y : Int64} (d : decode cc pc = .ok (.lor, 1)) (k : RF X w A nL Qf P (pc + 1) lv (.long (x ||| y) :: st) σ) : RF X w A nL Qf P pc lv (.long y :: .long x :: st) σ := by
  obtain ⟨p, l, e, R, s, m, args, below, meth, c, cells, slots⟩ := X
  obtain ⟨⟨hx, hb, hml, hown, hts⟩, hK, hA, hlk, hD, hR, hW, hX⟩ := hC
  dsimp only at hx hb hml hown hts hK hA hlk hR
  intro res hr H locs ls hP hS hl
  show W p l e R s m args below meth c H locs cells slots (Qf res) (F0 m pc ls _)
  exact lv_lor hx hb d (k res hr H locs ls hP hS hl)

theorem r_iushr (hC : Cok X w A own cc nL fr lo S Rf N) {x y : Int32} (d : decode cc pc = .ok (.iushr, 1)) (k : RF X w A nL Qf P (pc + 1) lv (.int (x.toUInt32 >>> (y.toUInt32 &&& Int32.toUInt32 31)).toInt32 :: st) σ) : RF X w A nL Qf P pc lv (.int y :: .int x :: st) σ := by
  obtain ⟨p, l, e, R, s, m, args, below, meth, c, cells, slots⟩ := X
  obtain ⟨⟨hx, hb, hml, hown, hts⟩, hK, hA, hlk, hD, hR, hW, hX⟩ := hC
  dsimp only at hx hb hml hown hts hK hA hlk hR
  intro res hr H locs ls hP hS hl
  show W p l e R s m args below meth c H locs cells slots (Qf res) (F0 m pc ls _)
  exact lv_iushr hx hb d rfl (k res hr H locs ls hP hS hl)

theorem r_ldcw (hC : Cok X w A own cc nL fr lo S Rf N) {idx : Nat} {v : Int32} (lk : Cond.constant own idx v ∈ gw) (d : decode cc pc = .ok (.ldc_w idx, 3)) (k : RF X w A nL Qf P (pc + 3) lv (.int v :: st) σ) : RF X w A nL Qf P pc lv st σ := by
  obtain ⟨p, l, e, R, s, m, args, below, meth, c, cells, slots⟩ := X
  obtain ⟨⟨hx, hb, hml, hown, hts⟩, hK, hA, hlk, hD, hR, hW, hX⟩ := hC
  dsimp only at hx hb hml hown hts hK hA hlk hR
  intro res hr H locs ls hP hS hl
  show W p l e R s m args below meth c H locs cells slots (Qf res) (F0 m pc ls _)
  exact lv_ldcw hx hb hown (hts _ lk) d (k res hr H locs ls hP hS hl)

theorem r_lshl (hC : Cok X w A own cc nL fr lo S Rf N) {x : Int64} {y : Int32} (d : decode cc pc = .ok (.lshl, 1)) (k : RF X w A nL Qf P (pc + 1) lv (.long (x <<< (y.toInt64 &&& 63)) :: st) σ) : RF X w A nL Qf P pc lv (.int y :: .long x :: st) σ := by
  obtain ⟨p, l, e, R, s, m, args, below, meth, c, cells, slots⟩ := X
  obtain ⟨⟨hx, hb, hml, hown, hts⟩, hK, hA, hlk, hD, hR, hW, hX⟩ := hC
  dsimp only at hx hb hml hown hts hK hA hlk hR
  intro res hr H locs ls hP hS hl
  show W p l e R s m args below meth c H locs cells slots (Qf res) (F0 m pc ls _)
  exact lv_lshl hx hb d rfl (k res hr H locs ls hP hS hl)

theorem r_lshr (hC : Cok X w A own cc nL fr lo S Rf N) {x : Int64} {y : Int32} (d : decode cc pc = .ok (.lshr, 1)) (k : RF X w A nL Qf P (pc + 1) lv (.long (x >>> (y.toInt64 &&& 63)) :: st) σ) : RF X w A nL Qf P pc lv (.int y :: .long x :: st) σ := by
  obtain ⟨p, l, e, R, s, m, args, below, meth, c, cells, slots⟩ := X
  obtain ⟨⟨hx, hb, hml, hown, hts⟩, hK, hA, hlk, hD, hR, hW, hX⟩ := hC
  dsimp only at hx hb hml hown hts hK hA hlk hR
  intro res hr H locs ls hP hS hl
  show W p l e R s m args below meth c H locs cells slots (Qf res) (F0 m pc ls _)
  exact lv_lshr hx hb d rfl (k res hr H locs ls hP hS hl)

theorem r_idiv (hC : Cok X w A own cc nL fr lo S Rf N) {x y : Int32} (d : decode cc pc = .ok (.idiv, 1)) (hne : ¬ y = 0) (k : RF X w A nL Qf P (pc + 1) lv (.int (x / y) :: st) σ) : RF X w A nL Qf P pc lv (.int y :: .int x :: st) σ := by
  obtain ⟨p, l, e, R, s, m, args, below, meth, c, cells, slots⟩ := X
  obtain ⟨⟨hx, hb, hml, hown, hts⟩, hK, hA, hlk, hD, hR, hW, hX⟩ := hC
  dsimp only at hx hb hml hown hts hK hA hlk hR
  intro res hr H locs ls hP hS hl
  show W p l e R s m args below meth c H locs cells slots (Qf res) (F0 m pc ls _)
  exact lv_idiv hx hb d hne (k res hr H locs ls hP hS hl)

theorem r_irem (hC : Cok X w A own cc nL fr lo S Rf N) {x y : Int32} (d : decode cc pc = .ok (.irem, 1)) (hne : ¬ y = 0) (k : RF X w A nL Qf P (pc + 1) lv (.int (x - x / y * y) :: st) σ) : RF X w A nL Qf P pc lv (.int y :: .int x :: st) σ := by
  obtain ⟨p, l, e, R, s, m, args, below, meth, c, cells, slots⟩ := X
  obtain ⟨⟨hx, hb, hml, hown, hts⟩, hK, hA, hlk, hD, hR, hW, hX⟩ := hC
  dsimp only at hx hb hml hown hts hK hA hlk hR
  intro res hr H locs ls hP hS hl
  show W p l e R s m args below meth c H locs cells slots (Qf res) (F0 m pc ls _)
  exact lv_irem hx hb d hne (k res hr H locs ls hP hS hl)

theorem r_ldiv (hC : Cok X w A own cc nL fr lo S Rf N) {x y : Int64} (d : decode cc pc = .ok (.ldiv, 1)) (hne : ¬ y = 0) (k : RF X w A nL Qf P (pc + 1) lv (.long (x / y) :: st) σ) : RF X w A nL Qf P pc lv (.long y :: .long x :: st) σ := by
  obtain ⟨p, l, e, R, s, m, args, below, meth, c, cells, slots⟩ := X
  obtain ⟨⟨hx, hb, hml, hown, hts⟩, hK, hA, hlk, hD, hR, hW, hX⟩ := hC
  dsimp only at hx hb hml hown hts hK hA hlk hR
  intro res hr H locs ls hP hS hl
  show W p l e R s m args below meth c H locs cells slots (Qf res) (F0 m pc ls _)
  exact lv_ldiv hx hb d hne (k res hr H locs ls hP hS hl)

theorem r_lrem (hC : Cok X w A own cc nL fr lo S Rf N) {x y : Int64} (d : decode cc pc = .ok (.lrem, 1)) (hne : ¬ y = 0) (k : RF X w A nL Qf P (pc + 1) lv (.long (x - x / y * y) :: st) σ) : RF X w A nL Qf P pc lv (.long y :: .long x :: st) σ := by
  obtain ⟨p, l, e, R, s, m, args, below, meth, c, cells, slots⟩ := X
  obtain ⟨⟨hx, hb, hml, hown, hts⟩, hK, hA, hlk, hD, hR, hW, hX⟩ := hC
  dsimp only at hx hb hml hown hts hK hA hlk hR
  intro res hr H locs ls hP hS hl
  show W p l e R s m args below meth c H locs cells slots (Qf res) (F0 m pc ls _)
  exact lv_lrem hx hb d hne (k res hr H locs ls hP hS hl)

theorem r_ineg (hC : Cok X w A own cc nL fr lo S Rf N) {x : Int32} (d : decode cc pc = .ok (.ineg, 1)) (k : RF X w A nL Qf P (pc + 1) lv (.int (-x) :: st) σ) : RF X w A nL Qf P pc lv (.int x :: st) σ := by
  obtain ⟨p, l, e, R, s, m, args, below, meth, c, cells, slots⟩ := X
  obtain ⟨⟨hx, hb, hml, hown, hts⟩, hK, hA, hlk, hD, hR, hW, hX⟩ := hC
  dsimp only at hx hb hml hown hts hK hA hlk hR
  intro res hr H locs ls hP hS hl
  show W p l e R s m args below meth c H locs cells slots (Qf res) (F0 m pc ls _)
  exact lv_ineg hx hb d (k res hr H locs ls hP hS hl)

theorem r_lneg (hC : Cok X w A own cc nL fr lo S Rf N) {x : Int64} (d : decode cc pc = .ok (.lneg, 1)) (k : RF X w A nL Qf P (pc + 1) lv (.long (-x) :: st) σ) : RF X w A nL Qf P pc lv (.long x :: st) σ := by
  obtain ⟨p, l, e, R, s, m, args, below, meth, c, cells, slots⟩ := X
  obtain ⟨⟨hx, hb, hml, hown, hts⟩, hK, hA, hlk, hD, hR, hW, hX⟩ := hC
  dsimp only at hx hb hml hown hts hK hA hlk hR
  intro res hr H locs ls hP hS hl
  show W p l e R s m args below meth c H locs cells slots (Qf res) (F0 m pc ls _)
  exact lv_lneg hx hb d (k res hr H locs ls hP hS hl)

theorem r_i2l (hC : Cok X w A own cc nL fr lo S Rf N) {x : Int32} (d : decode cc pc = .ok (.i2l, 1)) (k : RF X w A nL Qf P (pc + 1) lv (.long (x.toInt64) :: st) σ) : RF X w A nL Qf P pc lv (.int x :: st) σ := by
  obtain ⟨p, l, e, R, s, m, args, below, meth, c, cells, slots⟩ := X
  obtain ⟨⟨hx, hb, hml, hown, hts⟩, hK, hA, hlk, hD, hR, hW, hX⟩ := hC
  dsimp only at hx hb hml hown hts hK hA hlk hR
  intro res hr H locs ls hP hS hl
  show W p l e R s m args below meth c H locs cells slots (Qf res) (F0 m pc ls _)
  exact lv_i2l hx hb d rfl (k res hr H locs ls hP hS hl)

theorem r_l2i (hC : Cok X w A own cc nL fr lo S Rf N) {x : Int64} (d : decode cc pc = .ok (.l2i, 1)) (k : RF X w A nL Qf P (pc + 1) lv (.int (x.toInt32) :: st) σ) : RF X w A nL Qf P pc lv (.long x :: st) σ := by
  obtain ⟨p, l, e, R, s, m, args, below, meth, c, cells, slots⟩ := X
  obtain ⟨⟨hx, hb, hml, hown, hts⟩, hK, hA, hlk, hD, hR, hW, hX⟩ := hC
  dsimp only at hx hb hml hown hts hK hA hlk hR
  intro res hr H locs ls hP hS hl
  show W p l e R s m args below meth c H locs cells slots (Qf res) (F0 m pc ls _)
  exact lv_l2i hx hb d rfl (k res hr H locs ls hP hS hl)

theorem r_i2b (hC : Cok X w A own cc nL fr lo S Rf N) {x : Int32} (d : decode cc pc = .ok (.i2b, 1)) (k : RF X w A nL Qf P (pc + 1) lv (.int (x.toInt8.toInt32) :: st) σ) : RF X w A nL Qf P pc lv (.int x :: st) σ := by
  obtain ⟨p, l, e, R, s, m, args, below, meth, c, cells, slots⟩ := X
  obtain ⟨⟨hx, hb, hml, hown, hts⟩, hK, hA, hlk, hD, hR, hW, hX⟩ := hC
  dsimp only at hx hb hml hown hts hK hA hlk hR
  intro res hr H locs ls hP hS hl
  show W p l e R s m args below meth c H locs cells slots (Qf res) (F0 m pc ls _)
  exact lv_i2b hx hb d rfl (k res hr H locs ls hP hS hl)

theorem r_i2s (hC : Cok X w A own cc nL fr lo S Rf N) {x : Int32} (d : decode cc pc = .ok (.i2s, 1)) (k : RF X w A nL Qf P (pc + 1) lv (.int (x.toInt16.toInt32) :: st) σ) : RF X w A nL Qf P pc lv (.int x :: st) σ := by
  obtain ⟨p, l, e, R, s, m, args, below, meth, c, cells, slots⟩ := X
  obtain ⟨⟨hx, hb, hml, hown, hts⟩, hK, hA, hlk, hD, hR, hW, hX⟩ := hC
  dsimp only at hx hb hml hown hts hK hA hlk hR
  intro res hr H locs ls hP hS hl
  show W p l e R s m args below meth c H locs cells slots (Qf res) (F0 m pc ls _)
  exact lv_i2s hx hb d rfl (k res hr H locs ls hP hS hl)

theorem r_i2c (hC : Cok X w A own cc nL fr lo S Rf N) {x : Int32} (d : decode cc pc = .ok (.i2c, 1)) (k : RF X w A nL Qf P (pc + 1) lv (.int ((x.toUInt32 % 65536).toInt32) :: st) σ) : RF X w A nL Qf P pc lv (.int x :: st) σ := by
  obtain ⟨p, l, e, R, s, m, args, below, meth, c, cells, slots⟩ := X
  obtain ⟨⟨hx, hb, hml, hown, hts⟩, hK, hA, hlk, hD, hR, hW, hX⟩ := hC
  dsimp only at hx hb hml hown hts hK hA hlk hR
  intro res hr H locs ls hP hS hl
  show W p l e R s m args below meth c H locs cells slots (Qf res) (F0 m pc ls _)
  exact lv_i2c hx hb d rfl (k res hr H locs ls hP hS hl)

theorem r_dup (hC : Cok X w A own cc nL fr lo S Rf N) {v : Value} (d : decode cc pc = .ok (.dup, 1)) (hv : v.category = 1) (k : RF X w A nL Qf P (pc + 1) lv (v :: v :: st) σ) : RF X w A nL Qf P pc lv (v :: st) σ := by
  obtain ⟨p, l, e, R, s, m, args, below, meth, c, cells, slots⟩ := X
  obtain ⟨⟨hx, hb, hml, hown, hts⟩, hK, hA, hlk, hD, hR, hW, hX⟩ := hC
  dsimp only at hx hb hml hown hts hK hA hlk hR
  intro res hr H locs ls hP hS hl
  show W p l e R s m args below meth c H locs cells slots (Qf res) (F0 m pc ls _)
  exact lv_dup hx hb d hv (k res hr H locs ls hP hS hl)

theorem r_pop (hC : Cok X w A own cc nL fr lo S Rf N) {v : Value} (d : decode cc pc = .ok (.pop, 1)) (hv : v.category = 1) (k : RF X w A nL Qf P (pc + 1) lv st σ) : RF X w A nL Qf P pc lv (v :: st) σ := by
  obtain ⟨p, l, e, R, s, m, args, below, meth, c, cells, slots⟩ := X
  obtain ⟨⟨hx, hb, hml, hown, hts⟩, hK, hA, hlk, hD, hR, hW, hX⟩ := hC
  dsimp only at hx hb hml hown hts hK hA hlk hR
  intro res hr H locs ls hP hS hl
  show W p l e R s m args below meth c H locs cells slots (Qf res) (F0 m pc ls _)
  exact lv_pop hx hb d hv (k res hr H locs ls hP hS hl)

theorem r_goto (hC : Cok X w A own cc nL fr lo S Rf N) {off : Int} (tgt : Nat) (d : decode cc pc = .ok (.goto off, 3)) (ht : (pc : Int) + off = (tgt : Int)) (k : RF X w A nL Qf P tgt lv st σ) : RF X w A nL Qf P pc lv st σ := by
  obtain ⟨p, l, e, R, s, m, args, below, meth, c, cells, slots⟩ := X
  obtain ⟨⟨hx, hb, hml, hown, hts⟩, hK, hA, hlk, hD, hR, hW, hX⟩ := hC
  dsimp only at hx hb hml hown hts hK hA hlk hR
  intro res hr H locs ls hP hS hl
  show W p l e R s m args below meth c H locs cells slots (Qf res) (F0 m pc ls _)
  exact lv_goto hx hb d ht (k res hr H locs ls hP hS hl)

theorem r_if_eq (hC : Cok X w A own cc nL fr lo S Rf N) {x : Int32} {off : Int} (tgt : Nat) (d : decode cc pc = .ok (.ifCond .eq off, 3)) (ht : (pc : Int) + off = (tgt : Int)) (kt : x = 0 → RF X w A nL Qf P tgt lv st σ) (kf : ¬ x = 0 → RF X w A nL Qf P' (pc + 3) lv st σ) : RF X w A nL Qf (if x = 0 then P else P') pc lv (.int x :: st) σ := by
  obtain ⟨p, l, e, R, s, m, args, below, meth, c, cells, slots⟩ := X
  obtain ⟨⟨hx, hb, hml, hown, hts⟩, hK, hA, hlk, hD, hR, hW, hX⟩ := hC
  dsimp only at hx hb hml hown hts hK hA hlk hR
  intro res hr H locs ls hP hS hl
  show W p l e R s m args below meth c H locs cells slots (Qf res) (F0 m pc ls _)
  exact lv_if_eq hx hb d ht (fun hc => kt hc res (by rw [if_pos hc] at hr; exact hr) H locs ls hP hS hl) (fun hc => kf hc res (by rw [if_neg hc] at hr; exact hr) H locs ls hP hS hl)

theorem r_icmp_eq (hC : Cok X w A own cc nL fr lo S Rf N) {x y : Int32} {off : Int} (tgt : Nat) (d : decode cc pc = .ok (.if_icmp .eq off, 3)) (ht : (pc : Int) + off = (tgt : Int)) (kt : x = y → RF X w A nL Qf P tgt lv st σ) (kf : ¬ x = y → RF X w A nL Qf P' (pc + 3) lv st σ) : RF X w A nL Qf (if x = y then P else P') pc lv (.int y :: .int x :: st) σ := by
  obtain ⟨p, l, e, R, s, m, args, below, meth, c, cells, slots⟩ := X
  obtain ⟨⟨hx, hb, hml, hown, hts⟩, hK, hA, hlk, hD, hR, hW, hX⟩ := hC
  dsimp only at hx hb hml hown hts hK hA hlk hR
  intro res hr H locs ls hP hS hl
  show W p l e R s m args below meth c H locs cells slots (Qf res) (F0 m pc ls _)
  exact lv_icmp_eq hx hb d ht (fun hc => kt hc res (by rw [if_pos hc] at hr; exact hr) H locs ls hP hS hl) (fun hc => kf hc res (by rw [if_neg hc] at hr; exact hr) H locs ls hP hS hl)

theorem r_lcmp_eq (hC : Cok X w A own cc nL fr lo S Rf N) {x y : Int64} {off : Int} (tgt : Nat) (d0 : decode cc pc = .ok (.lcmp, 1)) (d : decode cc (pc + 1) = .ok (.ifCond .eq off, 3)) (ht : ((pc + 1 : Nat) : Int) + off = (tgt : Int)) (kt : x = y → RF X w A nL Qf P tgt lv st σ) (kf : ¬ x = y → RF X w A nL Qf P' (pc + 4) lv st σ) : RF X w A nL Qf (if x = y then P else P') pc lv (.long y :: .long x :: st) σ := by
  obtain ⟨p, l, e, R, s, m, args, below, meth, c, cells, slots⟩ := X
  obtain ⟨⟨hx, hb, hml, hown, hts⟩, hK, hA, hlk, hD, hR, hW, hX⟩ := hC
  dsimp only at hx hb hml hown hts hK hA hlk hR
  intro res hr H locs ls hP hS hl
  show W p l e R s m args below meth c H locs cells slots (Qf res) (F0 m pc ls _)
  exact W.lcmp hx hb d0 (lv_if_eq hx hb d ht (fun hc => kt ((lg_cmp_eq x y).mp hc) res (by rw [if_pos ((lg_cmp_eq x y).mp hc)] at hr; exact hr) H locs ls hP hS hl) (fun hc => kf (fun z => hc ((lg_cmp_eq x y).mpr z)) res (by rw [if_neg (fun z => hc ((lg_cmp_eq x y).mpr z))] at hr; exact hr) H locs ls hP hS hl))

theorem r_if_ne (hC : Cok X w A own cc nL fr lo S Rf N) {x : Int32} {off : Int} (tgt : Nat) (d : decode cc pc = .ok (.ifCond .ne off, 3)) (ht : (pc : Int) + off = (tgt : Int)) (kt : ¬ x = 0 → RF X w A nL Qf P tgt lv st σ) (kf : x = 0 → RF X w A nL Qf P' (pc + 3) lv st σ) : RF X w A nL Qf (if x = 0 then P' else P) pc lv (.int x :: st) σ := by
  obtain ⟨p, l, e, R, s, m, args, below, meth, c, cells, slots⟩ := X
  obtain ⟨⟨hx, hb, hml, hown, hts⟩, hK, hA, hlk, hD, hR, hW, hX⟩ := hC
  dsimp only at hx hb hml hown hts hK hA hlk hR
  intro res hr H locs ls hP hS hl
  show W p l e R s m args below meth c H locs cells slots (Qf res) (F0 m pc ls _)
  exact lv_if_ne hx hb d ht (fun hc => kt hc res (by rw [if_neg hc] at hr; exact hr) H locs ls hP hS hl) (fun hc => kf hc res (by rw [if_pos hc] at hr; exact hr) H locs ls hP hS hl)

theorem r_icmp_ne (hC : Cok X w A own cc nL fr lo S Rf N) {x y : Int32} {off : Int} (tgt : Nat) (d : decode cc pc = .ok (.if_icmp .ne off, 3)) (ht : (pc : Int) + off = (tgt : Int)) (kt : ¬ x = y → RF X w A nL Qf P tgt lv st σ) (kf : x = y → RF X w A nL Qf P' (pc + 3) lv st σ) : RF X w A nL Qf (if x = y then P' else P) pc lv (.int y :: .int x :: st) σ := by
  obtain ⟨p, l, e, R, s, m, args, below, meth, c, cells, slots⟩ := X
  obtain ⟨⟨hx, hb, hml, hown, hts⟩, hK, hA, hlk, hD, hR, hW, hX⟩ := hC
  dsimp only at hx hb hml hown hts hK hA hlk hR
  intro res hr H locs ls hP hS hl
  show W p l e R s m args below meth c H locs cells slots (Qf res) (F0 m pc ls _)
  exact lv_icmp_ne hx hb d ht (fun hc => kt hc res (by rw [if_neg hc] at hr; exact hr) H locs ls hP hS hl) (fun hc => kf hc res (by rw [if_pos hc] at hr; exact hr) H locs ls hP hS hl)

theorem r_lcmp_ne (hC : Cok X w A own cc nL fr lo S Rf N) {x y : Int64} {off : Int} (tgt : Nat) (d0 : decode cc pc = .ok (.lcmp, 1)) (d : decode cc (pc + 1) = .ok (.ifCond .ne off, 3)) (ht : ((pc + 1 : Nat) : Int) + off = (tgt : Int)) (kt : ¬ x = y → RF X w A nL Qf P tgt lv st σ) (kf : x = y → RF X w A nL Qf P' (pc + 4) lv st σ) : RF X w A nL Qf (if x = y then P' else P) pc lv (.long y :: .long x :: st) σ := by
  obtain ⟨p, l, e, R, s, m, args, below, meth, c, cells, slots⟩ := X
  obtain ⟨⟨hx, hb, hml, hown, hts⟩, hK, hA, hlk, hD, hR, hW, hX⟩ := hC
  dsimp only at hx hb hml hown hts hK hA hlk hR
  intro res hr H locs ls hP hS hl
  show W p l e R s m args below meth c H locs cells slots (Qf res) (F0 m pc ls _)
  exact W.lcmp hx hb d0 (lv_if_ne hx hb d ht (fun hc => kt (fun z => hc ((lg_cmp_eq x y).mpr z)) res (by rw [if_neg (fun z => hc ((lg_cmp_eq x y).mpr z))] at hr; exact hr) H locs ls hP hS hl) (fun hc => kf ((lg_cmp_eq x y).mp hc) res (by rw [if_pos ((lg_cmp_eq x y).mp hc)] at hr; exact hr) H locs ls hP hS hl))

theorem r_if_lt (hC : Cok X w A own cc nL fr lo S Rf N) {x : Int32} {off : Int} (tgt : Nat) (d : decode cc pc = .ok (.ifCond .lt off, 3)) (ht : (pc : Int) + off = (tgt : Int)) (kt : x < 0 → RF X w A nL Qf P tgt lv st σ) (kf : ¬ x < 0 → RF X w A nL Qf P' (pc + 3) lv st σ) : RF X w A nL Qf (if x < 0 then P else P') pc lv (.int x :: st) σ := by
  obtain ⟨p, l, e, R, s, m, args, below, meth, c, cells, slots⟩ := X
  obtain ⟨⟨hx, hb, hml, hown, hts⟩, hK, hA, hlk, hD, hR, hW, hX⟩ := hC
  dsimp only at hx hb hml hown hts hK hA hlk hR
  intro res hr H locs ls hP hS hl
  show W p l e R s m args below meth c H locs cells slots (Qf res) (F0 m pc ls _)
  exact lv_if_lt hx hb d ht (fun hc => kt hc res (by rw [if_pos hc] at hr; exact hr) H locs ls hP hS hl) (fun hc => kf hc res (by rw [if_neg hc] at hr; exact hr) H locs ls hP hS hl)

theorem r_icmp_lt (hC : Cok X w A own cc nL fr lo S Rf N) {x y : Int32} {off : Int} (tgt : Nat) (d : decode cc pc = .ok (.if_icmp .lt off, 3)) (ht : (pc : Int) + off = (tgt : Int)) (kt : x < y → RF X w A nL Qf P tgt lv st σ) (kf : ¬ x < y → RF X w A nL Qf P' (pc + 3) lv st σ) : RF X w A nL Qf (if x < y then P else P') pc lv (.int y :: .int x :: st) σ := by
  obtain ⟨p, l, e, R, s, m, args, below, meth, c, cells, slots⟩ := X
  obtain ⟨⟨hx, hb, hml, hown, hts⟩, hK, hA, hlk, hD, hR, hW, hX⟩ := hC
  dsimp only at hx hb hml hown hts hK hA hlk hR
  intro res hr H locs ls hP hS hl
  show W p l e R s m args below meth c H locs cells slots (Qf res) (F0 m pc ls _)
  exact lv_icmp_lt hx hb d ht (fun hc => kt hc res (by rw [if_pos hc] at hr; exact hr) H locs ls hP hS hl) (fun hc => kf hc res (by rw [if_neg hc] at hr; exact hr) H locs ls hP hS hl)

theorem r_lcmp_lt (hC : Cok X w A own cc nL fr lo S Rf N) {x y : Int64} {off : Int} (tgt : Nat) (d0 : decode cc pc = .ok (.lcmp, 1)) (d : decode cc (pc + 1) = .ok (.ifCond .lt off, 3)) (ht : ((pc + 1 : Nat) : Int) + off = (tgt : Int)) (kt : x < y → RF X w A nL Qf P tgt lv st σ) (kf : ¬ x < y → RF X w A nL Qf P' (pc + 4) lv st σ) : RF X w A nL Qf (if x < y then P else P') pc lv (.long y :: .long x :: st) σ := by
  obtain ⟨p, l, e, R, s, m, args, below, meth, c, cells, slots⟩ := X
  obtain ⟨⟨hx, hb, hml, hown, hts⟩, hK, hA, hlk, hD, hR, hW, hX⟩ := hC
  dsimp only at hx hb hml hown hts hK hA hlk hR
  intro res hr H locs ls hP hS hl
  show W p l e R s m args below meth c H locs cells slots (Qf res) (F0 m pc ls _)
  exact W.lcmp hx hb d0 (lv_if_lt hx hb d ht (fun hc => kt ((lg_cmp_lt x y).mp hc) res (by rw [if_pos ((lg_cmp_lt x y).mp hc)] at hr; exact hr) H locs ls hP hS hl) (fun hc => kf (fun z => hc ((lg_cmp_lt x y).mpr z)) res (by rw [if_neg (fun z => hc ((lg_cmp_lt x y).mpr z))] at hr; exact hr) H locs ls hP hS hl))

theorem r_if_ge (hC : Cok X w A own cc nL fr lo S Rf N) {x : Int32} {off : Int} (tgt : Nat) (d : decode cc pc = .ok (.ifCond .ge off, 3)) (ht : (pc : Int) + off = (tgt : Int)) (kt : 0 ≤ x → RF X w A nL Qf P tgt lv st σ) (kf : ¬ 0 ≤ x → RF X w A nL Qf P' (pc + 3) lv st σ) : RF X w A nL Qf (if 0 ≤ x then P else P') pc lv (.int x :: st) σ := by
  obtain ⟨p, l, e, R, s, m, args, below, meth, c, cells, slots⟩ := X
  obtain ⟨⟨hx, hb, hml, hown, hts⟩, hK, hA, hlk, hD, hR, hW, hX⟩ := hC
  dsimp only at hx hb hml hown hts hK hA hlk hR
  intro res hr H locs ls hP hS hl
  show W p l e R s m args below meth c H locs cells slots (Qf res) (F0 m pc ls _)
  exact lv_if_ge hx hb d ht (fun hc => kt hc res (by rw [if_pos hc] at hr; exact hr) H locs ls hP hS hl) (fun hc => kf hc res (by rw [if_neg hc] at hr; exact hr) H locs ls hP hS hl)

theorem r_icmp_ge (hC : Cok X w A own cc nL fr lo S Rf N) {x y : Int32} {off : Int} (tgt : Nat) (d : decode cc pc = .ok (.if_icmp .ge off, 3)) (ht : (pc : Int) + off = (tgt : Int)) (kt : y ≤ x → RF X w A nL Qf P tgt lv st σ) (kf : ¬ y ≤ x → RF X w A nL Qf P' (pc + 3) lv st σ) : RF X w A nL Qf (if y ≤ x then P else P') pc lv (.int y :: .int x :: st) σ := by
  obtain ⟨p, l, e, R, s, m, args, below, meth, c, cells, slots⟩ := X
  obtain ⟨⟨hx, hb, hml, hown, hts⟩, hK, hA, hlk, hD, hR, hW, hX⟩ := hC
  dsimp only at hx hb hml hown hts hK hA hlk hR
  intro res hr H locs ls hP hS hl
  show W p l e R s m args below meth c H locs cells slots (Qf res) (F0 m pc ls _)
  exact lv_icmp_ge hx hb d ht (fun hc => kt hc res (by rw [if_pos hc] at hr; exact hr) H locs ls hP hS hl) (fun hc => kf hc res (by rw [if_neg hc] at hr; exact hr) H locs ls hP hS hl)

theorem r_lcmp_ge (hC : Cok X w A own cc nL fr lo S Rf N) {x y : Int64} {off : Int} (tgt : Nat) (d0 : decode cc pc = .ok (.lcmp, 1)) (d : decode cc (pc + 1) = .ok (.ifCond .ge off, 3)) (ht : ((pc + 1 : Nat) : Int) + off = (tgt : Int)) (kt : y ≤ x → RF X w A nL Qf P tgt lv st σ) (kf : ¬ y ≤ x → RF X w A nL Qf P' (pc + 4) lv st σ) : RF X w A nL Qf (if y ≤ x then P else P') pc lv (.long y :: .long x :: st) σ := by
  obtain ⟨p, l, e, R, s, m, args, below, meth, c, cells, slots⟩ := X
  obtain ⟨⟨hx, hb, hml, hown, hts⟩, hK, hA, hlk, hD, hR, hW, hX⟩ := hC
  dsimp only at hx hb hml hown hts hK hA hlk hR
  intro res hr H locs ls hP hS hl
  show W p l e R s m args below meth c H locs cells slots (Qf res) (F0 m pc ls _)
  exact W.lcmp hx hb d0 (lv_if_ge hx hb d ht (fun hc => kt ((lg_cmp_ge x y).mp hc) res (by rw [if_pos ((lg_cmp_ge x y).mp hc)] at hr; exact hr) H locs ls hP hS hl) (fun hc => kf (fun z => hc ((lg_cmp_ge x y).mpr z)) res (by rw [if_neg (fun z => hc ((lg_cmp_ge x y).mpr z))] at hr; exact hr) H locs ls hP hS hl))

theorem r_if_gt (hC : Cok X w A own cc nL fr lo S Rf N) {x : Int32} {off : Int} (tgt : Nat) (d : decode cc pc = .ok (.ifCond .gt off, 3)) (ht : (pc : Int) + off = (tgt : Int)) (kt : 0 < x → RF X w A nL Qf P tgt lv st σ) (kf : ¬ 0 < x → RF X w A nL Qf P' (pc + 3) lv st σ) : RF X w A nL Qf (if 0 < x then P else P') pc lv (.int x :: st) σ := by
  obtain ⟨p, l, e, R, s, m, args, below, meth, c, cells, slots⟩ := X
  obtain ⟨⟨hx, hb, hml, hown, hts⟩, hK, hA, hlk, hD, hR, hW, hX⟩ := hC
  dsimp only at hx hb hml hown hts hK hA hlk hR
  intro res hr H locs ls hP hS hl
  show W p l e R s m args below meth c H locs cells slots (Qf res) (F0 m pc ls _)
  exact lv_if_gt hx hb d ht (fun hc => kt hc res (by rw [if_pos hc] at hr; exact hr) H locs ls hP hS hl) (fun hc => kf hc res (by rw [if_neg hc] at hr; exact hr) H locs ls hP hS hl)

theorem r_icmp_gt (hC : Cok X w A own cc nL fr lo S Rf N) {x y : Int32} {off : Int} (tgt : Nat) (d : decode cc pc = .ok (.if_icmp .gt off, 3)) (ht : (pc : Int) + off = (tgt : Int)) (kt : y < x → RF X w A nL Qf P tgt lv st σ) (kf : ¬ y < x → RF X w A nL Qf P' (pc + 3) lv st σ) : RF X w A nL Qf (if y < x then P else P') pc lv (.int y :: .int x :: st) σ := by
  obtain ⟨p, l, e, R, s, m, args, below, meth, c, cells, slots⟩ := X
  obtain ⟨⟨hx, hb, hml, hown, hts⟩, hK, hA, hlk, hD, hR, hW, hX⟩ := hC
  dsimp only at hx hb hml hown hts hK hA hlk hR
  intro res hr H locs ls hP hS hl
  show W p l e R s m args below meth c H locs cells slots (Qf res) (F0 m pc ls _)
  exact lv_icmp_gt hx hb d ht (fun hc => kt hc res (by rw [if_pos hc] at hr; exact hr) H locs ls hP hS hl) (fun hc => kf hc res (by rw [if_neg hc] at hr; exact hr) H locs ls hP hS hl)

theorem r_lcmp_gt (hC : Cok X w A own cc nL fr lo S Rf N) {x y : Int64} {off : Int} (tgt : Nat) (d0 : decode cc pc = .ok (.lcmp, 1)) (d : decode cc (pc + 1) = .ok (.ifCond .gt off, 3)) (ht : ((pc + 1 : Nat) : Int) + off = (tgt : Int)) (kt : y < x → RF X w A nL Qf P tgt lv st σ) (kf : ¬ y < x → RF X w A nL Qf P' (pc + 4) lv st σ) : RF X w A nL Qf (if y < x then P else P') pc lv (.long y :: .long x :: st) σ := by
  obtain ⟨p, l, e, R, s, m, args, below, meth, c, cells, slots⟩ := X
  obtain ⟨⟨hx, hb, hml, hown, hts⟩, hK, hA, hlk, hD, hR, hW, hX⟩ := hC
  dsimp only at hx hb hml hown hts hK hA hlk hR
  intro res hr H locs ls hP hS hl
  show W p l e R s m args below meth c H locs cells slots (Qf res) (F0 m pc ls _)
  exact W.lcmp hx hb d0 (lv_if_gt hx hb d ht (fun hc => kt ((lg_cmp_gt x y).mp hc) res (by rw [if_pos ((lg_cmp_gt x y).mp hc)] at hr; exact hr) H locs ls hP hS hl) (fun hc => kf (fun z => hc ((lg_cmp_gt x y).mpr z)) res (by rw [if_neg (fun z => hc ((lg_cmp_gt x y).mpr z))] at hr; exact hr) H locs ls hP hS hl))

theorem r_if_le (hC : Cok X w A own cc nL fr lo S Rf N) {x : Int32} {off : Int} (tgt : Nat) (d : decode cc pc = .ok (.ifCond .le off, 3)) (ht : (pc : Int) + off = (tgt : Int)) (kt : x ≤ 0 → RF X w A nL Qf P tgt lv st σ) (kf : ¬ x ≤ 0 → RF X w A nL Qf P' (pc + 3) lv st σ) : RF X w A nL Qf (if x ≤ 0 then P else P') pc lv (.int x :: st) σ := by
  obtain ⟨p, l, e, R, s, m, args, below, meth, c, cells, slots⟩ := X
  obtain ⟨⟨hx, hb, hml, hown, hts⟩, hK, hA, hlk, hD, hR, hW, hX⟩ := hC
  dsimp only at hx hb hml hown hts hK hA hlk hR
  intro res hr H locs ls hP hS hl
  show W p l e R s m args below meth c H locs cells slots (Qf res) (F0 m pc ls _)
  exact lv_if_le hx hb d ht (fun hc => kt hc res (by rw [if_pos hc] at hr; exact hr) H locs ls hP hS hl) (fun hc => kf hc res (by rw [if_neg hc] at hr; exact hr) H locs ls hP hS hl)

theorem r_icmp_le (hC : Cok X w A own cc nL fr lo S Rf N) {x y : Int32} {off : Int} (tgt : Nat) (d : decode cc pc = .ok (.if_icmp .le off, 3)) (ht : (pc : Int) + off = (tgt : Int)) (kt : x ≤ y → RF X w A nL Qf P tgt lv st σ) (kf : ¬ x ≤ y → RF X w A nL Qf P' (pc + 3) lv st σ) : RF X w A nL Qf (if x ≤ y then P else P') pc lv (.int y :: .int x :: st) σ := by
  obtain ⟨p, l, e, R, s, m, args, below, meth, c, cells, slots⟩ := X
  obtain ⟨⟨hx, hb, hml, hown, hts⟩, hK, hA, hlk, hD, hR, hW, hX⟩ := hC
  dsimp only at hx hb hml hown hts hK hA hlk hR
  intro res hr H locs ls hP hS hl
  show W p l e R s m args below meth c H locs cells slots (Qf res) (F0 m pc ls _)
  exact lv_icmp_le hx hb d ht (fun hc => kt hc res (by rw [if_pos hc] at hr; exact hr) H locs ls hP hS hl) (fun hc => kf hc res (by rw [if_neg hc] at hr; exact hr) H locs ls hP hS hl)

theorem r_lcmp_le (hC : Cok X w A own cc nL fr lo S Rf N) {x y : Int64} {off : Int} (tgt : Nat) (d0 : decode cc pc = .ok (.lcmp, 1)) (d : decode cc (pc + 1) = .ok (.ifCond .le off, 3)) (ht : ((pc + 1 : Nat) : Int) + off = (tgt : Int)) (kt : x ≤ y → RF X w A nL Qf P tgt lv st σ) (kf : ¬ x ≤ y → RF X w A nL Qf P' (pc + 4) lv st σ) : RF X w A nL Qf (if x ≤ y then P else P') pc lv (.long y :: .long x :: st) σ := by
  obtain ⟨p, l, e, R, s, m, args, below, meth, c, cells, slots⟩ := X
  obtain ⟨⟨hx, hb, hml, hown, hts⟩, hK, hA, hlk, hD, hR, hW, hX⟩ := hC
  dsimp only at hx hb hml hown hts hK hA hlk hR
  intro res hr H locs ls hP hS hl
  show W p l e R s m args below meth c H locs cells slots (Qf res) (F0 m pc ls _)
  exact W.lcmp hx hb d0 (lv_if_le hx hb d ht (fun hc => kt ((lg_cmp_le x y).mp hc) res (by rw [if_pos ((lg_cmp_le x y).mp hc)] at hr; exact hr) H locs ls hP hS hl) (fun hc => kf (fun z => hc ((lg_cmp_le x y).mpr z)) res (by rw [if_neg (fun z => hc ((lg_cmp_le x y).mpr z))] at hr; exact hr) H locs ls hP hS hl))

theorem r_tab1 (hC : Cok X w A own cc nL fr lo S Rf N) {x : Int32} {dflt lo1 hi1 : Int} {offs : Array Int} {len : Nat} {off : Int} (tgt : Nat) (v : Int32) (d : decode cc pc = .ok (.tableswitch dflt lo1 hi1 offs, len)) (h1 : ¬ v.toInt < lo1) (h2 : ¬ hi1 < v.toInt) (ho : offs[(v.toInt - lo1).toNat]? = some off) (ht : (pc : Int) + off = (tgt : Int)) (kt : RF X w A nL Qf P tgt lv st σ) (kf : ¬ x = v → RF X w A nL Qf P' pc lv (.int x :: st) σ) : RF X w A nL Qf (if x = v then P else P') pc lv (.int x :: st) σ := by
  by_cases hc : x = v
  · subst hc
    rw [if_pos rfl]
    obtain ⟨p, l, e, R, s, m, args, below, meth, c, cells, slots⟩ := X
    obtain ⟨⟨hx, hb, hml, hown, hts⟩, hK, hA, hlk, hD, hR, hW, hX⟩ := hC
    dsimp only at hx hb hml hown hts hK hA hlk hR
    intro res hr H locs ls hP hS hl
    show W p l e R s m args below meth c H locs cells slots (Qf res) (F0 m pc ls _)
    exact lv_tableIn hx hb d h1 h2 ho ht (kt res hr H locs ls hP hS hl)
  · rw [if_neg hc]
    exact kf hc

theorem r_tabD (hC : Cok X w A own cc nL fr lo S Rf N) {x : Int32} {dflt lo1 hi1 : Int} {offs : Array Int} {len : Nat} (tgt : Nat) (d : decode cc pc = .ok (.tableswitch dflt lo1 hi1 offs, len)) (h : x.toInt < lo1 ∨ hi1 < x.toInt) (ht : (pc : Int) + dflt = (tgt : Int)) (k : RF X w A nL Qf P tgt lv st σ) : RF X w A nL Qf P pc lv (.int x :: st) σ := by
  obtain ⟨p, l, e, R, s, m, args, below, meth, c, cells, slots⟩ := X
  obtain ⟨⟨hx, hb, hml, hown, hts⟩, hK, hA, hlk, hD, hR, hW, hX⟩ := hC
  dsimp only at hx hb hml hown hts hK hA hlk hR
  intro res hr H locs ls hP hS hl
  show W p l e R s m args below meth c H locs cells slots (Qf res) (F0 m pc ls _)
  exact lv_tableOut hx hb d h ht (k res hr H locs ls hP hS hl)

theorem r_look1 (hC : Cok X w A own cc nL fr lo S Rf N) {x : Int32} {dflt : Int} {ps : Array (Int × Int)} {len : Nat} {off : Int} (tgt : Nat) (v : Int32) (d : decode cc pc = .ok (.lookupswitch dflt ps, len)) (hp : (ps.toList.zip (ps.toList.drop 1)).all (fun (a, next) => a.1 < next.1) = true) (ho : Op.lookupswitch.offset ps.toList dflt v.toInt = off) (ht : (pc : Int) + off = (tgt : Int)) (kt : RF X w A nL Qf P tgt lv st σ) (kf : ¬ x = v → RF X w A nL Qf P' pc lv (.int x :: st) σ) : RF X w A nL Qf (if x = v then P else P') pc lv (.int x :: st) σ := by
  by_cases hc : x = v
  · subst hc
    rw [if_pos rfl]
    obtain ⟨p, l, e, R, s, m, args, below, meth, c, cells, slots⟩ := X
    obtain ⟨⟨hx, hb, hml, hown, hts⟩, hK, hA, hlk, hD, hR, hW, hX⟩ := hC
    dsimp only at hx hb hml hown hts hK hA hlk hR
    intro res hr H locs ls hP hS hl
    show W p l e R s m args below meth c H locs cells slots (Qf res) (F0 m pc ls _)
    exact lv_lookup hx hb d hp ho ht (kt res hr H locs ls hP hS hl)
  · rw [if_neg hc]
    exact kf hc

theorem r_lookD (hC : Cok X w A own cc nL fr lo S Rf N) {x : Int32} {dflt : Int} {ps : Array (Int × Int)} {len : Nat} (tgt : Nat) (d : decode cc pc = .ok (.lookupswitch dflt ps, len)) (hp : (ps.toList.zip (ps.toList.drop 1)).all (fun (a, next) => a.1 < next.1) = true) (h : Op.lookupswitch.offset ps.toList dflt x.toInt = dflt) (ht : (pc : Int) + dflt = (tgt : Int)) (k : RF X w A nL Qf P tgt lv st σ) : RF X w A nL Qf P pc lv (.int x :: st) σ := by
  obtain ⟨p, l, e, R, s, m, args, below, meth, c, cells, slots⟩ := X
  obtain ⟨⟨hx, hb, hml, hown, hts⟩, hK, hA, hlk, hD, hR, hW, hX⟩ := hC
  dsimp only at hx hb hml hown hts hK hA hlk hR
  intro res hr H locs ls hP hS hl
  show W p l e R s m args below meth c H locs cells slots (Qf res) (F0 m pc ls _)
  exact lv_lookup hx hb d hp h ht (k res hr H locs ls hP hS hl)

theorem r_nm {α : Type} {ee : α} {K : α → Option ρ} {stf : α → List Value} (k : ∀ x, RF X w A nL Qf (K x) pc lv (stf x) σ) : RF X w A nL Qf (nm ee K) pc lv (stf ee) σ := k ee
theorem r_nmI {v : Int32} {K : Int32 → Option ρ} (k : ∀ x, RF X w A nL Qf (K x) pc lv (.int x :: st) σ) : RF X w A nL Qf (nm v K) pc lv (.int v :: st) σ := k v
theorem r_nmL {v : Int64} {K : Int64 → Option ρ} (k : ∀ x, RF X w A nL Qf (K x) pc lv (.long x :: st) σ) : RF X w A nL Qf (nm v K) pc lv (.long v :: st) σ := k v
theorem r_nmS {K : St → Option ρ} (k : ∀ σ, RF X w A nL Qf (K σ) pc lv st σ) : RF X w A nL Qf (nm σ K) pc lv st σ := k σ
theorem r_gd {c : Prop} [inst : Decidable c] (k : c → RF X w A nL Qf P pc lv st σ) : RF X w A nL Qf (gd c P) pc lv st σ := by
  unfold gd
  by_cases h : c
  · rw [if_pos h]; exact k h
  · rw [if_neg h]; exact r_none
theorem r_jn {α : Type} {J : α} {B : α → Option ρ} (T : α → Prop) (hJ : T J) (k : ∀ j, T j → RF X w A nL Qf (B j) pc lv st σ) : RF X w A nL Qf (jn J B) pc lv st σ := k J hJ

theorem r_iald (hC : Cok X w A own cc nL fr lo S Rf N) {i : Int32} (k n : Nat) (hs : S k = (1, n)) (hn : Nat.blt k N = true) (hi : ¬ (i < 0 ∨ n ≤ i.toNatClampNeg)) (d : decode cc pc = .ok (.iaload, 1)) (kk : RF X w A nL Qf P (pc + 1) lv (.int (σ.1 k i.toNatClampNeg) :: st) σ) : RF X w A nL Qf P pc lv (.int i :: .ref (wA w k) :: st) σ := by
  obtain ⟨p, l, e, R, s, m, args, below, meth, c, cells, slots⟩ := X
  obtain ⟨⟨hx, hb, hml, hown, hts⟩, hK, hA, hlk, hD, hR, hW, hX⟩ := hC
  dsimp only at hx hb hml hown hts hK hA hlk hR
  intro res hr H locs ls hP hS hl
  show W p l e R s m args below meth c H locs cells slots (Qf res) (F0 m pc ls _)
  exact va_iald hx hb hK hP k 0 ((wls_get (hW.n hn)).trans (by rw [went_1 (hW.sh hs)])) rfl hi d (kk res hr H locs ls hP hS hl)

theorem r_bald (hC : Cok X w A own cc nL fr lo S Rf N) {i : Int32} (k n : Nat) (hs : S k = (2, n)) (hn : Nat.blt k N = true) (hi : ¬ (i < 0 ∨ n ≤ i.toNatClampNeg)) (d : decode cc pc = .ok (.baload, 1)) (kk : RF X w A nL Qf P (pc + 1) lv (.int (σ.1 k i.toNatClampNeg) :: st) σ) : RF X w A nL Qf P pc lv (.int i :: .ref (wA w k) :: st) σ := by
  obtain ⟨p, l, e, R, s, m, args, below, meth, c, cells, slots⟩ := X
  obtain ⟨⟨hx, hb, hml, hown, hts⟩, hK, hA, hlk, hD, hR, hW, hX⟩ := hC
  dsimp only at hx hb hml hown hts hK hA hlk hR
  intro res hr H locs ls hP hS hl
  show W p l e R s m args below meth c H locs cells slots (Qf res) (F0 m pc ls _)
  exact va_bald hx hb hK hP k 1 ((wls_get (hW.n hn)).trans (by rw [went_2 (hW.sh hs)])) rfl hi d (kk res hr H locs ls hP hS hl)

theorem r_zald (hC : Cok X w A own cc nL fr lo S Rf N) {i : Int32} (k n : Nat) (hs : S k = (3, n)) (hn : Nat.blt k N = true) (hi : ¬ (i < 0 ∨ n ≤ i.toNatClampNeg)) (d : decode cc pc = .ok (.baload, 1)) (kk : RF X w A nL Qf P (pc + 1) lv (.int (σ.1 k i.toNatClampNeg) :: st) σ) : RF X w A nL Qf P pc lv (.int i :: .ref (wA w k) :: st) σ := by
  obtain ⟨p, l, e, R, s, m, args, below, meth, c, cells, slots⟩ := X
  obtain ⟨⟨hx, hb, hml, hown, hts⟩, hK, hA, hlk, hD, hR, hW, hX⟩ := hC
  dsimp only at hx hb hml hown hts hK hA hlk hR
  intro res hr H locs ls hP hS hl
  show W p l e R s m args below meth c H locs cells slots (Qf res) (F0 m pc ls _)
  exact va_zald hx hb hK hP k 2 ((wls_get (hW.n hn)).trans (by rw [went_3 (hW.sh hs)])) rfl hi d (kk res hr H locs ls hP hS hl)

theorem r_lald (hC : Cok X w A own cc nL fr lo S Rf N) {i : Int32} (k n : Nat) (hs : S k = (4, n)) (hn : Nat.blt k N = true) (hi : ¬ (i < 0 ∨ n ≤ i.toNatClampNeg)) (d : decode cc pc = .ok (.laload, 1)) (kk : RF X w A nL Qf P (pc + 1) lv (.long (σ.2.1 k i.toNatClampNeg) :: st) σ) : RF X w A nL Qf P pc lv (.int i :: .ref (wA w k) :: st) σ := by
  obtain ⟨p, l, e, R, s, m, args, below, meth, c, cells, slots⟩ := X
  obtain ⟨⟨hx, hb, hml, hown, hts⟩, hK, hA, hlk, hD, hR, hW, hX⟩ := hC
  dsimp only at hx hb hml hown hts hK hA hlk hR
  intro res hr H locs ls hP hS hl
  show W p l e R s m args below meth c H locs cells slots (Qf res) (F0 m pc ls _)
  exact va_lald hx hb hK hP k 3 ((wls_get (hW.n hn)).trans (by rw [went_4 (hW.sh hs)])) rfl hi d (kk res hr H locs ls hP hS hl)

theorem r_ialdV (hC : Cok X w A own cc nL fr lo S Rf N) {i : Int32} (k : Nat) {n : Nat} (hs : S k = (7, n)) (hn : k < wN w) (hi : ¬ (i < 0 ∨ σ.2.2.2 k ≤ i.toNatClampNeg)) (d : decode cc pc = .ok (.iaload, 1)) (kk : RF X w A nL Qf P (pc + 1) lv (.int (σ.1 k i.toNatClampNeg) :: st) σ) : RF X w A nL Qf P pc lv (.int i :: .ref (wA w k) :: st) σ := by
  obtain ⟨p, l, e, R, s, m, args, below, meth, c, cells, slots⟩ := X
  obtain ⟨⟨hx, hb, hml, hown, hts⟩, hK, hA, hlk, hD, hR, hW, hX⟩ := hC
  dsimp only at hx hb hml hown hts hK hA hlk hR
  intro res hr H locs ls hP hS hl
  show W p l e R s m args below meth c H locs cells slots (Qf res) (F0 m pc ls _)
  exact va_iald hx hb hK hP k 0 ((wls_get hn).trans (by rw [went_7 (hW.sh hs)])) rfl hi d (kk res hr H locs ls hP hS hl)

theorem r_iast (hC : Cok X w A own cc nL fr lo S Rf N) {i : Int32} {x : Int32} (k n : Nat) (hs : S k = (1, n)) (hn : Nat.blt k N = true) (hi : ¬ (i < 0 ∨ n ≤ i.toNatClampNeg)) (d : decode cc pc = .ok (.iastore, 1)) (kk : RF X w A nL Qf P (pc + 1) lv st (sI σ k i.toNatClampNeg x)) : RF X w A nL Qf P pc lv (.int x :: .int i :: .ref (wA w k) :: st) σ := by
  obtain ⟨p, l, e, R, s, m, args, below, meth, c, cells, slots⟩ := X
  obtain ⟨⟨hx, hb, hml, hown, hts⟩, hK, hA, hlk, hD, hR, hW, hX⟩ := hC
  dsimp only at hx hb hml hown hts hK hA hlk hR
  intro res hr H locs ls hP hS hl
  show W p l e R s m args below meth c H locs cells slots (Qf res) (F0 m pc ls _)
  refine va_iast hx hb hK hP (hD σ) hS k 0 ((wls_get (hW.n hn)).trans (by rw [went_1 (hW.sh hs)])) rfl hi d (fun H1 locs1 h1 _ h3 => ?_)
  rw [wls_set (σ' := sI σ k i.toNatClampNeg x) (by rw [went_1 (hW.sh hs), sI_row]) sI_ne] at h1
  exact kk res hr H1 locs1 ls h1 h3 hl

theorem r_bast (hC : Cok X w A own cc nL fr lo S Rf N) {i : Int32} {x : Int32} (k n : Nat) (hs : S k = (2, n)) (hn : Nat.blt k N = true) (hi : ¬ (i < 0 ∨ n ≤ i.toNatClampNeg)) (d : decode cc pc = .ok (.bastore, 1)) (kk : RF X w A nL Qf P (pc + 1) lv st (sI σ k i.toNatClampNeg (vp_nar .byte x))) : RF X w A nL Qf P pc lv (.int x :: .int i :: .ref (wA w k) :: st) σ := by
  obtain ⟨p, l, e, R, s, m, args, below, meth, c, cells, slots⟩ := X
  obtain ⟨⟨hx, hb, hml, hown, hts⟩, hK, hA, hlk, hD, hR, hW, hX⟩ := hC
  dsimp only at hx hb hml hown hts hK hA hlk hR
  intro res hr H locs ls hP hS hl
  show W p l e R s m args below meth c H locs cells slots (Qf res) (F0 m pc ls _)
  refine va_bast hx hb hK hP (hD σ) hS k 1 ((wls_get (hW.n hn)).trans (by rw [went_2 (hW.sh hs)])) rfl hi d (fun H1 locs1 h1 _ h3 => ?_)
  rw [wls_set (σ' := sI σ k i.toNatClampNeg (vp_nar .byte x)) (by rw [went_2 (hW.sh hs), sI_row]) sI_ne] at h1
  exact kk res hr H1 locs1 ls h1 h3 hl

theorem r_zast (hC : Cok X w A own cc nL fr lo S Rf N) {i : Int32} {x : Int32} (k n : Nat) (hs : S k = (3, n)) (hn : Nat.blt k N = true) (hi : ¬ (i < 0 ∨ n ≤ i.toNatClampNeg)) (d : decode cc pc = .ok (.bastore, 1)) (kk : RF X w A nL Qf P (pc + 1) lv st (sI σ k i.toNatClampNeg (vp_nar .boolean x))) : RF X w A nL Qf P pc lv (.int x :: .int i :: .ref (wA w k) :: st) σ := by
  obtain ⟨p, l, e, R, s, m, args, below, meth, c, cells, slots⟩ := X
  obtain ⟨⟨hx, hb, hml, hown, hts⟩, hK, hA, hlk, hD, hR, hW, hX⟩ := hC
  dsimp only at hx hb hml hown hts hK hA hlk hR
  intro res hr H locs ls hP hS hl
  show W p l e R s m args below meth c H locs cells slots (Qf res) (F0 m pc ls _)
  refine va_zast hx hb hK hP (hD σ) hS k 2 ((wls_get (hW.n hn)).trans (by rw [went_3 (hW.sh hs)])) rfl hi d (fun H1 locs1 h1 _ h3 => ?_)
  rw [wls_set (σ' := sI σ k i.toNatClampNeg (vp_nar .boolean x)) (by rw [went_3 (hW.sh hs), sI_row]) sI_ne] at h1
  exact kk res hr H1 locs1 ls h1 h3 hl

theorem r_last (hC : Cok X w A own cc nL fr lo S Rf N) {i : Int32} {x : Int64} (k n : Nat) (hs : S k = (4, n)) (hn : Nat.blt k N = true) (hi : ¬ (i < 0 ∨ n ≤ i.toNatClampNeg)) (d : decode cc pc = .ok (.lastore, 1)) (kk : RF X w A nL Qf P (pc + 1) lv st (sL σ k i.toNatClampNeg x)) : RF X w A nL Qf P pc lv (.long x :: .int i :: .ref (wA w k) :: st) σ := by
  obtain ⟨p, l, e, R, s, m, args, below, meth, c, cells, slots⟩ := X
  obtain ⟨⟨hx, hb, hml, hown, hts⟩, hK, hA, hlk, hD, hR, hW, hX⟩ := hC
  dsimp only at hx hb hml hown hts hK hA hlk hR
  intro res hr H locs ls hP hS hl
  show W p l e R s m args below meth c H locs cells slots (Qf res) (F0 m pc ls _)
  refine va_last hx hb hK hP (hD σ) hS k 3 ((wls_get (hW.n hn)).trans (by rw [went_4 (hW.sh hs)])) rfl hi d (fun H1 locs1 h1 _ h3 => ?_)
  rw [wls_set (σ' := sL σ k i.toNatClampNeg x) (by rw [went_4 (hW.sh hs), sL_row]) sL_ne] at h1
  exact kk res hr H1 locs1 ls h1 h3 hl

theorem r_alen1 (hC : Cok X w A own cc nL fr lo S Rf N) (k n : Nat) (hs : S k = (1, n)) (hn : Nat.blt k N = true) {v : Int32} (hv : Int32.ofNat n = v) (d : decode cc pc = .ok (.arraylength, 1)) (kk : RF X w A nL Qf P (pc + 1) lv (.int v :: st) σ) : RF X w A nL Qf P pc lv (.ref (wA w k) :: st) σ := by
  obtain ⟨p, l, e, R, s, m, args, below, meth, c, cells, slots⟩ := X
  obtain ⟨⟨hx, hb, hml, hown, hts⟩, hK, hA, hlk, hD, hR, hW, hX⟩ := hC
  dsimp only at hx hb hml hown hts hK hA hlk hR
  intro res hr H locs ls hP hS hl
  show W p l e R s m args below meth c H locs cells slots (Qf res) (F0 m pc ls _)
  exact va_alen hx hb hK hP k 0 ((wls_get (hW.n hn)).trans (by rw [went_1 (hW.sh hs)])) rfl hv d (kk res hr H locs ls hP hS hl)

theorem r_alen2 (hC : Cok X w A own cc nL fr lo S Rf N) (k n : Nat) (hs : S k = (2, n)) (hn : Nat.blt k N = true) {v : Int32} (hv : Int32.ofNat n = v) (d : decode cc pc = .ok (.arraylength, 1)) (kk : RF X w A nL Qf P (pc + 1) lv (.int v :: st) σ) : RF X w A nL Qf P pc lv (.ref (wA w k) :: st) σ := by
  obtain ⟨p, l, e, R, s, m, args, below, meth, c, cells, slots⟩ := X
  obtain ⟨⟨hx, hb, hml, hown, hts⟩, hK, hA, hlk, hD, hR, hW, hX⟩ := hC
  dsimp only at hx hb hml hown hts hK hA hlk hR
  intro res hr H locs ls hP hS hl
  show W p l e R s m args below meth c H locs cells slots (Qf res) (F0 m pc ls _)
  exact va_alen hx hb hK hP k 1 ((wls_get (hW.n hn)).trans (by rw [went_2 (hW.sh hs)])) rfl hv d (kk res hr H locs ls hP hS hl)

theorem r_alen5 (hC : Cok X w A own cc nL fr lo S Rf N) (k n : Nat) (hs : S k = (5, n)) (hn : Nat.blt k N = true) {v : Int32} (hv : Int32.ofNat n = v) (d : decode cc pc = .ok (.arraylength, 1)) (kk : RF X w A nL Qf P (pc + 1) lv (.int v :: st) σ) : RF X w A nL Qf P pc lv (.ref (wA w k) :: st) σ := by
  obtain ⟨p, l, e, R, s, m, args, below, meth, c, cells, slots⟩ := X
  obtain ⟨⟨hx, hb, hml, hown, hts⟩, hK, hA, hlk, hD, hR, hW, hX⟩ := hC
  dsimp only at hx hb hml hown hts hK hA hlk hR
  intro res hr H locs ls hP hS hl
  show W p l e R s m args below meth c H locs cells slots (Qf res) (F0 m pc ls _)
  exact va_alen hx hb hK hP k 4 ((wls_get (hW.n hn)).trans (by rw [went_5 (hW.sh hs)])) rfl hv d (kk res hr H locs ls hP hS hl)

theorem r_alenV (hC : Cok X w A own cc nL fr lo S Rf N) (k : Nat) {n : Nat} (hs : S k = (7, n)) (hn : k < wN w) (d : decode cc pc = .ok (.arraylength, 1)) (kk : RF X w A nL Qf P (pc + 1) lv (.int (Int32.ofNat (σ.2.2.2 k)) :: st) σ) : RF X w A nL Qf P pc lv (.ref (wA w k) :: st) σ := by
  obtain ⟨p, l, e, R, s, m, args, below, meth, c, cells, slots⟩ := X
  obtain ⟨⟨hx, hb, hml, hown, hts⟩, hK, hA, hlk, hD, hR, hW, hX⟩ := hC
  dsimp only at hx hb hml hown hts hK hA hlk hR
  intro res hr H locs ls hP hS hl
  show W p l e R s m args below meth c H locs cells slots (Qf res) (F0 m pc ls _)
  exact va_alen (x := (σ.2.2.2 k, .inl (σ.1 k))) hx hb hK hP k 0 ((wls_get hn).trans (by rw [went_7 (hW.sh hs)])) rfl rfl d (kk res hr H locs ls hP hS hl)

theorem r_aald (hC : Cok X w A own cc nL fr lo S Rf N) {i : Int32} (k n c2 : Nat) (hs : S k = (5, n)) (hn : Nat.blt k N = true) (hi : ¬ (i < 0 ∨ n ≤ i.toNatClampNeg)) (hr2 : Rf k i.toNatClampNeg = some c2) (d : decode cc pc = .ok (.aaload, 1)) (kk : RF X w A nL Qf P (pc + 1) lv (.ref (wA w c2) :: st) σ) : RF X w A nL Qf P pc lv (.int i :: .ref (wA w k) :: st) σ := by
  obtain ⟨p, l, e, R, s, m, args, below, meth, c, cells, slots⟩ := X
  obtain ⟨⟨hx, hb, hml, hown, hts⟩, hK, hA, hlk, hD, hR, hW, hX⟩ := hC
  dsimp only at hx hb hml hown hts hK hA hlk hR
  intro res hr H locs ls hP hS hl
  show W p l e R s m args below meth c H locs cells slots (Qf res) (F0 m pc ls _)
  have hlt : i.toNatClampNeg < n := Nat.not_le.mp fun q => hi (Or.inr q)
  have hcell := hP k _ ((wls_get (hW.n hn)).trans (by rw [went_5 (hW.sh hs)]))
  refine W.aald (v := .ref (wA w c2)) (ty := .array .int) hx hb hcell ((hK.2 4 _ rfl).1 n _) rfl (fun q => by cases q) (by show ¬ (i < 0 ∨ (arrV _ _ _).slots.size ≤ _); rw [arrV_size]; exact hi) (by show (arrV _ _ _).slots[_]? = _; rw [arrV_read _ _ hlt, hW.rf]; show some (va_rf (Option.map (wA w) (Rf k i.toNatClampNeg))) = _; rw [hr2]; rfl) rfl rfl d ?_
  exact kk res hr H locs ls hP hS hl

theorem r_aaldR (hC : Cok X w A own cc nL fr lo S Rf N) {i : Int32} (k n : Nat) {q : Option Nat} (hs : S k = (6, n)) (hn : Nat.blt k N = true) (hi : ¬ (i < 0 ∨ n ≤ i.toNatClampNeg)) (hq : σ.2.2.1 k i.toNatClampNeg = q) (d : decode cc pc = .ok (.aaload, 1)) (kk : RF X w A nL Qf P (pc + 1) lv (va_rf (q.map (wA w)) :: st) σ) : RF X w A nL Qf P pc lv (.int i :: .ref (wA w k) :: st) σ := by
  obtain ⟨p, l, e, R, s, m, args, below, meth, c, cells, slots⟩ := X
  obtain ⟨⟨hx, hb, hml, hown, hts⟩, hK, hA, hlk, hD, hR, hW, hX⟩ := hC
  dsimp only at hx hb hml hown hts hK hA hlk hR
  intro res hr H locs ls hP hS hl
  show W p l e R s m args below meth c H locs cells slots (Qf res) (F0 m pc ls _)
  subst hq
  exact va_aldq (f := fun i => (σ.2.2.1 k i).map (wA w)) hx hb hK hP k 5 ((wls_get (hW.n hn)).trans (by rw [went_6 (hW.sh hs)])) rfl hi d (kk res hr H locs ls hP hS hl)

theorem r_getI (hC : Cok X w A own cc nL fr lo S Rf N) {ci : Nat} {C : String} {T : u_T} {n : Nat} {ty : Nat → FieldType} (hc : ClsOk ci C T n ty) {idx : Nat} (k j : Nat) (hf : fkd ci j = 0) (hs : S k = (0, ci)) (hn : k < wN w) (hj : Nat.blt j n = true) (lk : Cond.fieldLink own idx (T j).1 (T j).2.1 (T j).2.2.1 ∈ gw) (d : decode cc pc = .ok (.getfield idx, 3)) (kk : RF X w A nL Qf P (pc + 3) lv (.int (σ.1 k j) :: st) σ) : RF X w A nL Qf P pc lv (.ref (wA w k) :: st) σ := by
  obtain ⟨p, l, e, R, s, m, args, below, meth, c, cells, slots⟩ := X
  obtain ⟨⟨hx, hb, hml, hown, hts⟩, hK, hA, hlk, hD, hR, hW, hX⟩ := hC
  dsimp only at hx hb hml hown hts hK hA hlk hR
  intro res hr H locs ls hP hS hl
  show W p l e R s m args below meth c H locs cells slots (Qf res) (F0 m pc ls _)
  exact va_get hx hb hts hc.ws hown hK hP k ((wls_get hn).trans (by rw [went_0 (hW.sh hs)])) hc.cl j (Nat.le_of_ble_eq_true hj) (hts _ lk) (fun _ h9 => h9) ((map_get _ (by rw [hc.nf]; exact Nat.le_of_ble_eq_true hj)).trans (by rw [fv_0 hf])) d (kk res hr H locs ls hP hS hl)

theorem r_getZ (hC : Cok X w A own cc nL fr lo S Rf N) {ci : Nat} {C : String} {T : u_T} {n : Nat} {ty : Nat → FieldType} (hc : ClsOk ci C T n ty) {idx : Nat} (k j : Nat) (hf : fkd ci j = 4) (hs : S k = (0, ci)) (hn : k < wN w) (hj : Nat.blt j n = true) (lk : Cond.fieldLink own idx (T j).1 (T j).2.1 (T j).2.2.1 ∈ gw) (d : decode cc pc = .ok (.getfield idx, 3)) (kk : RF X w A nL Qf P (pc + 3) lv (.int (σ.1 k j) :: st) σ) : RF X w A nL Qf P pc lv (.ref (wA w k) :: st) σ := by
  obtain ⟨p, l, e, R, s, m, args, below, meth, c, cells, slots⟩ := X
  obtain ⟨⟨hx, hb, hml, hown, hts⟩, hK, hA, hlk, hD, hR, hW, hX⟩ := hC
  dsimp only at hx hb hml hown hts hK hA hlk hR
  intro res hr H locs ls hP hS hl
  show W p l e R s m args below meth c H locs cells slots (Qf res) (F0 m pc ls _)
  exact va_get hx hb hts hc.ws hown hK hP k ((wls_get hn).trans (by rw [went_0 (hW.sh hs)])) hc.cl j (Nat.le_of_ble_eq_true hj) (hts _ lk) (fun _ h9 => h9) ((map_get _ (by rw [hc.nf]; exact Nat.le_of_ble_eq_true hj)).trans (by rw [fv_4 hf])) d (kk res hr H locs ls hP hS hl)

theorem r_getL (hC : Cok X w A own cc nL fr lo S Rf N) {ci : Nat} {C : String} {T : u_T} {n : Nat} {ty : Nat → FieldType} (hc : ClsOk ci C T n ty) {idx : Nat} (k j : Nat) (hf : fkd ci j = 1) (hs : S k = (0, ci)) (hn : k < wN w) (hj : Nat.blt j n = true) (lk : Cond.fieldLink own idx (T j).1 (T j).2.1 (T j).2.2.1 ∈ gw) (d : decode cc pc = .ok (.getfield idx, 3)) (kk : RF X w A nL Qf P (pc + 3) lv (.long (σ.2.1 k j) :: st) σ) : RF X w A nL Qf P pc lv (.ref (wA w k) :: st) σ := by
  obtain ⟨p, l, e, R, s, m, args, below, meth, c, cells, slots⟩ := X
  obtain ⟨⟨hx, hb, hml, hown, hts⟩, hK, hA, hlk, hD, hR, hW, hX⟩ := hC
  dsimp only at hx hb hml hown hts hK hA hlk hR
  intro res hr H locs ls hP hS hl
  show W p l e R s m args below meth c H locs cells slots (Qf res) (F0 m pc ls _)
  exact va_get hx hb hts hc.ws hown hK hP k ((wls_get hn).trans (by rw [went_0 (hW.sh hs)])) hc.cl j (Nat.le_of_ble_eq_true hj) (hts _ lk) (fun _ h9 => h9) ((map_get _ (by rw [hc.nf]; exact Nat.le_of_ble_eq_true hj)).trans (by rw [fv_1 hf])) d (kk res hr H locs ls hP hS hl)

theorem r_getR (hC : Cok X w A own cc nL fr lo S Rf N) {ci : Nat} {C : String} {T : u_T} {n : Nat} {ty : Nat → FieldType} (hc : ClsOk ci C T n ty) {idx : Nat} (k j : Nat) (c2 : Nat) (hr2 : Rf k j = some c2) (hf : fkd ci j = 2) (hs : S k = (0, ci)) (hn : k < wN w) (hj : Nat.blt j n = true) (lk : Cond.fieldLink own idx (T j).1 (T j).2.1 (T j).2.2.1 ∈ gw) (d : decode cc pc = .ok (.getfield idx, 3)) (kk : RF X w A nL Qf P (pc + 3) lv (.ref (wA w c2) :: st) σ) : RF X w A nL Qf P pc lv (.ref (wA w k) :: st) σ := by
  obtain ⟨p, l, e, R, s, m, args, below, meth, c, cells, slots⟩ := X
  obtain ⟨⟨hx, hb, hml, hown, hts⟩, hK, hA, hlk, hD, hR, hW, hX⟩ := hC
  dsimp only at hx hb hml hown hts hK hA hlk hR
  intro res hr H locs ls hP hS hl
  show W p l e R s m args below meth c H locs cells slots (Qf res) (F0 m pc ls _)
  exact va_get hx hb hts hc.ws hown hK hP k ((wls_get hn).trans (by rw [went_0 (hW.sh hs)])) hc.cl j (Nat.le_of_ble_eq_true hj) (hts _ lk) (fun _ h9 => h9) ((map_get _ (by rw [hc.nf]; exact Nat.le_of_ble_eq_true hj)).trans (by rw [fv_2 hf, hW.rf, hr2]; rfl)) d (kk res hr H locs ls hP hS hl)

theorem r_getD (hC : Cok X w A own cc nL fr lo S Rf N) {ci : Nat} {C : String} {T : u_T} {n : Nat} {ty : Nat → FieldType} (hc : ClsOk ci C T n ty) {idx : Nat} (k j : Nat) {q : Option Nat} (hq : σ.2.2.1 k j = q) (hf : fkd ci j = 3) (hs : S k = (0, ci)) (hn : k < wN w) (hj : Nat.blt j n = true) (lk : Cond.fieldLink own idx (T j).1 (T j).2.1 (T j).2.2.1 ∈ gw) (d : decode cc pc = .ok (.getfield idx, 3)) (kk : RF X w A nL Qf P (pc + 3) lv (va_rf (q.map (wA w)) :: st) σ) : RF X w A nL Qf P pc lv (.ref (wA w k) :: st) σ := by
  obtain ⟨p, l, e, R, s, m, args, below, meth, c, cells, slots⟩ := X
  obtain ⟨⟨hx, hb, hml, hown, hts⟩, hK, hA, hlk, hD, hR, hW, hX⟩ := hC
  dsimp only at hx hb hml hown hts hK hA hlk hR
  intro res hr H locs ls hP hS hl
  show W p l e R s m args below meth c H locs cells slots (Qf res) (F0 m pc ls _)
  subst hq
  exact va_get hx hb hts hc.ws hown hK hP k ((wls_get hn).trans (by rw [went_0 (hW.sh hs)])) hc.cl j (Nat.le_of_ble_eq_true hj) (hts _ lk) (fun _ h9 => h9) ((map_get _ (by rw [hc.nf]; exact Nat.le_of_ble_eq_true hj)).trans (by rw [fv_3 hf])) d (kk res hr H locs ls hP hS hl)

theorem r_putI (hC : Cok X w A own cc nL fr lo S Rf N) {ci : Nat} {C : String} {T : u_T} {n : Nat} {ty : Nat → FieldType} (hc : ClsOk ci C T n ty) {idx : Nat} (k j : Nat) {v : Int32} (hf : fkd ci j = 0) (hty : ty j = .int) (hs : S k = (0, ci)) (hn : k < wN w) (hj : Nat.blt j n = true) (hfin : (T j).2.2.2 = false) (lk : Cond.fieldLink own idx (T j).1 (T j).2.1 (T j).2.2.1 ∈ gw) (d : decode cc pc = .ok (.putfield idx, 3)) (kk : RF X w A nL Qf P (pc + 3) lv st (sI σ k j v)) : RF X w A nL Qf P pc lv (.int v :: .ref (wA w k) :: st) σ := by
  obtain ⟨p, l, e, R, s, m, args, below, meth, c, cells, slots⟩ := X
  obtain ⟨⟨hx, hb, hml, hown, hts⟩, hK, hA, hlk, hD, hR, hW, hX⟩ := hC
  dsimp only at hx hb hml hown hts hK hA hlk hR
  intro res hr H locs ls hP hS hl
  show W p l e R s m args below meth c H locs cells slots (Qf res) (F0 m pc ls _)
  refine va_put (ty := .int) hx hb hts hc.ws ty hc.ty hc.nm hown hK hP (hD σ) hS k ((wls_get hn).trans (by rw [went_0 (hW.sh hs)])) hc.cl j (Nat.le_of_ble_eq_true hj) (hts _ lk) (fun _ h9 => h9) hfin (by rw [hc.ty j (Nat.le_of_ble_eq_true hj), hty]) rfl rfl (by simp [hc.nf]; exact Nat.le_of_ble_eq_true hj) d (fun H1 locs1 h1 _ h3 => ?_)
  rw [wls_set (σ' := sI σ k j v) (by rw [went_0 (hW.sh hs), fput (by rw [fv_0 hf, sI_at]) sI_fv]) sI_ne] at h1
  exact kk res hr H1 locs1 ls h1 h3 hl

theorem r_putZ (hC : Cok X w A own cc nL fr lo S Rf N) {ci : Nat} {C : String} {T : u_T} {n : Nat} {ty : Nat → FieldType} (hc : ClsOk ci C T n ty) {idx : Nat} (k j : Nat) {v : Int32} (hz : v = 0 ∨ v = 1) (hf : fkd ci j = 4) (hty : ty j = .boolean) (hs : S k = (0, ci)) (hn : k < wN w) (hj : Nat.blt j n = true) (hfin : (T j).2.2.2 = false) (lk : Cond.fieldLink own idx (T j).1 (T j).2.1 (T j).2.2.1 ∈ gw) (d : decode cc pc = .ok (.putfield idx, 3)) (kk : RF X w A nL Qf P (pc + 3) lv st (sI σ k j v)) : RF X w A nL Qf P pc lv (.int v :: .ref (wA w k) :: st) σ := by
  obtain ⟨p, l, e, R, s, m, args, below, meth, c, cells, slots⟩ := X
  obtain ⟨⟨hx, hb, hml, hown, hts⟩, hK, hA, hlk, hD, hR, hW, hX⟩ := hC
  dsimp only at hx hb hml hown hts hK hA hlk hR
  intro res hr H locs ls hP hS hl
  show W p l e R s m args below meth c H locs cells slots (Qf res) (F0 m pc ls _)
  refine va_put (ty := .boolean) hx hb hts hc.ws ty hc.ty hc.nm hown hK hP (hD σ) hS k ((wls_get hn).trans (by rw [went_0 (hW.sh hs)])) hc.cl j (Nat.le_of_ble_eq_true hj) (hts _ lk) (fun _ h9 => h9) hfin (by rw [hc.ty j (Nat.le_of_ble_eq_true hj), hty]) (by rcases hz with rfl | rfl <;> rfl) (by rcases hz with rfl | rfl <;> rfl) (by simp [hc.nf]; exact Nat.le_of_ble_eq_true hj) d (fun H1 locs1 h1 _ h3 => ?_)
  rw [wls_set (σ' := sI σ k j v) (by rw [went_0 (hW.sh hs), fput (by rw [fv_4 hf, sI_at]) sI_fv]) sI_ne] at h1
  exact kk res hr H1 locs1 ls h1 h3 hl

theorem r_putL (hC : Cok X w A own cc nL fr lo S Rf N) {ci : Nat} {C : String} {T : u_T} {n : Nat} {ty : Nat → FieldType} (hc : ClsOk ci C T n ty) {idx : Nat} (k j : Nat) {v : Int64} (hf : fkd ci j = 1) (hty : ty j = .long) (hs : S k = (0, ci)) (hn : k < wN w) (hj : Nat.blt j n = true) (hfin : (T j).2.2.2 = false) (lk : Cond.fieldLink own idx (T j).1 (T j).2.1 (T j).2.2.1 ∈ gw) (d : decode cc pc = .ok (.putfield idx, 3)) (kk : RF X w A nL Qf P (pc + 3) lv st (sL σ k j v)) : RF X w A nL Qf P pc lv (.long v :: .ref (wA w k) :: st) σ := by
  obtain ⟨p, l, e, R, s, m, args, below, meth, c, cells, slots⟩ := X
  obtain ⟨⟨hx, hb, hml, hown, hts⟩, hK, hA, hlk, hD, hR, hW, hX⟩ := hC
  dsimp only at hx hb hml hown hts hK hA hlk hR
  intro res hr H locs ls hP hS hl
  show W p l e R s m args below meth c H locs cells slots (Qf res) (F0 m pc ls _)
  refine va_put (ty := .long) hx hb hts hc.ws ty hc.ty hc.nm hown hK hP (hD σ) hS k ((wls_get hn).trans (by rw [went_0 (hW.sh hs)])) hc.cl j (Nat.le_of_ble_eq_true hj) (hts _ lk) (fun _ h9 => h9) hfin (by rw [hc.ty j (Nat.le_of_ble_eq_true hj), hty]) rfl rfl (by simp [hc.nf]; exact Nat.le_of_ble_eq_true hj) d (fun H1 locs1 h1 _ h3 => ?_)
  rw [wls_set (σ' := sL σ k j v) (by rw [went_0 (hW.sh hs), fput (by rw [fv_1 hf, sL_at]) sL_fv]) sL_ne] at h1
  exact kk res hr H1 locs1 ls h1 h3 hl

theorem r_mmax (hC : Cok X w A own cc nL fr lo S Rf N) {x y : Int32} {idx : Nat} (hfr : 1 ≤ fr) (hlo : (st.map fun v => v.category).sum + 13 ≤ lo) (lk : Cond.methodLink own idx Lib.Math.max.name ∈ gw) (m1 : Cond.static Lib.Math.max.name ∈ gw) (m2 : Cond.initialized "java/lang/Math" ∈ gw) (m3 : Cond.code Lib.Math.max.name Lib.Math.max.code 2 (some .int) ∈ gw) (d : decode cc pc = .ok (.invokestatic idx, 3)) (k : RF X w A nL Qf P (pc + 3) lv (.int (if x < y then y else x) :: st) σ) : RF X w A nL Qf P pc lv (.int y :: .int x :: st) σ := by
  obtain ⟨p, l, e, R, s, m, args, below, meth, c, cells, slots⟩ := X
  obtain ⟨⟨hx, hb, hml, hown, hts⟩, hK, hA, hlk, hD, hR, hW, hX⟩ := hC
  dsimp only at hx hb hml hown hts hK hA hlk hR
  intro res hr H locs ls hP hS hl
  show W p l e R s m args below meth c H locs cells slots (Qf res) (F0 m pc ls _)
  exact va_mmax hx hb (hml.trans hl.1.symm) hown (hts _ lk) (hts _ m1) (hts _ m2) (hts _ m3) (Nat.le_trans hfr hR.1) (Nat.le_trans hlo hR.2.1) hR.2.2.1 hR.2.2.2 d (k res hr H locs ls hP hS hl)

theorem r_mmin (hC : Cok X w A own cc nL fr lo S Rf N) {x y : Int32} {idx : Nat} (hfr : 1 ≤ fr) (hlo : (st.map fun v => v.category).sum + 13 ≤ lo) (lk : Cond.methodLink own idx Lib.Math.min.name ∈ gw) (m1 : Cond.static Lib.Math.min.name ∈ gw) (m2 : Cond.initialized "java/lang/Math" ∈ gw) (m3 : Cond.code Lib.Math.min.name Lib.Math.min.code 2 (some .int) ∈ gw) (d : decode cc pc = .ok (.invokestatic idx, 3)) (k : RF X w A nL Qf P (pc + 3) lv (.int (if y < x then y else x) :: st) σ) : RF X w A nL Qf P pc lv (.int y :: .int x :: st) σ := by
  obtain ⟨p, l, e, R, s, m, args, below, meth, c, cells, slots⟩ := X
  obtain ⟨⟨hx, hb, hml, hown, hts⟩, hK, hA, hlk, hD, hR, hW, hX⟩ := hC
  dsimp only at hx hb hml hown hts hK hA hlk hR
  intro res hr H locs ls hP hS hl
  show W p l e R s m args below meth c H locs cells slots (Qf res) (F0 m pc ls _)
  exact va_mmin hx hb (hml.trans hl.1.symm) hown (hts _ lk) (hts _ m1) (hts _ m2) (hts _ m3) (Nat.le_trans hfr hR.1) (Nat.le_trans hlo hR.2.1) hR.2.2.1 hR.2.2.2 d (k res hr H locs ls hP hS hl)

theorem r_mabs (hC : Cok X w A own cc nL fr lo S Rf N) {x : Int32} {idx : Nat} (hfr : 1 ≤ fr) (hlo : (st.map fun v => v.category).sum + 13 ≤ lo) (lk : Cond.methodLink own idx Lib.Math.abs.name ∈ gw) (m1 : Cond.static Lib.Math.abs.name ∈ gw) (m2 : Cond.initialized "java/lang/Math" ∈ gw) (m3 : Cond.code Lib.Math.abs.name Lib.Math.abs.code 1 (some .int) ∈ gw) (d : decode cc pc = .ok (.invokestatic idx, 3)) (k : RF X w A nL Qf P (pc + 3) lv (.int (if 0 ≤ x then x else 0 - x) :: st) σ) : RF X w A nL Qf P pc lv (.int x :: st) σ := by
  obtain ⟨p, l, e, R, s, m, args, below, meth, c, cells, slots⟩ := X
  obtain ⟨⟨hx, hb, hml, hown, hts⟩, hK, hA, hlk, hD, hR, hW, hX⟩ := hC
  dsimp only at hx hb hml hown hts hK hA hlk hR
  intro res hr H locs ls hP hS hl
  show W p l e R s m args below meth c H locs cells slots (Qf res) (F0 m pc ls _)
  exact va_mabs hx hb (hml.trans hl.1.symm) hown (hts _ lk) (hts _ m1) (hts _ m2) (hts _ m3) (Nat.le_trans hfr hR.1) (Nat.le_trans hlo hR.2.1) hR.2.2.1 hR.2.2.2 d (k res hr H locs ls hP hS hl)

theorem r_mabsL (hC : Cok X w A own cc nL fr lo S Rf N) {x : Int64} {idx : Nat} (hfr : 1 ≤ fr) (hlo : (st.map fun v => v.category).sum + 13 ≤ lo) (lk : Cond.methodLink own idx Lib.MathLoose.abs_long.x ∈ gw) (m1 : Cond.static Lib.MathLoose.abs_long.x ∈ gw) (m2 : Cond.initialized "java/lang/Math" ∈ gw) (m3 : Cond.code Lib.MathLoose.abs_long.x Lib.MathLoose.abs_long.code 2 (some .long) ∈ gw) (d : decode cc pc = .ok (.invokestatic idx, 3)) (k : RF X w A nL Qf P (pc + 3) lv (.long (if 0 < x then x else -x) :: st) σ) : RF X w A nL Qf P pc lv (.long x :: st) σ := by
  obtain ⟨p, l, e, R, s, m, args, below, meth, c, cells, slots⟩ := X
  obtain ⟨⟨hx, hb, hml, hown, hts⟩, hK, hA, hlk, hD, hR, hW, hX⟩ := hC
  dsimp only at hx hb hml hown hts hK hA hlk hR
  intro res hr H locs ls hP hS hl
  show W p l e R s m args below meth c H locs cells slots (Qf res) (F0 m pc ls _)
  exact va_mabs_long hx hb (hml.trans hl.1.symm) hown (hts _ lk) (hts _ m1) (hts _ m2) (hts _ m3) (Nat.le_trans hfr hR.1) (Nat.le_trans hlo hR.2.1) hR.2.2.1 hR.2.2.2 d (k res hr H locs ls hP hS hl)

theorem r_copyi (hC : Cok X w A own cc nL fr lo S Rf N) {sp dp n : Int32} {idx : Nat} (k0 k1 n0 n1 : Nat) (hs0 : S k0 = (1, n0)) (hs1 : S k1 = (1, n1)) (hn0 : Nat.blt k0 N = true) (hn1 : Nat.blt k1 N = true) (hg : ¬ sp < 0 ∧ ¬ dp < 0 ∧ ¬ n < 0 ∧ sp.toNatClampNeg + n.toNatClampNeg ≤ n0 ∧ dp.toNatClampNeg + n.toNatClampNeg ≤ n1) (hfr : 1 ≤ fr) (hlo : (st.map fun v => v.category).sum + (nativeFrameWords "java/lang/System" "arraycopy" 5 + 11) ≤ lo) (lk : Cond.methodLink own idx arraycopyName ∈ gw) (m1 : Cond.native arraycopyName ∈ gw) (m2 : Cond.static arraycopyName ∈ gw) (m3 : Cond.initialized "java/lang/System" ∈ gw) (d : decode cc pc = .ok (.invokestatic idx, 3)) (kk : RF X w A nL Qf P (pc + 3) lv st (sA σ k1 (va_cpy (σ.1 k0) (σ.1 k1) sp.toNatClampNeg dp.toNatClampNeg n.toNatClampNeg))) : RF X w A nL Qf P pc lv (.int n :: .int dp :: .ref (wA w k1) :: .int sp :: .ref (wA w k0) :: st) σ := by
  obtain ⟨p, l, e, R, s, m, args, below, meth, c, cells, slots⟩ := X
  obtain ⟨⟨hx, hb, hml, hown, hts⟩, hK, hA, hlk, hD, hR, hW, hX⟩ := hC
  dsimp only at hx hb hml hown hts hK hA hlk hR
  intro res hr H locs ls hP hS hl
  show W p l e R s m args below meth c H locs cells slots (Qf res) (F0 m pc ls _)
  refine va_copyi (ty := .int) hx hb (hml.trans hl.1.symm) hown (hts _ lk) (hts _ m1) (hts _ m2) (hts _ m3) hK hP (hD σ) hS k0 k1 0 0 ((wls_get (hW.n hn0)).trans (by rw [went_1 (hW.sh hs0)])) ((wls_get (hW.n hn1)).trans (by rw [went_1 (hW.sh hs1)])) rfl rfl rfl hg.1 hg.2.1 hg.2.2.1 hg.2.2.2.1 hg.2.2.2.2 (fun _ _ => rfl) (Nat.le_trans hfr hR.1) (Nat.le_trans hlo hR.2.1) d (fun H1 locs1 h1 _ h3 => ?_)
  rw [wls_set (σ' := sA σ k1 (va_cpy (σ.1 k0) (σ.1 k1) sp.toNatClampNeg dp.toNatClampNeg n.toNatClampNeg)) (by rw [went_1 (hW.sh hs1), sA_row]) sA_ne] at h1
  exact kk res hr H1 locs1 ls h1 h3 hl
end RFROWS
