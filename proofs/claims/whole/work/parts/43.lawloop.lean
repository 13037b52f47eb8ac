def R_law : String := "EightOarsLaw"
def lw_P (b : Addr) (xs : List Int32) (args : Array Value) (s : State) : Prop := args = #[.ref b] ∧ s.IntsAt b xs ∧ xs.length ≤ 3072 ∧ (Jvm.Cond.and given_1 narrow_1).before args s = true
def lw_Q (_ : Array Value) (s : State) (o : Outcome) (t : State) : Prop := o = .returned (some (.int 1)) ∧ Framed s o t [] 600000 7302250
def lw_Z (below : List Frame) (a : Array Value) (s : State) : State → Prop := fun t => ∃ o, t.status = .running ∧ Ended t below o ∧ lw_Q a s o t
/-- the law's own end, with 1 on the stack, nothing written that was there before, its room as the claim has it -/
theorem lw_ret {p : Program} {l : Launch} {e : Env} {s : State} {m : MethodId} {below : List Frame} {meth : Method} {c : Code} {b : Nat} (hx : p.tables.exec = Jvm.exec) (hb : c.code = code) (hr : meth.sig.returnType = ret) (hlocks : meth.locks = false) {pc : Nat} {H : Heap} {ls : Array Slot} (hdg : decode code pc = .ok (.ireturn, 1)) : W p l e room_1 s m #[Value.ref b] below meth c H [] 600000 7302250 (lw_Z below #[Value.ref b] s) (F0 m pc ls [.int 1]) := by
  intro T hT X
  obtain ⟨fs, hret, hrun, hended, hW, hframe⟩ := X.leave (v := some (.int 1)) (hlocks := hlocks) (fun h => by rw [hr] at h; cases h)
  have hmeth' : T.vm.method? m = some meth := X.method'
  refine ⟨T.setFrames fs, ?_, .returned (some (.int 1)), hrun, hended, rfl, ⟨_, rfl⟩, hW, hframe⟩
  jvm_step X.here [X.here.top, hx, hb, hdg, hmeth', hr, ret, narrow_b1]
  (try refine ⟨rfl, ?_⟩); (try refine ⟨rfl, ?_⟩)
  first | (intro acts; rw [hret _ acts rfl rfl rfl]) | rw [hret _ _ rfl rfl rfl]
  exact Steps.refl _
/-- what holds at the law's entry: the machine, the code, the tables' words (any of lw_tbl by 'hts w (by decide +kernel)'), the script of L ints xs at the cell b, what the Statement gives of the start (any of its parts by flat_of_before) -/
def lw_At (p : Program) (s : State) (m : MethodId) (meth : Method) (c : Code) (b L : Nat) (xs : Nat → Int32) : Prop :=
  p.tables.exec = Jvm.exec ∧ c.code = code ∧ meth.sig.returnType = ret ∧ c.maxLocals = 4 ∧ s.vm.findClass R_law = some m.cls ∧ (∀ w ∈ lw_tbl, w.before #[Value.ref b] s = true) ∧ va_X b L xs s s.heap ∧ b < s.heap.size ∧ meth.locks = false ∧ (Jvm.Cond.and given_1 narrow_1).before #[Value.ref b] s = true
set_option maxHeartbeats 4000000 in
set_option maxRecDepth 100000 in
theorem law_loop {p : Program} {l : Launch} {e : Env} {s : State} {m : MethodId} {below : List Frame} {meth : Method} {c : Code} {b L : Nat} {xs : Nat → Int32} {D : va_G} {C : Nat → ClassId} {KV : (Nat → Nat) × (Nat → Nat)} {am : Nat → Nat} {Inv : Nat → St → St → Prop} (hp : PureOK Inv) (hL : L ≤ 3072) (hc : Lc p s m meth c b L xs D C KV) :
    ∀ (n j : Nat) (x3 : Int32), 6 * j ≤ L → L + 1 ≤ 6 * j + n → x3 = nI (6 * j) → ∀ (nc : Nat) (ax : Nat → Nat) (σx σm : St) (H : Heap) (locs : List Loc), Inv nc σx σm → Wst D C KV s nc ax am σx σm H locs → ∀ (ls : Array Slot), lv_has ls 4 [(0, .ref b), (1, .ref (ax 0)), (2, .ref (am 0)), (3, .int x3)] → W p l e room_1 s m #[Value.ref b] below meth c H locs (97 + 2 * j) (9718 + 162 * j) (lw_Z below #[Value.ref b] s) (F0 m 18 ls []) := by
  obtain ⟨⟨hx, hb, hml, hown, hts⟩, hK, hX, hXs, hbl, hr, hlk⟩ := id hc
  obtain ⟨-, p0, p1, p2, p3, p4, p5, p6, p7, p8, p9, p10, p11, p12, p13, p14, p15, p16, p17, p18, p19, p20, p21, p22, p23, p24, p25, p26, p27, p28, p29, p30, p31⟩ := hp
  have hbA : ¬ Ge s b := Nat.not_le.mpr hbl
  intro n
  induction n with
  | zero => intro j x3 h1 h2; exact absurd h2 (by omega)
  | succ n ih =>
    intro j x3 hj hn ex nc ax σx σm H locs hI hw ls hl
    have e6 : (6 : Int32) = nI 6 := rfl
    refine lv_iload_n hx hb dL_law_18 rfl (lv_at hl 3 rfl) ?_
    refine lv_aload_n hx hb dL_law_19 rfl (lv_at hl 0 rfl) ?_
    refine va_slen hx hb hXs hbl hbA hw.2.2.2 dL_law_20 ?_
    refine lv_bipush (v := 6) hx hb dL_law_21 (by decide) ?_
    refine lv_isub hx hb dL_law_23 ?_
    refine lv_icmp_gt (tgt := 1306) hx hb dL_law_24 (by decide) (fun c1 => ?_) (fun c1 => ?_)
    · refine lv_iconst (v := 1) hx hb dL_law_1306 (by decide) ?_
      refine va_forget (fun q hq => hw.2.2.2.2.2 q hq) ?_
      refine W.widen (k := 600000) (n := 7302250) (by omega) (by omega) ?_
      exact lw_ret hx hb hr hlk dL_law_1307
    have hle : 6 * j + 6 ≤ L := by
      have h1 : ¬ (nI L - nI 6).toInt < (nI (6 * j)).toInt := fun h => c1 (by rw [ex, e6]; exact Int32.lt_iff_toInt_lt.mpr h)
      rw [pk_sub_toInt (by omega) (by omega), nI_toInt (by omega)] at h1
      omega
    have h0 : vp_in x3 L := by rw [ex]; exact vp_in_nI (by omega) (by omega)
    have hk : ∀ k : Nat, k < 6 → vp_in (x3 + nI k) L := fun k hk => by rw [ex, nI_add]; exact vp_in_nI (by omega) (by omega)
    have h1 : vp_in (x3 + 1) L := hk 1 (by omega)
    have h2 : vp_in (x3 + 2) L := hk 2 (by omega)
    have h3 : vp_in (x3 + 3) L := hk 3 (by omega)
    have h4 : vp_in (x3 + 4) L := hk 4 (by omega)
    have h5 : vp_in (x3 + 5) L := hk 5 (by omega)
    have hcap : 97 + 2 * j + 2 ≤ 600000 ∧ 9718 + 162 * j + 162 ≤ 7302250 := by omega
    have hnext : ∀ (nc' : Nat) (ax' : Nat → Nat) (σx' σm' : St) (H1 : Heap) (locs1 : List Loc), Inv nc' σx' σm' → ax' 0 = ax 0 → Wst D C KV s nc' ax' am σx' σm' H1 locs1 → W p l e room_1 s m #[Value.ref b] below meth c H1 locs1 (97 + 2 * j + 2) (9718 + 162 * j + 162) (lw_Z below #[Value.ref b] s) (F0 m 1300 ls []) := by
      intro nc' ax' σx' σm' H1 locs1 hI1 h0a hw1
      refine lv_iinc (v := nI (6 * (j + 1))) (lv' := [(3, .int (nI (6 * (j + 1)))), (0, .ref b), (1, .ref (ax 0)), (2, .ref (am 0))]) hx hb dL_law_1300 hl (k := 3) rfl (by rw [ex]; exact (nI_add (6 * j) 6)) (by decide) rfl (fun ls hl => ?_)
      refine lv_goto (tgt := 18) hx hb dL_law_1303 (by decide) ?_
      have hl2 := lv_sub hl [1, 2, 3, 0] (l' := [(0, .ref b), (1, .ref (ax 0)), (2, .ref (am 0)), (3, .int (nI (6 * (j + 1))))]) rfl
      rw [← h0a] at hl2
      exact ih (j + 1) (nI (6 * (j + 1))) (by omega) (by omega) rfl nc' ax' σx' σm' H1 locs1 hI1 hw1 ls hl2
    refine lv_aload_n hx hb dL_law_27 rfl (lv_at hl 0 rfl) ?_
    refine lv_iload_n hx hb dL_law_28 rfl (lv_at hl 3 rfl) ?_
    refine va_sld hx hb hXs hbl hbA hw.2.2.2 h0 dL_law_29 ?_
    refine lv_bipush (v := 31) hx hb dL_law_30 (by decide) ?_
    refine lv_iand hx hb dL_law_32 ?_
    obtain ⟨t, ht, et⟩ := pk_andE (xs x3.toNatClampNeg) (m := 31) 5 (by decide)
    rw [et]
    have ht : t < 32 := ht
    clear et
    match t, ht with
    | 0, _ =>
      refine lv_tableIn (off := 143) (tgt := 176) hx hb dL_law_33 (by decide) (by decide) (by decide) (by decide) ?_
      exact law_0 p0 hI hc hw h1 h2 h3 h4 h5 _ _ _ _ _ rfl rfl rfl rfl rfl hl hcap hnext
    | 1, _ =>
      refine lv_tableIn (off := 196) (tgt := 229) hx hb dL_law_33 (by decide) (by decide) (by decide) (by decide) ?_
      exact law_1 p1 hI hc hw h1 h2 h3 h4 h5 _ _ _ _ _ rfl rfl rfl rfl rfl hl hcap hnext
    | 2, _ =>
      refine lv_tableIn (off := 229) (tgt := 262) hx hb dL_law_33 (by decide) (by decide) (by decide) (by decide) ?_
      exact law_2 p2 hI hc hw h1 h2 h3 h4 h5 _ _ _ _ _ rfl rfl rfl rfl rfl hl hcap hnext
    | 3, _ =>
      refine lv_tableIn (off := 262) (tgt := 295) hx hb dL_law_33 (by decide) (by decide) (by decide) (by decide) ?_
      exact law_3 p3 hI hc hw h1 h2 h3 h4 h5 _ _ _ _ _ rfl rfl rfl rfl rfl hl hcap hnext
    | 4, _ =>
      refine lv_tableIn (off := 305) (tgt := 338) hx hb dL_law_33 (by decide) (by decide) (by decide) (by decide) ?_
      exact law_4 p4 hI hc hw h1 h2 h3 h4 h5 _ _ _ _ _ rfl rfl rfl rfl rfl hl hcap hnext
    | 5, _ =>
      refine lv_tableIn (off := 338) (tgt := 371) hx hb dL_law_33 (by decide) (by decide) (by decide) (by decide) ?_
      exact law_5 p5 hI hc hw h1 h2 h3 h4 h5 _ _ _ _ _ rfl rfl rfl rfl rfl hl hcap hnext
    | 6, _ =>
      refine lv_tableIn (off := 391) (tgt := 424) hx hb dL_law_33 (by decide) (by decide) (by decide) (by decide) ?_
      exact law_6 p6 hI hc hw h1 h2 h3 h4 h5 _ _ _ _ _ rfl rfl rfl rfl rfl hl hcap hnext
    | 7, _ =>
      refine lv_tableIn (off := 454) (tgt := 487) hx hb dL_law_33 (by decide) (by decide) (by decide) (by decide) ?_
      exact law_7 p7 hI hc hw h1 h2 h3 h4 h5 _ _ _ _ _ rfl rfl rfl rfl rfl hl hcap hnext
    | 8, _ =>
      refine lv_tableIn (off := 467) (tgt := 500) hx hb dL_law_33 (by decide) (by decide) (by decide) (by decide) ?_
      exact law_8 p8 hI hc hw h1 h2 h3 h4 h5 _ _ _ _ _ rfl rfl rfl rfl rfl hl hcap hnext
    | 9, _ =>
      refine lv_tableIn (off := 490) (tgt := 523) hx hb dL_law_33 (by decide) (by decide) (by decide) (by decide) ?_
      exact law_9 p9 hI hc hw h1 h2 h3 h4 h5 _ _ _ _ _ rfl rfl rfl rfl rfl hl hcap hnext
    | 10, _ =>
      refine lv_tableIn (off := 503) (tgt := 536) hx hb dL_law_33 (by decide) (by decide) (by decide) (by decide) ?_
      exact law_10 p10 hI hc hw h1 h2 h3 h4 h5 _ _ _ _ _ rfl rfl rfl rfl rfl hl hcap hnext
    | 11, _ =>
      refine lv_tableIn (off := 536) (tgt := 569) hx hb dL_law_33 (by decide) (by decide) (by decide) (by decide) ?_
      exact law_11 p11 hI hc hw h1 h2 h3 h4 h5 _ _ _ _ _ rfl rfl rfl rfl rfl hl hcap hnext
    | 12, _ =>
      refine lv_tableIn (off := 570) (tgt := 603) hx hb dL_law_33 (by decide) (by decide) (by decide) (by decide) ?_
      exact law_12 p12 hI hc hw h1 h2 h3 h4 h5 _ _ _ _ _ rfl rfl rfl rfl rfl hl hcap hnext
    | 13, _ =>
      refine lv_tableIn (off := 603) (tgt := 636) hx hb dL_law_33 (by decide) (by decide) (by decide) (by decide) ?_
      exact law_13 p13 hI hc hw h1 h2 h3 h4 h5 _ _ _ _ _ rfl rfl rfl rfl rfl hl hcap hnext
    | 14, _ =>
      refine lv_tableIn (off := 627) (tgt := 660) hx hb dL_law_33 (by decide) (by decide) (by decide) (by decide) ?_
      exact law_14 p14 hI hc hw h1 h2 h3 h4 h5 _ _ _ _ _ rfl rfl rfl rfl rfl hl hcap hnext
    | 15, _ =>
      refine lv_tableIn (off := 661) (tgt := 694) hx hb dL_law_33 (by decide) (by decide) (by decide) (by decide) ?_
      exact law_15 p15 hI hc hw h1 h2 h3 h4 h5 _ _ _ _ _ rfl rfl rfl rfl rfl hl hcap hnext
    | 16, _ =>
      refine lv_tableIn (off := 695) (tgt := 728) hx hb dL_law_33 (by decide) (by decide) (by decide) (by decide) ?_
      exact law_16 p16 hI hc hw h1 h2 h3 h4 h5 _ _ _ _ _ rfl rfl rfl rfl rfl hl hcap hnext
    | 17, _ =>
      refine lv_tableIn (off := 719) (tgt := 752) hx hb dL_law_33 (by decide) (by decide) (by decide) (by decide) ?_
      exact law_17 p17 hI hc hw h1 h2 h3 h4 h5 _ _ _ _ _ rfl rfl rfl rfl rfl hl hcap hnext
    | 18, _ =>
      refine lv_tableIn (off := 763) (tgt := 796) hx hb dL_law_33 (by decide) (by decide) (by decide) (by decide) ?_
      exact law_18 p18 hI hc hw h1 h2 h3 h4 h5 _ _ _ _ _ rfl rfl rfl rfl rfl hl hcap hnext
    | 19, _ =>
      refine lv_tableIn (off := 816) (tgt := 849) hx hb dL_law_33 (by decide) (by decide) (by decide) (by decide) ?_
      exact law_19 p19 hI hc hw h1 h2 h3 h4 h5 _ _ _ _ _ rfl rfl rfl rfl rfl hl hcap hnext
    | 20, _ =>
      refine lv_tableIn (off := 870) (tgt := 903) hx hb dL_law_33 (by decide) (by decide) (by decide) (by decide) ?_
      exact law_20 p20 hI hc hw h1 h2 h3 h4 h5 _ _ _ _ _ rfl rfl rfl rfl rfl hl hcap hnext
    | 21, _ =>
      refine lv_tableIn (off := 893) (tgt := 926) hx hb dL_law_33 (by decide) (by decide) (by decide) (by decide) ?_
      exact law_21 p21 hI hc hw h1 h2 h3 h4 h5 _ _ _ _ _ rfl rfl rfl rfl rfl hl hcap hnext
    | 22, _ =>
      refine lv_tableIn (off := 916) (tgt := 949) hx hb dL_law_33 (by decide) (by decide) (by decide) (by decide) ?_
      exact law_22 p22 hI hc hw h1 h2 h3 h4 h5 _ _ _ _ _ rfl rfl rfl rfl rfl hl hcap hnext
    | 23, _ =>
      refine lv_tableIn (off := 960) (tgt := 993) hx hb dL_law_33 (by decide) (by decide) (by decide) (by decide) ?_
      exact law_23 p23 hI hc hw h1 h2 h3 h4 h5 _ _ _ _ _ rfl rfl rfl rfl rfl hl hcap hnext
    | 24, _ =>
      refine lv_tableIn (off := 973) (tgt := 1006) hx hb dL_law_33 (by decide) (by decide) (by decide) (by decide) ?_
      exact law_24 p24 hI hc hw h1 h2 h3 h4 h5 _ _ _ _ _ rfl rfl rfl rfl rfl hl hcap hnext
    | 25, _ =>
      refine lv_tableIn (off := 986) (tgt := 1019) hx hb dL_law_33 (by decide) (by decide) (by decide) (by decide) ?_
      exact law_25 p25 hI hc hw h1 h2 h3 h4 h5 _ _ _ _ _ rfl rfl rfl rfl rfl hl hcap hnext
    | 26, _ =>
      refine lv_tableIn (off := 999) (tgt := 1032) hx hb dL_law_33 (by decide) (by decide) (by decide) (by decide) ?_
      exact law_26 p26 hI hc hw h1 h2 h3 h4 h5 _ _ _ _ _ rfl rfl rfl rfl rfl hl hcap hnext
    | 27, _ =>
      refine lv_tableIn (off := 1022) (tgt := 1055) hx hb dL_law_33 (by decide) (by decide) (by decide) (by decide) ?_
      exact law_27 p27 hI hc hw h1 h2 h3 h4 h5 _ _ _ _ _ rfl rfl rfl rfl rfl hl hcap hnext
    | 28, _ =>
      refine lv_tableIn (off := 1065) (tgt := 1098) hx hb dL_law_33 (by decide) (by decide) (by decide) (by decide) ?_
      exact law_28 p28 hI hc hw h1 h2 h3 h4 h5 _ _ _ _ _ rfl rfl rfl rfl rfl hl hcap hnext
    | 29, _ =>
      refine lv_tableIn (off := 1108) (tgt := 1141) hx hb dL_law_33 (by decide) (by decide) (by decide) (by decide) ?_
      exact law_29 p29 hI hc hw h1 h2 h3 h4 h5 _ _ _ _ _ rfl rfl rfl rfl rfl hl hcap hnext
    | 30, _ =>
      refine lv_tableIn (off := 1171) (tgt := 1204) hx hb dL_law_33 (by decide) (by decide) (by decide) (by decide) ?_
      exact law_30 p30 hI hc hw h1 h2 h3 h4 h5 _ _ _ _ _ rfl rfl rfl rfl rfl hl hcap hnext
    | 31, _ =>
      refine lv_tableIn (off := 1224) (tgt := 1257) hx hb dL_law_33 (by decide) (by decide) (by decide) (by decide) ?_
      exact law_31 p31 hI hc hw h1 h2 h3 h4 h5 _ _ _ _ _ rfl rfl rfl rfl rfl hl hcap hnext
    | t + 32, h9 => exact absurd h9 (by omega)
