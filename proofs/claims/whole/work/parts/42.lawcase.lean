def P_rower (Inv : Nat → St → St → Prop) : Prop := ∀ (nc : Nat) (σx σm : St) (b1 : Int32) (b2 : Int32) (b3 : Int32) (b4 : Int32), Inv nc σx σm → ∃ (r : Int32) (σx' σm' : St), f_X11_rower σx b1 b2 b3 b4 = some (r, σx') ∧ f_X12_rower σm b1 b2 b3 b4 = some (r, σm') ∧ Inv nc σx' σm'
def P_rowerTold (Inv : Nat → St → St → Prop) : Prop := ∀ (nc : Nat) (σx σm : St) (b1 : Int32) (b2 : Int32), Inv nc σx σm → ∃ (r : Int32), f_X11_rowerTold σx b1 b2 = some r ∧ f_X12_rowerTold σm b1 b2 = some r ∧ Inv nc σx σm
def P_sit (Inv : Nat → St → St → Prop) : Prop := ∀ (nc : Nat) (σx σm : St) (b1 : Int32) (b2 : Int32), Inv nc σx σm → ∃ (r : Int32) (σx' σm' : St), f_X11_sit σx b1 b2 = some (r, σx') ∧ f_X12_sit σm b1 b2 = some (r, σm') ∧ Inv nc σx' σm'
def P_rig (Inv : Nat → St → St → Prop) : Prop := ∀ (nc : Nat) (σx σm : St) (b1 : Int32) (b2 : Int32) (b3 : Int32), Inv nc σx σm → ∃ (r : Int32) (σx' σm' : St), f_X11_rig σx b1 b2 b3 = some (r, σx') ∧ f_X12_rig σm b1 b2 b3 = some (r, σm') ∧ Inv nc σx' σm'
def P_water (Inv : Nat → St → St → Prop) : Prop := ∀ (nc : Nat) (σx σm : St) (b1 : Int32) (b2 : Int32), Inv nc σx σm → ∃ (r : Int32) (σx' σm' : St), f_X11_water σx b1 b2 = some (r, σx') ∧ f_X12_water σm b1 b2 = some (r, σm') ∧ Inv nc σx' σm'
def P_stroke (Inv : Nat → St → St → Prop) : Prop := ∀ (nc : Nat) (σx σm : St) (b1 : Int32) (b2 : Int32) (b3 : Int32) (b4 : Int32), Inv nc σx σm → ∃ (r : Int32), f_X11_stroke b1 b2 b3 b4 = some r ∧ f_X12_stroke b1 b2 b3 b4 = some r ∧ Inv nc σx σm
def P_feed (Inv : Nat → St → St → Prop) : Prop := ∀ (nc : Nat) (σx σm : St) (b1 : Int32) (b2 : Int64), Inv nc σx σm → ∃ (r : Int32) (σx' σm' : St), f_X11_feed σx b1 b2 = some (r, σx') ∧ f_X12_feed σm b1 b2 = some (r, σm') ∧ Inv nc σx' σm'
def P_text (Inv : Nat → St → St → Prop) : Prop := ∀ (nc : Nat) (σx σm : St), Inv nc σx σm → ∃ (r : Int32) (σx' σm' : St) (nc' : Nat), f_X11_text nc σx = some (r, σx', nc') ∧ f_X12_text σm = some (r, σm') ∧ Inv nc' σx' σm'
def P_force (Inv : Nat → St → St → Prop) : Prop := ∀ (nc : Nat) (σx σm : St) (b1 : Int32), Inv nc σx σm → ∃ (r : Int32) (σx' σm' : St), f_X11_force σx b1 = some (r, σx') ∧ f_X12_force σm b1 = some (r, σm') ∧ Inv nc σx' σm'
def P_plan (Inv : Nat → St → St → Prop) : Prop := ∀ (nc : Nat) (σx σm : St), Inv nc σx σm → ∃ (r : Int32) (σx' σm' : St), f_X11_plan σx = some (r, σx') ∧ f_X12_plan σm = some (r, σm') ∧ Inv nc σx' σm'
def P_planned (Inv : Nat → St → St → Prop) : Prop := ∀ (nc : Nat) (σx σm : St) (b1 : Int32) (b2 : Int32), Inv nc σx σm → ∃ (r : Int32), f_X11_planned σx b1 b2 = some r ∧ f_X12_planned σm b1 b2 = some r ∧ Inv nc σx σm
def P_row (Inv : Nat → St → St → Prop) : Prop := ∀ (nc : Nat) (σx σm : St) (b1 : Int32) (b2 : Int32), Inv nc σx σm → ∃ (r : Int64) (σx' σm' : St), f_X11_row nc σx b1 b2 = some (r, σx') ∧ f_X12_row σm b1 b2 = some (r, σm') ∧ Inv nc σx' σm'
def P_left (Inv : Nat → St → St → Prop) : Prop := ∀ (nc : Nat) (σx σm : St) (b1 : Int32) (b2 : Int32), Inv nc σx σm → ∃ (r : Int32) (σx' σm' : St), f_X11_left nc σx b1 b2 = some (r, σx') ∧ f_X12_left σm b1 b2 = some (r, σm') ∧ Inv nc σx' σm'
def P_rown (Inv : Nat → St → St → Prop) : Prop := ∀ (nc : Nat) (σx σm : St) (b1 : Int32), Inv nc σx σm → ∃ (r : Int64) (σx' σm' : St), f_X11_rown nc σx b1 = some (r, σx') ∧ f_X12_rown σm b1 = some (r, σm') ∧ Inv nc σx' σm'
def P_more (Inv : Nat → St → St → Prop) : Prop := ∀ (nc : Nat) (σx σm : St) (b1 : Int32) (b2 : Int32), Inv nc σx σm → ∃ (r : Int64) (σx' σm' : St), f_X11_more nc σx b1 b2 = some (r, σx') ∧ f_X12_more σm b1 b2 = some (r, σm') ∧ Inv nc σx' σm'
def P_change (Inv : Nat → St → St → Prop) : Prop := ∀ (nc : Nat) (σx σm : St) (b1 : Int32) (b2 : Int32), Inv nc σx σm → ∃ (r : Int64) (σx' σm' : St), f_X11_change nc σx b1 b2 = some (r, σx') ∧ f_X12_change σm b1 b2 = some (r, σm') ∧ Inv nc σx' σm'
def P_order (Inv : Nat → St → St → Prop) : Prop := ∀ (nc : Nat) (σx σm : St) (b1 : Int32), Inv nc σx σm → ∃ (r : Int64) (σx' σm' : St), f_X11_order nc σx b1 = some (r, σx') ∧ f_X12_order σm b1 = some (r, σm') ∧ Inv nc σx' σm'
def P_spurts (Inv : Nat → St → St → Prop) : Prop := ∀ (nc : Nat) (σx σm : St) (b1 : Int32) (b2 : Int32) (b3 : Int32), Inv nc σx σm → ∃ (r : Int64) (σx' σm' : St), f_X11_spurts nc σx b1 b2 b3 = some (r, σx') ∧ f_X12_spurts σm b1 b2 b3 = some (r, σm') ∧ Inv nc σx' σm'
def P_piece (Inv : Nat → St → St → Prop) : Prop := ∀ (nc : Nat) (σx σm : St) (b1 : Int32) (b2 : Int32) (b3 : Int32) (b4 : Int32), Inv nc σx σm → ∃ (r : Int32) (σx' σm' : St), f_X11_piece σx b1 b2 b3 b4 = some (r, σx') ∧ f_X12_piece σm b1 b2 b3 b4 = some (r, σm') ∧ Inv nc σx' σm'
def P_worth (Inv : Nat → St → St → Prop) : Prop := ∀ (nc : Nat) (σx σm : St) (b1 : Int32) (b2 : Int32) (b3 : Int32) (b4 : Int32), Inv nc σx σm → ∃ (r : Int64) (σx' σm' : St), f_X11_worth σx b1 b2 b3 b4 = some (r, σx') ∧ f_X12_worth σm b1 b2 b3 b4 = some (r, σm') ∧ Inv nc σx' σm'
def P_go (Inv : Nat → St → St → Prop) : Prop := ∀ (nc : Nat) (σx σm : St) (b1 : Int32), Inv nc σx σm → ∃ (r : Int32) (σx' σm' : St), f_X11_go σx b1 = some (r, σx') ∧ f_X12_go σm b1 = some (r, σm') ∧ Inv nc σx' σm'
def P_race (Inv : Nat → St → St → Prop) : Prop := ∀ (nc : Nat) (σx σm : St) (b1 : Int32), Inv nc σx σm → ∃ (r : Int32) (σx' σm' : St), f_X11_race σx b1 = some (r, σx') ∧ f_X12_race σm b1 = some (r, σm') ∧ Inv nc σx' σm'
def P_lanes (Inv : Nat → St → St → Prop) : Prop := ∀ (nc : Nat) (σx σm : St) (b1 : Int32) (b2 : Int32) (b3 : Int32), Inv nc σx σm → ∃ (r : Int64), f_X11_lanes σx b1 b2 b3 = some r ∧ f_X12_lanes σm b1 b2 b3 = some r ∧ Inv nc σx σm
def P_fair (Inv : Nat → St → St → Prop) : Prop := ∀ (nc : Nat) (σx σm : St), Inv nc σx σm → ∃ (r : Int32), f_X11_fair σx = some r ∧ f_X12_fair σm = some r ∧ Inv nc σx σm
def P_image (Inv : Nat → St → St → Prop) : Prop := ∀ (nc : Nat) (σx σm : St), Inv nc σx σm → ∃ (r : Int32) (σx' σm' : St), f_X11_image σx = some (r, σx') ∧ f_X12_image σm = some (r, σm') ∧ Inv nc σx' σm'
def P_back (Inv : Nat → St → St → Prop) : Prop := ∀ (nc : Nat) (σx σm : St), Inv nc σx σm → ∃ (r : Int32) (σx' σm' : St), f_X11_back σx = some (r, σx') ∧ f_X12_back σm = some (r, σm') ∧ Inv nc σx' σm'
def P_count (Inv : Nat → St → St → Prop) : Prop := ∀ (nc : Nat) (σx σm : St) (b1 : Int32), Inv nc σx σm → ∃ (r : Int32), f_X11_count σx b1 = some r ∧ f_X12_count σm b1 = some r ∧ Inv nc σx σm
def P_sheet (Inv : Nat → St → St → Prop) : Prop := ∀ (nc : Nat) (σx σm : St) (b1 : Int32) (b2 : Int32) (b3 : Int32), Inv nc σx σm → ∃ (r : Int32) (σx' σm' : St), f_X11_sheet σx b1 b2 b3 = some (r, σx') ∧ f_X12_sheet σm b1 b2 b3 = some (r, σm') ∧ Inv nc σx' σm'
def P_cell (Inv : Nat → St → St → Prop) : Prop := ∀ (nc : Nat) (σx σm : St) (b1 : Int32) (b2 : Int32) (b3 : Int32), Inv nc σx σm → ∃ (r : Int32) (σx' σm' : St), f_X11_cell σx b1 b2 b3 = some (r, σx') ∧ f_X12_cell σm b1 b2 b3 = some (r, σm') ∧ Inv nc σx' σm'
def P_copy (Inv : Nat → St → St → Prop) : Prop := ∀ (nc : Nat) (σx σm : St) (b1 : Int32) (b2 : Int32) (b3 : Int32) (b4 : Int32) (b5 : Int32), Inv nc σx σm → ∃ (r : Int32) (σx' σm' : St), f_X11_copy σx b1 b2 b3 b4 b5 = some (r, σx') ∧ f_X12_copy σm b1 b2 b3 b4 b5 = some (r, σm') ∧ Inv nc σx' σm'
def P_pieces (Inv : Nat → St → St → Prop) : Prop := ∀ (nc : Nat) (σx σm : St) (b1 : Int32) (b2 : Int32) (b3 : Int32) (b4 : Int32), Inv nc σx σm → ∃ (r : Int32) (σx' σm' : St), f_X11_pieces σx b1 b2 b3 b4 = some (r, σx') ∧ f_X12_pieces σm b1 b2 b3 b4 = some (r, σm') ∧ Inv nc σx' σm'
def P_taken (Inv : Nat → St → St → Prop) : Prop := ∀ (nc : Nat) (σx σm : St) (b1 : Int32) (b2 : Int32) (b3 : Int32), Inv nc σx σm → ∃ (r : Int32), f_X11_taken σx b1 b2 b3 = some r ∧ f_X12_taken σm b1 b2 b3 = some r ∧ Inv nc σx σm
/-- what is left for the pure side: both programs answer alike, and the invariant stays -/
def PureOK (Inv : Nat → St → St → Prop) : Prop := Inv 68 sx0 sm1 ∧ P_rower Inv ∧ P_rowerTold Inv ∧ P_sit Inv ∧ P_rig Inv ∧ P_water Inv ∧ P_stroke Inv ∧ P_feed Inv ∧ P_text Inv ∧ P_force Inv ∧ P_plan Inv ∧ P_planned Inv ∧ P_row Inv ∧ P_left Inv ∧ P_rown Inv ∧ P_more Inv ∧ P_change Inv ∧ P_order Inv ∧ P_spurts Inv ∧ P_piece Inv ∧ P_worth Inv ∧ P_go Inv ∧ P_race Inv ∧ P_lanes Inv ∧ P_fair Inv ∧ P_image Inv ∧ P_back Inv ∧ P_count Inv ∧ P_sheet Inv ∧ P_cell Inv ∧ P_copy Inv ∧ P_pieces Inv ∧ P_taken Inv
set_option maxHeartbeats 4000000 in
set_option maxRecDepth 100000 in
theorem law_0 {p : Program} {l : Launch} {e : Env} {s : State} {m : MethodId} {below : List Frame} {meth : Method} {c : Code} {b L : Nat} {xs : Nat → Int32} {D : va_G} {C : Nat → ClassId} {KV : (Nat → Nat) × (Nat → Nat)} {nc : Nat} {ax am : Nat → Nat} {σx σm : St} {H : Heap} {locs : List Loc} {cells slots : Nat} {Q : State → Prop} {ls : Array Slot} {Inv : Nat → St → St → Prop} {x3 : Int32} (hp : P_rower Inv) (hI : Inv nc σx σm) (hc : Lc p s m meth c b L xs D C KV) (hw : Wst D C KV s nc ax am σx σm H locs) (h1 : vp_in (x3 + 1) L) (h2 : vp_in (x3 + 2) L) (h3 : vp_in (x3 + 3) L) (h4 : vp_in (x3 + 4) L) (h5 : vp_in (x3 + 5) L) (a1 a2 a3 a4 a5 : Int32) (e1 : xs (x3 + 1).toNatClampNeg = a1) (e2 : xs (x3 + 2).toNatClampNeg = a2) (e3 : xs (x3 + 3).toNatClampNeg = a3) (e4 : xs (x3 + 4).toNatClampNeg = a4) (e5 : xs (x3 + 5).toNatClampNeg = a5) (hl : lv_has ls 4 [(0, .ref b), (1, .ref (ax 0)), (2, .ref (am 0)), (3, .int x3)]) (hcap : cells + 2 ≤ 600000 ∧ slots + 162 ≤ 7302250) (hnext : ∀ (nc' : Nat) (ax' : Nat → Nat) (σx' σm' : St) (H1 : Heap) (locs1 : List Loc), Inv nc' σx' σm' → ax' 0 = ax 0 → Wst D C KV s nc' ax' am σx' σm' H1 locs1 → W p l e room_1 s m #[Value.ref b] below meth c H1 locs1 (cells + 2) (slots + 162) Q (F0 m 1300 ls [])) : W p l e room_1 s m #[Value.ref b] below meth c H locs cells slots Q (F0 m 176 ls []) := by
  obtain ⟨⟨hx, hb, hml, hown, hts⟩, hK, hX, hXs, hbl, hr, hlk⟩ := id hc
  have hbA : ¬ Ge s b := Nat.not_le.mpr hbl
  obtain ⟨r, σx', σm', f1, f2, f3⟩ := hp nc σx σm a1 a2 a3 a4 hI
  refine lv_aload_n hx hb dL_law_176 rfl (lv_at hl 1 rfl) ?_
  refine lv_aload_n hx hb dL_law_177 rfl (lv_at hl 0 rfl) ?_
  refine lv_iload_n hx hb dL_law_178 rfl (lv_at hl 3 rfl) ?_
  refine lv_iconst (v := 1) hx hb dL_law_179 (by decide) ?_
  refine lv_iadd hx hb dL_law_180 ?_
  refine va_sld hx hb hXs hbl hbA hw.2.2.2 h1 dL_law_181 ?_
  rw [e1]
  refine lv_aload_n hx hb dL_law_182 rfl (lv_at hl 0 rfl) ?_
  refine lv_iload_n hx hb dL_law_183 rfl (lv_at hl 3 rfl) ?_
  refine lv_iconst (v := 2) hx hb dL_law_184 (by decide) ?_
  refine lv_iadd hx hb dL_law_185 ?_
  refine va_sld hx hb hXs hbl hbA hw.2.2.2 h2 dL_law_186 ?_
  rw [e2]
  refine lv_aload_n hx hb dL_law_187 rfl (lv_at hl 0 rfl) ?_
  refine lv_iload_n hx hb dL_law_188 rfl (lv_at hl 3 rfl) ?_
  refine lv_iconst (v := 3) hx hb dL_law_189 (by decide) ?_
  refine lv_iadd hx hb dL_law_190 ?_
  refine va_sld hx hb hXs hbl hbA hw.2.2.2 h3 dL_law_191 ?_
  rw [e3]
  refine lv_aload_n hx hb dL_law_192 rfl (lv_at hl 0 rfl) ?_
  refine lv_iload_n hx hb dL_law_193 rfl (lv_at hl 3 rfl) ?_
  refine lv_iconst (v := 4) hx hb dL_law_194 (by decide) ?_
  refine lv_iadd hx hb dL_law_195 ?_
  refine va_sld hx hb hXs hbl hbA hw.2.2.2 h4 dL_law_196 ?_
  rw [e4]
  refine l_XI (st := []) (lv := [(0, .ref b), (1, .ref (ax 0)), (2, .ref (am 0)), (3, .int x3)]) hc hw [.int a1, .int a2, .int a3, .int a4] (c_X11_rower (l := l) (w := wX D C KV nc ax) ⟨rfl, rfl, hw.1⟩ σx a1 a2 a3 a4 _ f1) yk_X11_rower rfl lm_L_13 rfl ⟨rfl, rfl⟩ rfl hl ⟨by omega, by omega⟩ dL_law_197 (fun H locs hw => ?_)
  refine lv_aload_n hx hb dL_law_200 rfl (lv_at hl 2 rfl) ?_
  refine lv_aload_n hx hb dL_law_201 rfl (lv_at hl 0 rfl) ?_
  refine lv_iload_n hx hb dL_law_202 rfl (lv_at hl 3 rfl) ?_
  refine lv_iconst (v := 1) hx hb dL_law_203 (by decide) ?_
  refine lv_iadd hx hb dL_law_204 ?_
  refine va_sld hx hb hXs hbl hbA hw.2.2.2 h1 dL_law_205 ?_
  rw [e1]
  refine lv_aload_n hx hb dL_law_206 rfl (lv_at hl 0 rfl) ?_
  refine lv_iload_n hx hb dL_law_207 rfl (lv_at hl 3 rfl) ?_
  refine lv_iconst (v := 2) hx hb dL_law_208 (by decide) ?_
  refine lv_iadd hx hb dL_law_209 ?_
  refine va_sld hx hb hXs hbl hbA hw.2.2.2 h2 dL_law_210 ?_
  rw [e2]
  refine lv_aload_n hx hb dL_law_211 rfl (lv_at hl 0 rfl) ?_
  refine lv_iload_n hx hb dL_law_212 rfl (lv_at hl 3 rfl) ?_
  refine lv_iconst (v := 3) hx hb dL_law_213 (by decide) ?_
  refine lv_iadd hx hb dL_law_214 ?_
  refine va_sld hx hb hXs hbl hbA hw.2.2.2 h3 dL_law_215 ?_
  rw [e3]
  refine lv_aload_n hx hb dL_law_216 rfl (lv_at hl 0 rfl) ?_
  refine lv_iload_n hx hb dL_law_217 rfl (lv_at hl 3 rfl) ?_
  refine lv_iconst (v := 4) hx hb dL_law_218 (by decide) ?_
  refine lv_iadd hx hb dL_law_219 ?_
  refine va_sld hx hb hXs hbl hbA hw.2.2.2 h4 dL_law_220 ?_
  rw [e4]
  refine l_MI (st := [.int r]) (lv := [(0, .ref b), (1, .ref (ax 0)), (2, .ref (am 0)), (3, .int x3)]) hc hw [.int a1, .int a2, .int a3, .int a4] (c_X12_rower (l := l) (w := wM D C KV am) ⟨rfl, rfl, Nat.le_refl 29⟩ σm a1 a2 a3 a4 _ f2) yk_X12_rower rfl lm_L_17 rfl ⟨rfl, rfl⟩ rfl hl ⟨by omega, by omega⟩ dL_law_221 (fun H locs hw => ?_)
  refine lv_icmp_eq (tgt := 1300) hx hb dL_law_224 (by decide) (fun c9 => ?_) (fun c9 => absurd rfl c9)
  refine W.widen (k := cells + 2) (n := slots + 162) (by omega) (by omega) ?_
  exact hnext nc ax σx' σm' H locs f3 rfl hw
set_option maxHeartbeats 4000000 in
set_option maxRecDepth 100000 in
theorem law_1 {p : Program} {l : Launch} {e : Env} {s : State} {m : MethodId} {below : List Frame} {meth : Method} {c : Code} {b L : Nat} {xs : Nat → Int32} {D : va_G} {C : Nat → ClassId} {KV : (Nat → Nat) × (Nat → Nat)} {nc : Nat} {ax am : Nat → Nat} {σx σm : St} {H : Heap} {locs : List Loc} {cells slots : Nat} {Q : State → Prop} {ls : Array Slot} {Inv : Nat → St → St → Prop} {x3 : Int32} (hp : P_rowerTold Inv) (hI : Inv nc σx σm) (hc : Lc p s m meth c b L xs D C KV) (hw : Wst D C KV s nc ax am σx σm H locs) (h1 : vp_in (x3 + 1) L) (h2 : vp_in (x3 + 2) L) (h3 : vp_in (x3 + 3) L) (h4 : vp_in (x3 + 4) L) (h5 : vp_in (x3 + 5) L) (a1 a2 a3 a4 a5 : Int32) (e1 : xs (x3 + 1).toNatClampNeg = a1) (e2 : xs (x3 + 2).toNatClampNeg = a2) (e3 : xs (x3 + 3).toNatClampNeg = a3) (e4 : xs (x3 + 4).toNatClampNeg = a4) (e5 : xs (x3 + 5).toNatClampNeg = a5) (hl : lv_has ls 4 [(0, .ref b), (1, .ref (ax 0)), (2, .ref (am 0)), (3, .int x3)]) (hcap : cells + 2 ≤ 600000 ∧ slots + 162 ≤ 7302250) (hnext : ∀ (nc' : Nat) (ax' : Nat → Nat) (σx' σm' : St) (H1 : Heap) (locs1 : List Loc), Inv nc' σx' σm' → ax' 0 = ax 0 → Wst D C KV s nc' ax' am σx' σm' H1 locs1 → W p l e room_1 s m #[Value.ref b] below meth c H1 locs1 (cells + 2) (slots + 162) Q (F0 m 1300 ls [])) : W p l e room_1 s m #[Value.ref b] below meth c H locs cells slots Q (F0 m 229 ls []) := by
  obtain ⟨⟨hx, hb, hml, hown, hts⟩, hK, hX, hXs, hbl, hr, hlk⟩ := id hc
  have hbA : ¬ Ge s b := Nat.not_le.mpr hbl
  obtain ⟨r, f1, f2, f3⟩ := hp nc σx σm a1 a2 hI
  refine lv_aload_n hx hb dL_law_229 rfl (lv_at hl 1 rfl) ?_
  refine lv_aload_n hx hb dL_law_230 rfl (lv_at hl 0 rfl) ?_
  refine lv_iload_n hx hb dL_law_231 rfl (lv_at hl 3 rfl) ?_
  refine lv_iconst (v := 1) hx hb dL_law_232 (by decide) ?_
  refine lv_iadd hx hb dL_law_233 ?_
  refine va_sld hx hb hXs hbl hbA hw.2.2.2 h1 dL_law_234 ?_
  rw [e1]
  refine lv_aload_n hx hb dL_law_235 rfl (lv_at hl 0 rfl) ?_
  refine lv_iload_n hx hb dL_law_236 rfl (lv_at hl 3 rfl) ?_
  refine lv_iconst (v := 2) hx hb dL_law_237 (by decide) ?_
  refine lv_iadd hx hb dL_law_238 ?_
  refine va_sld hx hb hXs hbl hbA hw.2.2.2 h2 dL_law_239 ?_
  rw [e2]
  refine l_XI (st := []) (lv := [(0, .ref b), (1, .ref (ax 0)), (2, .ref (am 0)), (3, .int x3)]) hc hw [.int a1, .int a2] (c_X11_rowerTold (l := l) (w := wX D C KV nc ax) ⟨rfl, rfl, hw.1⟩ σx a1 a2 _ f1) yk_X11_rowerTold rfl lm_L_18 rfl ⟨rfl, rfl⟩ rfl hl ⟨by omega, by omega⟩ dL_law_240 (fun H locs hw => ?_)
  refine lv_aload_n hx hb dL_law_243 rfl (lv_at hl 2 rfl) ?_
  refine lv_aload_n hx hb dL_law_244 rfl (lv_at hl 0 rfl) ?_
  refine lv_iload_n hx hb dL_law_245 rfl (lv_at hl 3 rfl) ?_
  refine lv_iconst (v := 1) hx hb dL_law_246 (by decide) ?_
  refine lv_iadd hx hb dL_law_247 ?_
  refine va_sld hx hb hXs hbl hbA hw.2.2.2 h1 dL_law_248 ?_
  rw [e1]
  refine lv_aload_n hx hb dL_law_249 rfl (lv_at hl 0 rfl) ?_
  refine lv_iload_n hx hb dL_law_250 rfl (lv_at hl 3 rfl) ?_
  refine lv_iconst (v := 2) hx hb dL_law_251 (by decide) ?_
  refine lv_iadd hx hb dL_law_252 ?_
  refine va_sld hx hb hXs hbl hbA hw.2.2.2 h2 dL_law_253 ?_
  rw [e2]
  refine l_MI (st := [.int r]) (lv := [(0, .ref b), (1, .ref (ax 0)), (2, .ref (am 0)), (3, .int x3)]) hc hw [.int a1, .int a2] (c_X12_rowerTold (l := l) (w := wM D C KV am) ⟨rfl, rfl, Nat.le_refl 29⟩ σm a1 a2 _ f2) yk_X12_rowerTold rfl lm_L_22 rfl ⟨rfl, rfl⟩ rfl hl ⟨by omega, by omega⟩ dL_law_254 (fun H locs hw => ?_)
  refine lv_icmp_eq (tgt := 1300) hx hb dL_law_257 (by decide) (fun c9 => ?_) (fun c9 => absurd rfl c9)
  refine W.widen (k := cells + 2) (n := slots + 162) (by omega) (by omega) ?_
  exact hnext nc ax σx σm H locs f3 rfl hw
set_option maxHeartbeats 4000000 in
set_option maxRecDepth 100000 in
theorem law_2 {p : Program} {l : Launch} {e : Env} {s : State} {m : MethodId} {below : List Frame} {meth : Method} {c : Code} {b L : Nat} {xs : Nat → Int32} {D : va_G} {C : Nat → ClassId} {KV : (Nat → Nat) × (Nat → Nat)} {nc : Nat} {ax am : Nat → Nat} {σx σm : St} {H : Heap} {locs : List Loc} {cells slots : Nat} {Q : State → Prop} {ls : Array Slot} {Inv : Nat → St → St → Prop} {x3 : Int32} (hp : P_sit Inv) (hI : Inv nc σx σm) (hc : Lc p s m meth c b L xs D C KV) (hw : Wst D C KV s nc ax am σx σm H locs) (h1 : vp_in (x3 + 1) L) (h2 : vp_in (x3 + 2) L) (h3 : vp_in (x3 + 3) L) (h4 : vp_in (x3 + 4) L) (h5 : vp_in (x3 + 5) L) (a1 a2 a3 a4 a5 : Int32) (e1 : xs (x3 + 1).toNatClampNeg = a1) (e2 : xs (x3 + 2).toNatClampNeg = a2) (e3 : xs (x3 + 3).toNatClampNeg = a3) (e4 : xs (x3 + 4).toNatClampNeg = a4) (e5 : xs (x3 + 5).toNatClampNeg = a5) (hl : lv_has ls 4 [(0, .ref b), (1, .ref (ax 0)), (2, .ref (am 0)), (3, .int x3)]) (hcap : cells + 2 ≤ 600000 ∧ slots + 162 ≤ 7302250) (hnext : ∀ (nc' : Nat) (ax' : Nat → Nat) (σx' σm' : St) (H1 : Heap) (locs1 : List Loc), Inv nc' σx' σm' → ax' 0 = ax 0 → Wst D C KV s nc' ax' am σx' σm' H1 locs1 → W p l e room_1 s m #[Value.ref b] below meth c H1 locs1 (cells + 2) (slots + 162) Q (F0 m 1300 ls [])) : W p l e room_1 s m #[Value.ref b] below meth c H locs cells slots Q (F0 m 262 ls []) := by
  obtain ⟨⟨hx, hb, hml, hown, hts⟩, hK, hX, hXs, hbl, hr, hlk⟩ := id hc
  have hbA : ¬ Ge s b := Nat.not_le.mpr hbl
  obtain ⟨r, σx', σm', f1, f2, f3⟩ := hp nc σx σm a1 a2 hI
  refine lv_aload_n hx hb dL_law_262 rfl (lv_at hl 1 rfl) ?_
  refine lv_aload_n hx hb dL_law_263 rfl (lv_at hl 0 rfl) ?_
  refine lv_iload_n hx hb dL_law_264 rfl (lv_at hl 3 rfl) ?_
  refine lv_iconst (v := 1) hx hb dL_law_265 (by decide) ?_
  refine lv_iadd hx hb dL_law_266 ?_
  refine va_sld hx hb hXs hbl hbA hw.2.2.2 h1 dL_law_267 ?_
  rw [e1]
  refine lv_aload_n hx hb dL_law_268 rfl (lv_at hl 0 rfl) ?_
  refine lv_iload_n hx hb dL_law_269 rfl (lv_at hl 3 rfl) ?_
  refine lv_iconst (v := 2) hx hb dL_law_270 (by decide) ?_
  refine lv_iadd hx hb dL_law_271 ?_
  refine va_sld hx hb hXs hbl hbA hw.2.2.2 h2 dL_law_272 ?_
  rw [e2]
  refine l_XI (st := []) (lv := [(0, .ref b), (1, .ref (ax 0)), (2, .ref (am 0)), (3, .int x3)]) hc hw [.int a1, .int a2] (c_X11_sit (l := l) (w := wX D C KV nc ax) ⟨rfl, rfl, hw.1⟩ σx a1 a2 _ f1) yk_X11_sit rfl lm_L_23 rfl ⟨rfl, rfl⟩ rfl hl ⟨by omega, by omega⟩ dL_law_273 (fun H locs hw => ?_)
  refine lv_aload_n hx hb dL_law_276 rfl (lv_at hl 2 rfl) ?_
  refine lv_aload_n hx hb dL_law_277 rfl (lv_at hl 0 rfl) ?_
  refine lv_iload_n hx hb dL_law_278 rfl (lv_at hl 3 rfl) ?_
  refine lv_iconst (v := 1) hx hb dL_law_279 (by decide) ?_
  refine lv_iadd hx hb dL_law_280 ?_
  refine va_sld hx hb hXs hbl hbA hw.2.2.2 h1 dL_law_281 ?_
  rw [e1]
  refine lv_aload_n hx hb dL_law_282 rfl (lv_at hl 0 rfl) ?_
  refine lv_iload_n hx hb dL_law_283 rfl (lv_at hl 3 rfl) ?_
  refine lv_iconst (v := 2) hx hb dL_law_284 (by decide) ?_
  refine lv_iadd hx hb dL_law_285 ?_
  refine va_sld hx hb hXs hbl hbA hw.2.2.2 h2 dL_law_286 ?_
  rw [e2]
  refine l_MI (st := [.int r]) (lv := [(0, .ref b), (1, .ref (ax 0)), (2, .ref (am 0)), (3, .int x3)]) hc hw [.int a1, .int a2] (c_X12_sit (l := l) (w := wM D C KV am) ⟨rfl, rfl, Nat.le_refl 29⟩ σm a1 a2 _ f2) yk_X12_sit rfl lm_L_26 rfl ⟨rfl, rfl⟩ rfl hl ⟨by omega, by omega⟩ dL_law_287 (fun H locs hw => ?_)
  refine lv_icmp_eq (tgt := 1300) hx hb dL_law_290 (by decide) (fun c9 => ?_) (fun c9 => absurd rfl c9)
  refine W.widen (k := cells + 2) (n := slots + 162) (by omega) (by omega) ?_
  exact hnext nc ax σx' σm' H locs f3 rfl hw
set_option maxHeartbeats 4000000 in
set_option maxRecDepth 100000 in
theorem law_3 {p : Program} {l : Launch} {e : Env} {s : State} {m : MethodId} {below : List Frame} {meth : Method} {c : Code} {b L : Nat} {xs : Nat → Int32} {D : va_G} {C : Nat → ClassId} {KV : (Nat → Nat) × (Nat → Nat)} {nc : Nat} {ax am : Nat → Nat} {σx σm : St} {H : Heap} {locs : List Loc} {cells slots : Nat} {Q : State → Prop} {ls : Array Slot} {Inv : Nat → St → St → Prop} {x3 : Int32} (hp : P_rig Inv) (hI : Inv nc σx σm) (hc : Lc p s m meth c b L xs D C KV) (hw : Wst D C KV s nc ax am σx σm H locs) (h1 : vp_in (x3 + 1) L) (h2 : vp_in (x3 + 2) L) (h3 : vp_in (x3 + 3) L) (h4 : vp_in (x3 + 4) L) (h5 : vp_in (x3 + 5) L) (a1 a2 a3 a4 a5 : Int32) (e1 : xs (x3 + 1).toNatClampNeg = a1) (e2 : xs (x3 + 2).toNatClampNeg = a2) (e3 : xs (x3 + 3).toNatClampNeg = a3) (e4 : xs (x3 + 4).toNatClampNeg = a4) (e5 : xs (x3 + 5).toNatClampNeg = a5) (hl : lv_has ls 4 [(0, .ref b), (1, .ref (ax 0)), (2, .ref (am 0)), (3, .int x3)]) (hcap : cells + 2 ≤ 600000 ∧ slots + 162 ≤ 7302250) (hnext : ∀ (nc' : Nat) (ax' : Nat → Nat) (σx' σm' : St) (H1 : Heap) (locs1 : List Loc), Inv nc' σx' σm' → ax' 0 = ax 0 → Wst D C KV s nc' ax' am σx' σm' H1 locs1 → W p l e room_1 s m #[Value.ref b] below meth c H1 locs1 (cells + 2) (slots + 162) Q (F0 m 1300 ls [])) : W p l e room_1 s m #[Value.ref b] below meth c H locs cells slots Q (F0 m 295 ls []) := by
  obtain ⟨⟨hx, hb, hml, hown, hts⟩, hK, hX, hXs, hbl, hr, hlk⟩ := id hc
  have hbA : ¬ Ge s b := Nat.not_le.mpr hbl
  obtain ⟨r, σx', σm', f1, f2, f3⟩ := hp nc σx σm a1 a2 a3 hI
  refine lv_aload_n hx hb dL_law_295 rfl (lv_at hl 1 rfl) ?_
  refine lv_aload_n hx hb dL_law_296 rfl (lv_at hl 0 rfl) ?_
  refine lv_iload_n hx hb dL_law_297 rfl (lv_at hl 3 rfl) ?_
  refine lv_iconst (v := 1) hx hb dL_law_298 (by decide) ?_
  refine lv_iadd hx hb dL_law_299 ?_
  refine va_sld hx hb hXs hbl hbA hw.2.2.2 h1 dL_law_300 ?_
  rw [e1]
  refine lv_aload_n hx hb dL_law_301 rfl (lv_at hl 0 rfl) ?_
  refine lv_iload_n hx hb dL_law_302 rfl (lv_at hl 3 rfl) ?_
  refine lv_iconst (v := 2) hx hb dL_law_303 (by decide) ?_
  refine lv_iadd hx hb dL_law_304 ?_
  refine va_sld hx hb hXs hbl hbA hw.2.2.2 h2 dL_law_305 ?_
  rw [e2]
  refine lv_aload_n hx hb dL_law_306 rfl (lv_at hl 0 rfl) ?_
  refine lv_iload_n hx hb dL_law_307 rfl (lv_at hl 3 rfl) ?_
  refine lv_iconst (v := 3) hx hb dL_law_308 (by decide) ?_
  refine lv_iadd hx hb dL_law_309 ?_
  refine va_sld hx hb hXs hbl hbA hw.2.2.2 h3 dL_law_310 ?_
  rw [e3]
  refine l_XI (st := []) (lv := [(0, .ref b), (1, .ref (ax 0)), (2, .ref (am 0)), (3, .int x3)]) hc hw [.int a1, .int a2, .int a3] (c_X11_rig (l := l) (w := wX D C KV nc ax) ⟨rfl, rfl, hw.1⟩ σx a1 a2 a3 _ f1) yk_X11_rig rfl lm_L_27 rfl ⟨rfl, rfl⟩ rfl hl ⟨by omega, by omega⟩ dL_law_311 (fun H locs hw => ?_)
  refine lv_aload_n hx hb dL_law_314 rfl (lv_at hl 2 rfl) ?_
  refine lv_aload_n hx hb dL_law_315 rfl (lv_at hl 0 rfl) ?_
  refine lv_iload_n hx hb dL_law_316 rfl (lv_at hl 3 rfl) ?_
  refine lv_iconst (v := 1) hx hb dL_law_317 (by decide) ?_
  refine lv_iadd hx hb dL_law_318 ?_
  refine va_sld hx hb hXs hbl hbA hw.2.2.2 h1 dL_law_319 ?_
  rw [e1]
  refine lv_aload_n hx hb dL_law_320 rfl (lv_at hl 0 rfl) ?_
  refine lv_iload_n hx hb dL_law_321 rfl (lv_at hl 3 rfl) ?_
  refine lv_iconst (v := 2) hx hb dL_law_322 (by decide) ?_
  refine lv_iadd hx hb dL_law_323 ?_
  refine va_sld hx hb hXs hbl hbA hw.2.2.2 h2 dL_law_324 ?_
  rw [e2]
  refine lv_aload_n hx hb dL_law_325 rfl (lv_at hl 0 rfl) ?_
  refine lv_iload_n hx hb dL_law_326 rfl (lv_at hl 3 rfl) ?_
  refine lv_iconst (v := 3) hx hb dL_law_327 (by decide) ?_
  refine lv_iadd hx hb dL_law_328 ?_
  refine va_sld hx hb hXs hbl hbA hw.2.2.2 h3 dL_law_329 ?_
  rw [e3]
  refine l_MI (st := [.int r]) (lv := [(0, .ref b), (1, .ref (ax 0)), (2, .ref (am 0)), (3, .int x3)]) hc hw [.int a1, .int a2, .int a3] (c_X12_rig (l := l) (w := wM D C KV am) ⟨rfl, rfl, Nat.le_refl 29⟩ σm a1 a2 a3 _ f2) yk_X12_rig rfl lm_L_31 rfl ⟨rfl, rfl⟩ rfl hl ⟨by omega, by omega⟩ dL_law_330 (fun H locs hw => ?_)
  refine lv_icmp_eq (tgt := 1300) hx hb dL_law_333 (by decide) (fun c9 => ?_) (fun c9 => absurd rfl c9)
  refine W.widen (k := cells + 2) (n := slots + 162) (by omega) (by omega) ?_
  exact hnext nc ax σx' σm' H locs f3 rfl hw
set_option maxHeartbeats 4000000 in
set_option maxRecDepth 100000 in
theorem law_4 {p : Program} {l : Launch} {e : Env} {s : State} {m : MethodId} {below : List Frame} {meth : Method} {c : Code} {b L : Nat} {xs : Nat → Int32} {D : va_G} {C : Nat → ClassId} {KV : (Nat → Nat) × (Nat → Nat)} {nc : Nat} {ax am : Nat → Nat} {σx σm : St} {H : Heap} {locs : List Loc} {cells slots : Nat} {Q : State → Prop} {ls : Array Slot} {Inv : Nat → St → St → Prop} {x3 : Int32} (hp : P_water Inv) (hI : Inv nc σx σm) (hc : Lc p s m meth c b L xs D C KV) (hw : Wst D C KV s nc ax am σx σm H locs) (h1 : vp_in (x3 + 1) L) (h2 : vp_in (x3 + 2) L) (h3 : vp_in (x3 + 3) L) (h4 : vp_in (x3 + 4) L) (h5 : vp_in (x3 + 5) L) (a1 a2 a3 a4 a5 : Int32) (e1 : xs (x3 + 1).toNatClampNeg = a1) (e2 : xs (x3 + 2).toNatClampNeg = a2) (e3 : xs (x3 + 3).toNatClampNeg = a3) (e4 : xs (x3 + 4).toNatClampNeg = a4) (e5 : xs (x3 + 5).toNatClampNeg = a5) (hl : lv_has ls 4 [(0, .ref b), (1, .ref (ax 0)), (2, .ref (am 0)), (3, .int x3)]) (hcap : cells + 2 ≤ 600000 ∧ slots + 162 ≤ 7302250) (hnext : ∀ (nc' : Nat) (ax' : Nat → Nat) (σx' σm' : St) (H1 : Heap) (locs1 : List Loc), Inv nc' σx' σm' → ax' 0 = ax 0 → Wst D C KV s nc' ax' am σx' σm' H1 locs1 → W p l e room_1 s m #[Value.ref b] below meth c H1 locs1 (cells + 2) (slots + 162) Q (F0 m 1300 ls [])) : W p l e room_1 s m #[Value.ref b] below meth c H locs cells slots Q (F0 m 338 ls []) := by
  obtain ⟨⟨hx, hb, hml, hown, hts⟩, hK, hX, hXs, hbl, hr, hlk⟩ := id hc
  have hbA : ¬ Ge s b := Nat.not_le.mpr hbl
  obtain ⟨r, σx', σm', f1, f2, f3⟩ := hp nc σx σm a1 a2 hI
  refine lv_aload_n hx hb dL_law_338 rfl (lv_at hl 1 rfl) ?_
  refine lv_aload_n hx hb dL_law_339 rfl (lv_at hl 0 rfl) ?_
  refine lv_iload_n hx hb dL_law_340 rfl (lv_at hl 3 rfl) ?_
  refine lv_iconst (v := 1) hx hb dL_law_341 (by decide) ?_
  refine lv_iadd hx hb dL_law_342 ?_
  refine va_sld hx hb hXs hbl hbA hw.2.2.2 h1 dL_law_343 ?_
  rw [e1]
  refine lv_aload_n hx hb dL_law_344 rfl (lv_at hl 0 rfl) ?_
  refine lv_iload_n hx hb dL_law_345 rfl (lv_at hl 3 rfl) ?_
  refine lv_iconst (v := 2) hx hb dL_law_346 (by decide) ?_
  refine lv_iadd hx hb dL_law_347 ?_
  refine va_sld hx hb hXs hbl hbA hw.2.2.2 h2 dL_law_348 ?_
  rw [e2]
  refine l_XI (st := []) (lv := [(0, .ref b), (1, .ref (ax 0)), (2, .ref (am 0)), (3, .int x3)]) hc hw [.int a1, .int a2] (c_X11_water (l := l) (w := wX D C KV nc ax) ⟨rfl, rfl, hw.1⟩ σx a1 a2 _ f1) yk_X11_water rfl lm_L_32 rfl ⟨rfl, rfl⟩ rfl hl ⟨by omega, by omega⟩ dL_law_349 (fun H locs hw => ?_)
  refine lv_aload_n hx hb dL_law_352 rfl (lv_at hl 2 rfl) ?_
  refine lv_aload_n hx hb dL_law_353 rfl (lv_at hl 0 rfl) ?_
  refine lv_iload_n hx hb dL_law_354 rfl (lv_at hl 3 rfl) ?_
  refine lv_iconst (v := 1) hx hb dL_law_355 (by decide) ?_
  refine lv_iadd hx hb dL_law_356 ?_
  refine va_sld hx hb hXs hbl hbA hw.2.2.2 h1 dL_law_357 ?_
  rw [e1]
  refine lv_aload_n hx hb dL_law_358 rfl (lv_at hl 0 rfl) ?_
  refine lv_iload_n hx hb dL_law_359 rfl (lv_at hl 3 rfl) ?_
  refine lv_iconst (v := 2) hx hb dL_law_360 (by decide) ?_
  refine lv_iadd hx hb dL_law_361 ?_
  refine va_sld hx hb hXs hbl hbA hw.2.2.2 h2 dL_law_362 ?_
  rw [e2]
  refine l_MI (st := [.int r]) (lv := [(0, .ref b), (1, .ref (ax 0)), (2, .ref (am 0)), (3, .int x3)]) hc hw [.int a1, .int a2] (c_X12_water (l := l) (w := wM D C KV am) ⟨rfl, rfl, Nat.le_refl 29⟩ σm a1 a2 _ f2) yk_X12_water rfl lm_L_35 rfl ⟨rfl, rfl⟩ rfl hl ⟨by omega, by omega⟩ dL_law_363 (fun H locs hw => ?_)
  refine lv_icmp_eq (tgt := 1300) hx hb dL_law_366 (by decide) (fun c9 => ?_) (fun c9 => absurd rfl c9)
  refine W.widen (k := cells + 2) (n := slots + 162) (by omega) (by omega) ?_
  exact hnext nc ax σx' σm' H locs f3 rfl hw
set_option maxHeartbeats 4000000 in
set_option maxRecDepth 100000 in
theorem law_5 {p : Program} {l : Launch} {e : Env} {s : State} {m : MethodId} {below : List Frame} {meth : Method} {c : Code} {b L : Nat} {xs : Nat → Int32} {D : va_G} {C : Nat → ClassId} {KV : (Nat → Nat) × (Nat → Nat)} {nc : Nat} {ax am : Nat → Nat} {σx σm : St} {H : Heap} {locs : List Loc} {cells slots : Nat} {Q : State → Prop} {ls : Array Slot} {Inv : Nat → St → St → Prop} {x3 : Int32} (hp : P_stroke Inv) (hI : Inv nc σx σm) (hc : Lc p s m meth c b L xs D C KV) (hw : Wst D C KV s nc ax am σx σm H locs) (h1 : vp_in (x3 + 1) L) (h2 : vp_in (x3 + 2) L) (h3 : vp_in (x3 + 3) L) (h4 : vp_in (x3 + 4) L) (h5 : vp_in (x3 + 5) L) (a1 a2 a3 a4 a5 : Int32) (e1 : xs (x3 + 1).toNatClampNeg = a1) (e2 : xs (x3 + 2).toNatClampNeg = a2) (e3 : xs (x3 + 3).toNatClampNeg = a3) (e4 : xs (x3 + 4).toNatClampNeg = a4) (e5 : xs (x3 + 5).toNatClampNeg = a5) (hl : lv_has ls 4 [(0, .ref b), (1, .ref (ax 0)), (2, .ref (am 0)), (3, .int x3)]) (hcap : cells + 2 ≤ 600000 ∧ slots + 162 ≤ 7302250) (hnext : ∀ (nc' : Nat) (ax' : Nat → Nat) (σx' σm' : St) (H1 : Heap) (locs1 : List Loc), Inv nc' σx' σm' → ax' 0 = ax 0 → Wst D C KV s nc' ax' am σx' σm' H1 locs1 → W p l e room_1 s m #[Value.ref b] below meth c H1 locs1 (cells + 2) (slots + 162) Q (F0 m 1300 ls [])) : W p l e room_1 s m #[Value.ref b] below meth c H locs cells slots Q (F0 m 371 ls []) := by
  obtain ⟨⟨hx, hb, hml, hown, hts⟩, hK, hX, hXs, hbl, hr, hlk⟩ := id hc
  have hbA : ¬ Ge s b := Nat.not_le.mpr hbl
  obtain ⟨r, f1, f2, f3⟩ := hp nc σx σm a1 a2 a3 a4 hI
  refine lv_aload_n hx hb dL_law_371 rfl (lv_at hl 1 rfl) ?_
  refine lv_aload_n hx hb dL_law_372 rfl (lv_at hl 0 rfl) ?_
  refine lv_iload_n hx hb dL_law_373 rfl (lv_at hl 3 rfl) ?_
  refine lv_iconst (v := 1) hx hb dL_law_374 (by decide) ?_
  refine lv_iadd hx hb dL_law_375 ?_
  refine va_sld hx hb hXs hbl hbA hw.2.2.2 h1 dL_law_376 ?_
  rw [e1]
  refine lv_aload_n hx hb dL_law_377 rfl (lv_at hl 0 rfl) ?_
  refine lv_iload_n hx hb dL_law_378 rfl (lv_at hl 3 rfl) ?_
  refine lv_iconst (v := 2) hx hb dL_law_379 (by decide) ?_
  refine lv_iadd hx hb dL_law_380 ?_
  refine va_sld hx hb hXs hbl hbA hw.2.2.2 h2 dL_law_381 ?_
  rw [e2]
  refine lv_aload_n hx hb dL_law_382 rfl (lv_at hl 0 rfl) ?_
  refine lv_iload_n hx hb dL_law_383 rfl (lv_at hl 3 rfl) ?_
  refine lv_iconst (v := 3) hx hb dL_law_384 (by decide) ?_
  refine lv_iadd hx hb dL_law_385 ?_
  refine va_sld hx hb hXs hbl hbA hw.2.2.2 h3 dL_law_386 ?_
  rw [e3]
  refine lv_aload_n hx hb dL_law_387 rfl (lv_at hl 0 rfl) ?_
  refine lv_iload_n hx hb dL_law_388 rfl (lv_at hl 3 rfl) ?_
  refine lv_iconst (v := 4) hx hb dL_law_389 (by decide) ?_
  refine lv_iadd hx hb dL_law_390 ?_
  refine va_sld hx hb hXs hbl hbA hw.2.2.2 h4 dL_law_391 ?_
  rw [e4]
  refine l_XI (st := []) (lv := [(0, .ref b), (1, .ref (ax 0)), (2, .ref (am 0)), (3, .int x3)]) hc hw [.int a1, .int a2, .int a3, .int a4] (c_X11_stroke (l := l) (w := wX D C KV nc ax) ⟨rfl, rfl, hw.1⟩ σx a1 a2 a3 a4 _ f1) yk_X11_stroke rfl lm_L_36 rfl ⟨rfl, rfl⟩ rfl hl ⟨by omega, by omega⟩ dL_law_392 (fun H locs hw => ?_)
  refine lv_aload_n hx hb dL_law_395 rfl (lv_at hl 2 rfl) ?_
  refine lv_aload_n hx hb dL_law_396 rfl (lv_at hl 0 rfl) ?_
  refine lv_iload_n hx hb dL_law_397 rfl (lv_at hl 3 rfl) ?_
  refine lv_iconst (v := 1) hx hb dL_law_398 (by decide) ?_
  refine lv_iadd hx hb dL_law_399 ?_
  refine va_sld hx hb hXs hbl hbA hw.2.2.2 h1 dL_law_400 ?_
  rw [e1]
  refine lv_aload_n hx hb dL_law_401 rfl (lv_at hl 0 rfl) ?_
  refine lv_iload_n hx hb dL_law_402 rfl (lv_at hl 3 rfl) ?_
  refine lv_iconst (v := 2) hx hb dL_law_403 (by decide) ?_
  refine lv_iadd hx hb dL_law_404 ?_
  refine va_sld hx hb hXs hbl hbA hw.2.2.2 h2 dL_law_405 ?_
  rw [e2]
  refine lv_aload_n hx hb dL_law_406 rfl (lv_at hl 0 rfl) ?_
  refine lv_iload_n hx hb dL_law_407 rfl (lv_at hl 3 rfl) ?_
  refine lv_iconst (v := 3) hx hb dL_law_408 (by decide) ?_
  refine lv_iadd hx hb dL_law_409 ?_
  refine va_sld hx hb hXs hbl hbA hw.2.2.2 h3 dL_law_410 ?_
  rw [e3]
  refine lv_aload_n hx hb dL_law_411 rfl (lv_at hl 0 rfl) ?_
  refine lv_iload_n hx hb dL_law_412 rfl (lv_at hl 3 rfl) ?_
  refine lv_iconst (v := 4) hx hb dL_law_413 (by decide) ?_
  refine lv_iadd hx hb dL_law_414 ?_
  refine va_sld hx hb hXs hbl hbA hw.2.2.2 h4 dL_law_415 ?_
  rw [e4]
  refine l_MI (st := [.int r]) (lv := [(0, .ref b), (1, .ref (ax 0)), (2, .ref (am 0)), (3, .int x3)]) hc hw [.int a1, .int a2, .int a3, .int a4] (c_X12_stroke (l := l) (w := wM D C KV am) ⟨rfl, rfl, Nat.le_refl 29⟩ σm a1 a2 a3 a4 _ f2) yk_X12_stroke rfl lm_L_39 rfl ⟨rfl, rfl⟩ rfl hl ⟨by omega, by omega⟩ dL_law_416 (fun H locs hw => ?_)
  refine lv_icmp_eq (tgt := 1300) hx hb dL_law_419 (by decide) (fun c9 => ?_) (fun c9 => absurd rfl c9)
  refine W.widen (k := cells + 2) (n := slots + 162) (by omega) (by omega) ?_
  exact hnext nc ax σx σm H locs f3 rfl hw
set_option maxHeartbeats 4000000 in
set_option maxRecDepth 100000 in
theorem law_6 {p : Program} {l : Launch} {e : Env} {s : State} {m : MethodId} {below : List Frame} {meth : Method} {c : Code} {b L : Nat} {xs : Nat → Int32} {D : va_G} {C : Nat → ClassId} {KV : (Nat → Nat) × (Nat → Nat)} {nc : Nat} {ax am : Nat → Nat} {σx σm : St} {H : Heap} {locs : List Loc} {cells slots : Nat} {Q : State → Prop} {ls : Array Slot} {Inv : Nat → St → St → Prop} {x3 : Int32} (hp : P_feed Inv) (hI : Inv nc σx σm) (hc : Lc p s m meth c b L xs D C KV) (hw : Wst D C KV s nc ax am σx σm H locs) (h1 : vp_in (x3 + 1) L) (h2 : vp_in (x3 + 2) L) (h3 : vp_in (x3 + 3) L) (h4 : vp_in (x3 + 4) L) (h5 : vp_in (x3 + 5) L) (a1 a2 a3 a4 a5 : Int32) (e1 : xs (x3 + 1).toNatClampNeg = a1) (e2 : xs (x3 + 2).toNatClampNeg = a2) (e3 : xs (x3 + 3).toNatClampNeg = a3) (e4 : xs (x3 + 4).toNatClampNeg = a4) (e5 : xs (x3 + 5).toNatClampNeg = a5) (hl : lv_has ls 4 [(0, .ref b), (1, .ref (ax 0)), (2, .ref (am 0)), (3, .int x3)]) (hcap : cells + 2 ≤ 600000 ∧ slots + 162 ≤ 7302250) (hnext : ∀ (nc' : Nat) (ax' : Nat → Nat) (σx' σm' : St) (H1 : Heap) (locs1 : List Loc), Inv nc' σx' σm' → ax' 0 = ax 0 → Wst D C KV s nc' ax' am σx' σm' H1 locs1 → W p l e room_1 s m #[Value.ref b] below meth c H1 locs1 (cells + 2) (slots + 162) Q (F0 m 1300 ls [])) : W p l e room_1 s m #[Value.ref b] below meth c H locs cells slots Q (F0 m 424 ls []) := by
  obtain ⟨⟨hx, hb, hml, hown, hts⟩, hK, hX, hXs, hbl, hr, hlk⟩ := id hc
  have hbA : ¬ Ge s b := Nat.not_le.mpr hbl
  obtain ⟨r, σx', σm', f1, f2, f3⟩ := hp nc σx σm a1 (((Int32.toInt64 a2) <<< (Int32.toInt64 32 &&& 63)) ||| ((Int32.toInt64 a3) &&& 4294967295)) hI
  refine lv_aload_n hx hb dL_law_424 rfl (lv_at hl 1 rfl) ?_
  refine lv_aload_n hx hb dL_law_425 rfl (lv_at hl 0 rfl) ?_
  refine lv_iload_n hx hb dL_law_426 rfl (lv_at hl 3 rfl) ?_
  refine lv_iconst (v := 1) hx hb dL_law_427 (by decide) ?_
  refine lv_iadd hx hb dL_law_428 ?_
  refine va_sld hx hb hXs hbl hbA hw.2.2.2 h1 dL_law_429 ?_
  rw [e1]
  refine lv_aload_n hx hb dL_law_430 rfl (lv_at hl 0 rfl) ?_
  refine lv_iload_n hx hb dL_law_431 rfl (lv_at hl 3 rfl) ?_
  refine lv_iconst (v := 2) hx hb dL_law_432 (by decide) ?_
  refine lv_iadd hx hb dL_law_433 ?_
  refine va_sld hx hb hXs hbl hbA hw.2.2.2 h2 dL_law_434 ?_
  rw [e2]
  refine lv_i2l hx hb dL_law_435 rfl ?_
  refine lv_bipush (v := 32) hx hb dL_law_436 (by decide) ?_
  refine lv_lshl hx hb dL_law_438 rfl ?_
  refine lv_aload_n hx hb dL_law_439 rfl (lv_at hl 0 rfl) ?_
  refine lv_iload_n hx hb dL_law_440 rfl (lv_at hl 3 rfl) ?_
  refine lv_iconst (v := 3) hx hb dL_law_441 (by decide) ?_
  refine lv_iadd hx hb dL_law_442 ?_
  refine va_sld hx hb hXs hbl hbA hw.2.2.2 h3 dL_law_443 ?_
  rw [e3]
  refine lv_i2l hx hb dL_law_444 rfl ?_
  refine lv_ldc2 (v := 4294967295) hx hb hown (hts _ lc_L_40) dL_law_445 ?_
  refine lv_land hx hb dL_law_448 ?_
  refine lv_lor hx hb dL_law_449 ?_
  refine l_XI (st := []) (lv := [(0, .ref b), (1, .ref (ax 0)), (2, .ref (am 0)), (3, .int x3)]) hc hw [.int a1, .long (((Int32.toInt64 a2) <<< (Int32.toInt64 32 &&& 63)) ||| ((Int32.toInt64 a3) &&& 4294967295))] (c_X11_feed (l := l) (w := wX D C KV nc ax) ⟨rfl, rfl, hw.1⟩ σx a1 (((Int32.toInt64 a2) <<< (Int32.toInt64 32 &&& 63)) ||| ((Int32.toInt64 a3) &&& 4294967295)) _ f1) yk_X11_feed rfl lm_L_42 rfl ⟨rfl, rfl⟩ rfl hl ⟨by omega, by omega⟩ dL_law_450 (fun H locs hw => ?_)
  refine lv_aload_n hx hb dL_law_453 rfl (lv_at hl 2 rfl) ?_
  refine lv_aload_n hx hb dL_law_454 rfl (lv_at hl 0 rfl) ?_
  refine lv_iload_n hx hb dL_law_455 rfl (lv_at hl 3 rfl) ?_
  refine lv_iconst (v := 1) hx hb dL_law_456 (by decide) ?_
  refine lv_iadd hx hb dL_law_457 ?_
  refine va_sld hx hb hXs hbl hbA hw.2.2.2 h1 dL_law_458 ?_
  rw [e1]
  refine lv_aload_n hx hb dL_law_459 rfl (lv_at hl 0 rfl) ?_
  refine lv_iload_n hx hb dL_law_460 rfl (lv_at hl 3 rfl) ?_
  refine lv_iconst (v := 2) hx hb dL_law_461 (by decide) ?_
  refine lv_iadd hx hb dL_law_462 ?_
  refine va_sld hx hb hXs hbl hbA hw.2.2.2 h2 dL_law_463 ?_
  rw [e2]
  refine lv_i2l hx hb dL_law_464 rfl ?_
  refine lv_bipush (v := 32) hx hb dL_law_465 (by decide) ?_
  refine lv_lshl hx hb dL_law_467 rfl ?_
  refine lv_aload_n hx hb dL_law_468 rfl (lv_at hl 0 rfl) ?_
  refine lv_iload_n hx hb dL_law_469 rfl (lv_at hl 3 rfl) ?_
  refine lv_iconst (v := 3) hx hb dL_law_470 (by decide) ?_
  refine lv_iadd hx hb dL_law_471 ?_
  refine va_sld hx hb hXs hbl hbA hw.2.2.2 h3 dL_law_472 ?_
  rw [e3]
  refine lv_i2l hx hb dL_law_473 rfl ?_
  refine lv_ldc2 (v := 4294967295) hx hb hown (hts _ lc_L_40) dL_law_474 ?_
  refine lv_land hx hb dL_law_477 ?_
  refine lv_lor hx hb dL_law_478 ?_
  refine l_MI (st := [.int r]) (lv := [(0, .ref b), (1, .ref (ax 0)), (2, .ref (am 0)), (3, .int x3)]) hc hw [.int a1, .long (((Int32.toInt64 a2) <<< (Int32.toInt64 32 &&& 63)) ||| ((Int32.toInt64 a3) &&& 4294967295))] (c_X12_feed (l := l) (w := wM D C KV am) ⟨rfl, rfl, Nat.le_refl 29⟩ σm a1 (((Int32.toInt64 a2) <<< (Int32.toInt64 32 &&& 63)) ||| ((Int32.toInt64 a3) &&& 4294967295)) _ f2) yk_X12_feed rfl lm_L_46 rfl ⟨rfl, rfl⟩ rfl hl ⟨by omega, by omega⟩ dL_law_479 (fun H locs hw => ?_)
  refine lv_icmp_eq (tgt := 1300) hx hb dL_law_482 (by decide) (fun c9 => ?_) (fun c9 => absurd rfl c9)
  refine W.widen (k := cells + 2) (n := slots + 162) (by omega) (by omega) ?_
  exact hnext nc ax σx' σm' H locs f3 rfl hw
set_option maxHeartbeats 4000000 in
set_option maxRecDepth 100000 in
theorem law_7 {p : Program} {l : Launch} {e : Env} {s : State} {m : MethodId} {below : List Frame} {meth : Method} {c : Code} {b L : Nat} {xs : Nat → Int32} {D : va_G} {C : Nat → ClassId} {KV : (Nat → Nat) × (Nat → Nat)} {nc : Nat} {ax am : Nat → Nat} {σx σm : St} {H : Heap} {locs : List Loc} {cells slots : Nat} {Q : State → Prop} {ls : Array Slot} {Inv : Nat → St → St → Prop} {x3 : Int32} (hp : P_text Inv) (hI : Inv nc σx σm) (hc : Lc p s m meth c b L xs D C KV) (hw : Wst D C KV s nc ax am σx σm H locs) (h1 : vp_in (x3 + 1) L) (h2 : vp_in (x3 + 2) L) (h3 : vp_in (x3 + 3) L) (h4 : vp_in (x3 + 4) L) (h5 : vp_in (x3 + 5) L) (a1 a2 a3 a4 a5 : Int32) (e1 : xs (x3 + 1).toNatClampNeg = a1) (e2 : xs (x3 + 2).toNatClampNeg = a2) (e3 : xs (x3 + 3).toNatClampNeg = a3) (e4 : xs (x3 + 4).toNatClampNeg = a4) (e5 : xs (x3 + 5).toNatClampNeg = a5) (hl : lv_has ls 4 [(0, .ref b), (1, .ref (ax 0)), (2, .ref (am 0)), (3, .int x3)]) (hcap : cells + 2 ≤ 600000 ∧ slots + 162 ≤ 7302250) (hnext : ∀ (nc' : Nat) (ax' : Nat → Nat) (σx' σm' : St) (H1 : Heap) (locs1 : List Loc), Inv nc' σx' σm' → ax' 0 = ax 0 → Wst D C KV s nc' ax' am σx' σm' H1 locs1 → W p l e room_1 s m #[Value.ref b] below meth c H1 locs1 (cells + 2) (slots + 162) Q (F0 m 1300 ls [])) : W p l e room_1 s m #[Value.ref b] below meth c H locs cells slots Q (F0 m 487 ls []) := by
  obtain ⟨⟨hx, hb, hml, hown, hts⟩, hK, hX, hXs, hbl, hr, hlk⟩ := id hc
  have hbA : ¬ Ge s b := Nat.not_le.mpr hbl
  obtain ⟨r, σx', σm', nc', f1, f2, f3⟩ := hp nc σx σm hI
  refine lv_aload_n hx hb dL_law_487 rfl (lv_at hl 1 rfl) ?_
  refine l_XT (st := []) (lv := [(0, .ref b), (1, .ref (ax 0)), (2, .ref (am 0)), (3, .int x3)]) hc hw (c_X11_text (l := l) (w := wX D C KV nc ax) ⟨rfl, rfl, hw.1⟩ rfl σx _ f1) yk_X11_text lm_L_47 rfl hl hcap dL_law_488 (fun ax' H locs h0 hw => ?_)
  refine lv_aload_n hx hb dL_law_491 rfl (lv_at hl 2 rfl) ?_
  refine l_MI (st := [.int r]) (lv := [(0, .ref b), (1, .ref (ax 0)), (2, .ref (am 0)), (3, .int x3)]) hc hw [] (c_X12_text (l := l) (w := wM D C KV am) ⟨rfl, rfl, Nat.le_refl 29⟩ σm  _ f2) yk_X12_text rfl lm_L_51 rfl ⟨rfl, rfl⟩ rfl hl ⟨by omega, by omega⟩ dL_law_492 (fun H locs hw => ?_)
  refine lv_icmp_eq (tgt := 1300) hx hb dL_law_495 (by decide) (fun c9 => ?_) (fun c9 => absurd rfl c9)
  exact hnext nc' ax' σx' σm' H locs f3 h0 hw
set_option maxHeartbeats 4000000 in
set_option maxRecDepth 100000 in
theorem law_8 {p : Program} {l : Launch} {e : Env} {s : State} {m : MethodId} {below : List Frame} {meth : Method} {c : Code} {b L : Nat} {xs : Nat → Int32} {D : va_G} {C : Nat → ClassId} {KV : (Nat → Nat) × (Nat → Nat)} {nc : Nat} {ax am : Nat → Nat} {σx σm : St} {H : Heap} {locs : List Loc} {cells slots : Nat} {Q : State → Prop} {ls : Array Slot} {Inv : Nat → St → St → Prop} {x3 : Int32} (hp : P_force Inv) (hI : Inv nc σx σm) (hc : Lc p s m meth c b L xs D C KV) (hw : Wst D C KV s nc ax am σx σm H locs) (h1 : vp_in (x3 + 1) L) (h2 : vp_in (x3 + 2) L) (h3 : vp_in (x3 + 3) L) (h4 : vp_in (x3 + 4) L) (h5 : vp_in (x3 + 5) L) (a1 a2 a3 a4 a5 : Int32) (e1 : xs (x3 + 1).toNatClampNeg = a1) (e2 : xs (x3 + 2).toNatClampNeg = a2) (e3 : xs (x3 + 3).toNatClampNeg = a3) (e4 : xs (x3 + 4).toNatClampNeg = a4) (e5 : xs (x3 + 5).toNatClampNeg = a5) (hl : lv_has ls 4 [(0, .ref b), (1, .ref (ax 0)), (2, .ref (am 0)), (3, .int x3)]) (hcap : cells + 2 ≤ 600000 ∧ slots + 162 ≤ 7302250) (hnext : ∀ (nc' : Nat) (ax' : Nat → Nat) (σx' σm' : St) (H1 : Heap) (locs1 : List Loc), Inv nc' σx' σm' → ax' 0 = ax 0 → Wst D C KV s nc' ax' am σx' σm' H1 locs1 → W p l e room_1 s m #[Value.ref b] below meth c H1 locs1 (cells + 2) (slots + 162) Q (F0 m 1300 ls [])) : W p l e room_1 s m #[Value.ref b] below meth c H locs cells slots Q (F0 m 500 ls []) := by
  obtain ⟨⟨hx, hb, hml, hown, hts⟩, hK, hX, hXs, hbl, hr, hlk⟩ := id hc
  have hbA : ¬ Ge s b := Nat.not_le.mpr hbl
  obtain ⟨r, σx', σm', f1, f2, f3⟩ := hp nc σx σm a1 hI
  refine lv_aload_n hx hb dL_law_500 rfl (lv_at hl 1 rfl) ?_
  refine lv_aload_n hx hb dL_law_501 rfl (lv_at hl 0 rfl) ?_
  refine lv_iload_n hx hb dL_law_502 rfl (lv_at hl 3 rfl) ?_
  refine lv_iconst (v := 1) hx hb dL_law_503 (by decide) ?_
  refine lv_iadd hx hb dL_law_504 ?_
  refine va_sld hx hb hXs hbl hbA hw.2.2.2 h1 dL_law_505 ?_
  rw [e1]
  refine l_XI (st := []) (lv := [(0, .ref b), (1, .ref (ax 0)), (2, .ref (am 0)), (3, .int x3)]) hc hw [.int a1] (c_X11_force (l := l) (w := wX D C KV nc ax) ⟨rfl, rfl, hw.1⟩ σx a1 _ f1) yk_X11_force rfl lm_L_52 rfl ⟨rfl, rfl⟩ rfl hl ⟨by omega, by omega⟩ dL_law_506 (fun H locs hw => ?_)
  refine lv_aload_n hx hb dL_law_509 rfl (lv_at hl 2 rfl) ?_
  refine lv_aload_n hx hb dL_law_510 rfl (lv_at hl 0 rfl) ?_
  refine lv_iload_n hx hb dL_law_511 rfl (lv_at hl 3 rfl) ?_
  refine lv_iconst (v := 1) hx hb dL_law_512 (by decide) ?_
  refine lv_iadd hx hb dL_law_513 ?_
  refine va_sld hx hb hXs hbl hbA hw.2.2.2 h1 dL_law_514 ?_
  rw [e1]
  refine l_MI (st := [.int r]) (lv := [(0, .ref b), (1, .ref (ax 0)), (2, .ref (am 0)), (3, .int x3)]) hc hw [.int a1] (c_X12_force (l := l) (w := wM D C KV am) ⟨rfl, rfl, Nat.le_refl 29⟩ σm a1 _ f2) yk_X12_force rfl lm_L_56 rfl ⟨rfl, rfl⟩ rfl hl ⟨by omega, by omega⟩ dL_law_515 (fun H locs hw => ?_)
  refine lv_icmp_eq (tgt := 1300) hx hb dL_law_518 (by decide) (fun c9 => ?_) (fun c9 => absurd rfl c9)
  refine W.widen (k := cells + 2) (n := slots + 162) (by omega) (by omega) ?_
  exact hnext nc ax σx' σm' H locs f3 rfl hw
set_option maxHeartbeats 4000000 in
set_option maxRecDepth 100000 in
theorem law_9 {p : Program} {l : Launch} {e : Env} {s : State} {m : MethodId} {below : List Frame} {meth : Method} {c : Code} {b L : Nat} {xs : Nat → Int32} {D : va_G} {C : Nat → ClassId} {KV : (Nat → Nat) × (Nat → Nat)} {nc : Nat} {ax am : Nat → Nat} {σx σm : St} {H : Heap} {locs : List Loc} {cells slots : Nat} {Q : State → Prop} {ls : Array Slot} {Inv : Nat → St → St → Prop} {x3 : Int32} (hp : P_plan Inv) (hI : Inv nc σx σm) (hc : Lc p s m meth c b L xs D C KV) (hw : Wst D C KV s nc ax am σx σm H locs) (h1 : vp_in (x3 + 1) L) (h2 : vp_in (x3 + 2) L) (h3 : vp_in (x3 + 3) L) (h4 : vp_in (x3 + 4) L) (h5 : vp_in (x3 + 5) L) (a1 a2 a3 a4 a5 : Int32) (e1 : xs (x3 + 1).toNatClampNeg = a1) (e2 : xs (x3 + 2).toNatClampNeg = a2) (e3 : xs (x3 + 3).toNatClampNeg = a3) (e4 : xs (x3 + 4).toNatClampNeg = a4) (e5 : xs (x3 + 5).toNatClampNeg = a5) (hl : lv_has ls 4 [(0, .ref b), (1, .ref (ax 0)), (2, .ref (am 0)), (3, .int x3)]) (hcap : cells + 2 ≤ 600000 ∧ slots + 162 ≤ 7302250) (hnext : ∀ (nc' : Nat) (ax' : Nat → Nat) (σx' σm' : St) (H1 : Heap) (locs1 : List Loc), Inv nc' σx' σm' → ax' 0 = ax 0 → Wst D C KV s nc' ax' am σx' σm' H1 locs1 → W p l e room_1 s m #[Value.ref b] below meth c H1 locs1 (cells + 2) (slots + 162) Q (F0 m 1300 ls [])) : W p l e room_1 s m #[Value.ref b] below meth c H locs cells slots Q (F0 m 523 ls []) := by
  obtain ⟨⟨hx, hb, hml, hown, hts⟩, hK, hX, hXs, hbl, hr, hlk⟩ := id hc
  have hbA : ¬ Ge s b := Nat.not_le.mpr hbl
  obtain ⟨r, σx', σm', f1, f2, f3⟩ := hp nc σx σm  hI
  refine lv_aload_n hx hb dL_law_523 rfl (lv_at hl 1 rfl) ?_
  refine l_XI (st := []) (lv := [(0, .ref b), (1, .ref (ax 0)), (2, .ref (am 0)), (3, .int x3)]) hc hw [] (c_X11_plan (l := l) (w := wX D C KV nc ax) ⟨rfl, rfl, hw.1⟩ σx  _ f1) yk_X11_plan rfl lm_L_57 rfl ⟨rfl, rfl⟩ rfl hl ⟨by omega, by omega⟩ dL_law_524 (fun H locs hw => ?_)
  refine lv_aload_n hx hb dL_law_527 rfl (lv_at hl 2 rfl) ?_
  refine l_MI (st := [.int r]) (lv := [(0, .ref b), (1, .ref (ax 0)), (2, .ref (am 0)), (3, .int x3)]) hc hw [] (c_X12_plan (l := l) (w := wM D C KV am) ⟨rfl, rfl, Nat.le_refl 29⟩ σm  _ f2) yk_X12_plan rfl lm_L_60 rfl ⟨rfl, rfl⟩ rfl hl ⟨by omega, by omega⟩ dL_law_528 (fun H locs hw => ?_)
  refine lv_icmp_eq (tgt := 1300) hx hb dL_law_531 (by decide) (fun c9 => ?_) (fun c9 => absurd rfl c9)
  refine W.widen (k := cells + 2) (n := slots + 162) (by omega) (by omega) ?_
  exact hnext nc ax σx' σm' H locs f3 rfl hw
set_option maxHeartbeats 4000000 in
set_option maxRecDepth 100000 in
theorem law_10 {p : Program} {l : Launch} {e : Env} {s : State} {m : MethodId} {below : List Frame} {meth : Method} {c : Code} {b L : Nat} {xs : Nat → Int32} {D : va_G} {C : Nat → ClassId} {KV : (Nat → Nat) × (Nat → Nat)} {nc : Nat} {ax am : Nat → Nat} {σx σm : St} {H : Heap} {locs : List Loc} {cells slots : Nat} {Q : State → Prop} {ls : Array Slot} {Inv : Nat → St → St → Prop} {x3 : Int32} (hp : P_planned Inv) (hI : Inv nc σx σm) (hc : Lc p s m meth c b L xs D C KV) (hw : Wst D C KV s nc ax am σx σm H locs) (h1 : vp_in (x3 + 1) L) (h2 : vp_in (x3 + 2) L) (h3 : vp_in (x3 + 3) L) (h4 : vp_in (x3 + 4) L) (h5 : vp_in (x3 + 5) L) (a1 a2 a3 a4 a5 : Int32) (e1 : xs (x3 + 1).toNatClampNeg = a1) (e2 : xs (x3 + 2).toNatClampNeg = a2) (e3 : xs (x3 + 3).toNatClampNeg = a3) (e4 : xs (x3 + 4).toNatClampNeg = a4) (e5 : xs (x3 + 5).toNatClampNeg = a5) (hl : lv_has ls 4 [(0, .ref b), (1, .ref (ax 0)), (2, .ref (am 0)), (3, .int x3)]) (hcap : cells + 2 ≤ 600000 ∧ slots + 162 ≤ 7302250) (hnext : ∀ (nc' : Nat) (ax' : Nat → Nat) (σx' σm' : St) (H1 : Heap) (locs1 : List Loc), Inv nc' σx' σm' → ax' 0 = ax 0 → Wst D C KV s nc' ax' am σx' σm' H1 locs1 → W p l e room_1 s m #[Value.ref b] below meth c H1 locs1 (cells + 2) (slots + 162) Q (F0 m 1300 ls [])) : W p l e room_1 s m #[Value.ref b] below meth c H locs cells slots Q (F0 m 536 ls []) := by
  obtain ⟨⟨hx, hb, hml, hown, hts⟩, hK, hX, hXs, hbl, hr, hlk⟩ := id hc
  have hbA : ¬ Ge s b := Nat.not_le.mpr hbl
  obtain ⟨r, f1, f2, f3⟩ := hp nc σx σm a1 a2 hI
  refine lv_aload_n hx hb dL_law_536 rfl (lv_at hl 1 rfl) ?_
  refine lv_aload_n hx hb dL_law_537 rfl (lv_at hl 0 rfl) ?_
  refine lv_iload_n hx hb dL_law_538 rfl (lv_at hl 3 rfl) ?_
  refine lv_iconst (v := 1) hx hb dL_law_539 (by decide) ?_
  refine lv_iadd hx hb dL_law_540 ?_
  refine va_sld hx hb hXs hbl hbA hw.2.2.2 h1 dL_law_541 ?_
  rw [e1]
  refine lv_aload_n hx hb dL_law_542 rfl (lv_at hl 0 rfl) ?_
  refine lv_iload_n hx hb dL_law_543 rfl (lv_at hl 3 rfl) ?_
  refine lv_iconst (v := 2) hx hb dL_law_544 (by decide) ?_
  refine lv_iadd hx hb dL_law_545 ?_
  refine va_sld hx hb hXs hbl hbA hw.2.2.2 h2 dL_law_546 ?_
  rw [e2]
  refine l_XI (st := []) (lv := [(0, .ref b), (1, .ref (ax 0)), (2, .ref (am 0)), (3, .int x3)]) hc hw [.int a1, .int a2] (c_X11_planned (l := l) (w := wX D C KV nc ax) ⟨rfl, rfl, hw.1⟩ σx a1 a2 _ f1) yk_X11_planned rfl lm_L_61 rfl ⟨rfl, rfl⟩ rfl hl ⟨by omega, by omega⟩ dL_law_547 (fun H locs hw => ?_)
  refine lv_aload_n hx hb dL_law_550 rfl (lv_at hl 2 rfl) ?_
  refine lv_aload_n hx hb dL_law_551 rfl (lv_at hl 0 rfl) ?_
  refine lv_iload_n hx hb dL_law_552 rfl (lv_at hl 3 rfl) ?_
  refine lv_iconst (v := 1) hx hb dL_law_553 (by decide) ?_
  refine lv_iadd hx hb dL_law_554 ?_
  refine va_sld hx hb hXs hbl hbA hw.2.2.2 h1 dL_law_555 ?_
  rw [e1]
  refine lv_aload_n hx hb dL_law_556 rfl (lv_at hl 0 rfl) ?_
  refine lv_iload_n hx hb dL_law_557 rfl (lv_at hl 3 rfl) ?_
  refine lv_iconst (v := 2) hx hb dL_law_558 (by decide) ?_
  refine lv_iadd hx hb dL_law_559 ?_
  refine va_sld hx hb hXs hbl hbA hw.2.2.2 h2 dL_law_560 ?_
  rw [e2]
  refine l_MI (st := [.int r]) (lv := [(0, .ref b), (1, .ref (ax 0)), (2, .ref (am 0)), (3, .int x3)]) hc hw [.int a1, .int a2] (c_X12_planned (l := l) (w := wM D C KV am) ⟨rfl, rfl, Nat.le_refl 29⟩ σm a1 a2 _ f2) yk_X12_planned rfl lm_L_64 rfl ⟨rfl, rfl⟩ rfl hl ⟨by omega, by omega⟩ dL_law_561 (fun H locs hw => ?_)
  refine lv_icmp_eq (tgt := 1300) hx hb dL_law_564 (by decide) (fun c9 => ?_) (fun c9 => absurd rfl c9)
  refine W.widen (k := cells + 2) (n := slots + 162) (by omega) (by omega) ?_
  exact hnext nc ax σx σm H locs f3 rfl hw
set_option maxHeartbeats 4000000 in
set_option maxRecDepth 100000 in
theorem law_11 {p : Program} {l : Launch} {e : Env} {s : State} {m : MethodId} {below : List Frame} {meth : Method} {c : Code} {b L : Nat} {xs : Nat → Int32} {D : va_G} {C : Nat → ClassId} {KV : (Nat → Nat) × (Nat → Nat)} {nc : Nat} {ax am : Nat → Nat} {σx σm : St} {H : Heap} {locs : List Loc} {cells slots : Nat} {Q : State → Prop} {ls : Array Slot} {Inv : Nat → St → St → Prop} {x3 : Int32} (hp : P_row Inv) (hI : Inv nc σx σm) (hc : Lc p s m meth c b L xs D C KV) (hw : Wst D C KV s nc ax am σx σm H locs) (h1 : vp_in (x3 + 1) L) (h2 : vp_in (x3 + 2) L) (h3 : vp_in (x3 + 3) L) (h4 : vp_in (x3 + 4) L) (h5 : vp_in (x3 + 5) L) (a1 a2 a3 a4 a5 : Int32) (e1 : xs (x3 + 1).toNatClampNeg = a1) (e2 : xs (x3 + 2).toNatClampNeg = a2) (e3 : xs (x3 + 3).toNatClampNeg = a3) (e4 : xs (x3 + 4).toNatClampNeg = a4) (e5 : xs (x3 + 5).toNatClampNeg = a5) (hl : lv_has ls 4 [(0, .ref b), (1, .ref (ax 0)), (2, .ref (am 0)), (3, .int x3)]) (hcap : cells + 2 ≤ 600000 ∧ slots + 162 ≤ 7302250) (hnext : ∀ (nc' : Nat) (ax' : Nat → Nat) (σx' σm' : St) (H1 : Heap) (locs1 : List Loc), Inv nc' σx' σm' → ax' 0 = ax 0 → Wst D C KV s nc' ax' am σx' σm' H1 locs1 → W p l e room_1 s m #[Value.ref b] below meth c H1 locs1 (cells + 2) (slots + 162) Q (F0 m 1300 ls [])) : W p l e room_1 s m #[Value.ref b] below meth c H locs cells slots Q (F0 m 569 ls []) := by
  obtain ⟨⟨hx, hb, hml, hown, hts⟩, hK, hX, hXs, hbl, hr, hlk⟩ := id hc
  have hbA : ¬ Ge s b := Nat.not_le.mpr hbl
  obtain ⟨r, σx', σm', f1, f2, f3⟩ := hp nc σx σm a1 a2 hI
  refine lv_aload_n hx hb dL_law_569 rfl (lv_at hl 1 rfl) ?_
  refine lv_aload_n hx hb dL_law_570 rfl (lv_at hl 0 rfl) ?_
  refine lv_iload_n hx hb dL_law_571 rfl (lv_at hl 3 rfl) ?_
  refine lv_iconst (v := 1) hx hb dL_law_572 (by decide) ?_
  refine lv_iadd hx hb dL_law_573 ?_
  refine va_sld hx hb hXs hbl hbA hw.2.2.2 h1 dL_law_574 ?_
  rw [e1]
  refine lv_aload_n hx hb dL_law_575 rfl (lv_at hl 0 rfl) ?_
  refine lv_iload_n hx hb dL_law_576 rfl (lv_at hl 3 rfl) ?_
  refine lv_iconst (v := 2) hx hb dL_law_577 (by decide) ?_
  refine lv_iadd hx hb dL_law_578 ?_
  refine va_sld hx hb hXs hbl hbA hw.2.2.2 h2 dL_law_579 ?_
  rw [e2]
  refine l_XL (st := []) (lv := [(0, .ref b), (1, .ref (ax 0)), (2, .ref (am 0)), (3, .int x3)]) hc hw [.int a1, .int a2] (c_X11_row (l := l) (w := wX D C KV nc ax) ⟨rfl, rfl, hw.1⟩ (Nat.le_refl nc) σx a1 a2 _ f1) yk_X11_row rfl lm_L_65 rfl ⟨rfl, rfl⟩ rfl hl ⟨by omega, by omega⟩ dL_law_580 (fun H locs hw => ?_)
  refine lv_aload_n hx hb dL_law_583 rfl (lv_at hl 2 rfl) ?_
  refine lv_aload_n hx hb dL_law_584 rfl (lv_at hl 0 rfl) ?_
  refine lv_iload_n hx hb dL_law_585 rfl (lv_at hl 3 rfl) ?_
  refine lv_iconst (v := 1) hx hb dL_law_586 (by decide) ?_
  refine lv_iadd hx hb dL_law_587 ?_
  refine va_sld hx hb hXs hbl hbA hw.2.2.2 h1 dL_law_588 ?_
  rw [e1]
  refine lv_aload_n hx hb dL_law_589 rfl (lv_at hl 0 rfl) ?_
  refine lv_iload_n hx hb dL_law_590 rfl (lv_at hl 3 rfl) ?_
  refine lv_iconst (v := 2) hx hb dL_law_591 (by decide) ?_
  refine lv_iadd hx hb dL_law_592 ?_
  refine va_sld hx hb hXs hbl hbA hw.2.2.2 h2 dL_law_593 ?_
  rw [e2]
  refine l_ML (st := [.long r]) (lv := [(0, .ref b), (1, .ref (ax 0)), (2, .ref (am 0)), (3, .int x3)]) hc hw [.int a1, .int a2] (c_X12_row (l := l) (w := wM D C KV am) ⟨rfl, rfl, Nat.le_refl 29⟩ σm a1 a2 _ f2) yk_X12_row rfl lm_L_69 rfl ⟨rfl, rfl⟩ rfl hl ⟨by omega, by omega⟩ dL_law_594 (fun H locs hw => ?_)
  refine W.lcmp hx hb dL_law_597 (lv_if_eq (tgt := 1300) hx hb dL_law_598 (by decide) (fun c9 => ?_) (fun c9 => absurd ((lg_cmp_eq r r).mpr rfl) c9))
  refine W.widen (k := cells + 2) (n := slots + 162) (by omega) (by omega) ?_
  exact hnext nc ax σx' σm' H locs f3 rfl hw
set_option maxHeartbeats 4000000 in
set_option maxRecDepth 100000 in
theorem law_12 {p : Program} {l : Launch} {e : Env} {s : State} {m : MethodId} {below : List Frame} {meth : Method} {c : Code} {b L : Nat} {xs : Nat → Int32} {D : va_G} {C : Nat → ClassId} {KV : (Nat → Nat) × (Nat → Nat)} {nc : Nat} {ax am : Nat → Nat} {σx σm : St} {H : Heap} {locs : List Loc} {cells slots : Nat} {Q : State → Prop} {ls : Array Slot} {Inv : Nat → St → St → Prop} {x3 : Int32} (hp : P_left Inv) (hI : Inv nc σx σm) (hc : Lc p s m meth c b L xs D C KV) (hw : Wst D C KV s nc ax am σx σm H locs) (h1 : vp_in (x3 + 1) L) (h2 : vp_in (x3 + 2) L) (h3 : vp_in (x3 + 3) L) (h4 : vp_in (x3 + 4) L) (h5 : vp_in (x3 + 5) L) (a1 a2 a3 a4 a5 : Int32) (e1 : xs (x3 + 1).toNatClampNeg = a1) (e2 : xs (x3 + 2).toNatClampNeg = a2) (e3 : xs (x3 + 3).toNatClampNeg = a3) (e4 : xs (x3 + 4).toNatClampNeg = a4) (e5 : xs (x3 + 5).toNatClampNeg = a5) (hl : lv_has ls 4 [(0, .ref b), (1, .ref (ax 0)), (2, .ref (am 0)), (3, .int x3)]) (hcap : cells + 2 ≤ 600000 ∧ slots + 162 ≤ 7302250) (hnext : ∀ (nc' : Nat) (ax' : Nat → Nat) (σx' σm' : St) (H1 : Heap) (locs1 : List Loc), Inv nc' σx' σm' → ax' 0 = ax 0 → Wst D C KV s nc' ax' am σx' σm' H1 locs1 → W p l e room_1 s m #[Value.ref b] below meth c H1 locs1 (cells + 2) (slots + 162) Q (F0 m 1300 ls [])) : W p l e room_1 s m #[Value.ref b] below meth c H locs cells slots Q (F0 m 603 ls []) := by
  obtain ⟨⟨hx, hb, hml, hown, hts⟩, hK, hX, hXs, hbl, hr, hlk⟩ := id hc
  have hbA : ¬ Ge s b := Nat.not_le.mpr hbl
  obtain ⟨r, σx', σm', f1, f2, f3⟩ := hp nc σx σm a1 a2 hI
  refine lv_aload_n hx hb dL_law_603 rfl (lv_at hl 1 rfl) ?_
  refine lv_aload_n hx hb dL_law_604 rfl (lv_at hl 0 rfl) ?_
  refine lv_iload_n hx hb dL_law_605 rfl (lv_at hl 3 rfl) ?_
  refine lv_iconst (v := 1) hx hb dL_law_606 (by decide) ?_
  refine lv_iadd hx hb dL_law_607 ?_
  refine va_sld hx hb hXs hbl hbA hw.2.2.2 h1 dL_law_608 ?_
  rw [e1]
  refine lv_aload_n hx hb dL_law_609 rfl (lv_at hl 0 rfl) ?_
  refine lv_iload_n hx hb dL_law_610 rfl (lv_at hl 3 rfl) ?_
  refine lv_iconst (v := 2) hx hb dL_law_611 (by decide) ?_
  refine lv_iadd hx hb dL_law_612 ?_
  refine va_sld hx hb hXs hbl hbA hw.2.2.2 h2 dL_law_613 ?_
  rw [e2]
  refine l_XI (st := []) (lv := [(0, .ref b), (1, .ref (ax 0)), (2, .ref (am 0)), (3, .int x3)]) hc hw [.int a1, .int a2] (c_X11_left (l := l) (w := wX D C KV nc ax) ⟨rfl, rfl, hw.1⟩ (Nat.le_refl nc) σx a1 a2 _ f1) yk_X11_left rfl lm_L_70 rfl ⟨rfl, rfl⟩ rfl hl ⟨by omega, by omega⟩ dL_law_614 (fun H locs hw => ?_)
  refine lv_aload_n hx hb dL_law_617 rfl (lv_at hl 2 rfl) ?_
  refine lv_aload_n hx hb dL_law_618 rfl (lv_at hl 0 rfl) ?_
  refine lv_iload_n hx hb dL_law_619 rfl (lv_at hl 3 rfl) ?_
  refine lv_iconst (v := 1) hx hb dL_law_620 (by decide) ?_
  refine lv_iadd hx hb dL_law_621 ?_
  refine va_sld hx hb hXs hbl hbA hw.2.2.2 h1 dL_law_622 ?_
  rw [e1]
  refine lv_aload_n hx hb dL_law_623 rfl (lv_at hl 0 rfl) ?_
  refine lv_iload_n hx hb dL_law_624 rfl (lv_at hl 3 rfl) ?_
  refine lv_iconst (v := 2) hx hb dL_law_625 (by decide) ?_
  refine lv_iadd hx hb dL_law_626 ?_
  refine va_sld hx hb hXs hbl hbA hw.2.2.2 h2 dL_law_627 ?_
  rw [e2]
  refine l_MI (st := [.int r]) (lv := [(0, .ref b), (1, .ref (ax 0)), (2, .ref (am 0)), (3, .int x3)]) hc hw [.int a1, .int a2] (c_X12_left (l := l) (w := wM D C KV am) ⟨rfl, rfl, Nat.le_refl 29⟩ σm a1 a2 _ f2) yk_X12_left rfl lm_L_73 rfl ⟨rfl, rfl⟩ rfl hl ⟨by omega, by omega⟩ dL_law_628 (fun H locs hw => ?_)
  refine lv_icmp_eq (tgt := 1300) hx hb dL_law_631 (by decide) (fun c9 => ?_) (fun c9 => absurd rfl c9)
  refine W.widen (k := cells + 2) (n := slots + 162) (by omega) (by omega) ?_
  exact hnext nc ax σx' σm' H locs f3 rfl hw
set_option maxHeartbeats 4000000 in
set_option maxRecDepth 100000 in
theorem law_13 {p : Program} {l : Launch} {e : Env} {s : State} {m : MethodId} {below : List Frame} {meth : Method} {c : Code} {b L : Nat} {xs : Nat → Int32} {D : va_G} {C : Nat → ClassId} {KV : (Nat → Nat) × (Nat → Nat)} {nc : Nat} {ax am : Nat → Nat} {σx σm : St} {H : Heap} {locs : List Loc} {cells slots : Nat} {Q : State → Prop} {ls : Array Slot} {Inv : Nat → St → St → Prop} {x3 : Int32} (hp : P_rown Inv) (hI : Inv nc σx σm) (hc : Lc p s m meth c b L xs D C KV) (hw : Wst D C KV s nc ax am σx σm H locs) (h1 : vp_in (x3 + 1) L) (h2 : vp_in (x3 + 2) L) (h3 : vp_in (x3 + 3) L) (h4 : vp_in (x3 + 4) L) (h5 : vp_in (x3 + 5) L) (a1 a2 a3 a4 a5 : Int32) (e1 : xs (x3 + 1).toNatClampNeg = a1) (e2 : xs (x3 + 2).toNatClampNeg = a2) (e3 : xs (x3 + 3).toNatClampNeg = a3) (e4 : xs (x3 + 4).toNatClampNeg = a4) (e5 : xs (x3 + 5).toNatClampNeg = a5) (hl : lv_has ls 4 [(0, .ref b), (1, .ref (ax 0)), (2, .ref (am 0)), (3, .int x3)]) (hcap : cells + 2 ≤ 600000 ∧ slots + 162 ≤ 7302250) (hnext : ∀ (nc' : Nat) (ax' : Nat → Nat) (σx' σm' : St) (H1 : Heap) (locs1 : List Loc), Inv nc' σx' σm' → ax' 0 = ax 0 → Wst D C KV s nc' ax' am σx' σm' H1 locs1 → W p l e room_1 s m #[Value.ref b] below meth c H1 locs1 (cells + 2) (slots + 162) Q (F0 m 1300 ls [])) : W p l e room_1 s m #[Value.ref b] below meth c H locs cells slots Q (F0 m 636 ls []) := by
  obtain ⟨⟨hx, hb, hml, hown, hts⟩, hK, hX, hXs, hbl, hr, hlk⟩ := id hc
  have hbA : ¬ Ge s b := Nat.not_le.mpr hbl
  obtain ⟨r, σx', σm', f1, f2, f3⟩ := hp nc σx σm a1 hI
  refine lv_aload_n hx hb dL_law_636 rfl (lv_at hl 1 rfl) ?_
  refine lv_aload_n hx hb dL_law_637 rfl (lv_at hl 0 rfl) ?_
  refine lv_iload_n hx hb dL_law_638 rfl (lv_at hl 3 rfl) ?_
  refine lv_iconst (v := 1) hx hb dL_law_639 (by decide) ?_
  refine lv_iadd hx hb dL_law_640 ?_
  refine va_sld hx hb hXs hbl hbA hw.2.2.2 h1 dL_law_641 ?_
  rw [e1]
  refine l_XL (st := []) (lv := [(0, .ref b), (1, .ref (ax 0)), (2, .ref (am 0)), (3, .int x3)]) hc hw [.int a1] (c_X11_rown (l := l) (w := wX D C KV nc ax) ⟨rfl, rfl, hw.1⟩ (Nat.le_refl nc) σx a1 _ f1) yk_X11_rown rfl lm_L_74 rfl ⟨rfl, rfl⟩ rfl hl ⟨by omega, by omega⟩ dL_law_642 (fun H locs hw => ?_)
  refine lv_aload_n hx hb dL_law_645 rfl (lv_at hl 2 rfl) ?_
  refine lv_aload_n hx hb dL_law_646 rfl (lv_at hl 0 rfl) ?_
  refine lv_iload_n hx hb dL_law_647 rfl (lv_at hl 3 rfl) ?_
  refine lv_iconst (v := 1) hx hb dL_law_648 (by decide) ?_
  refine lv_iadd hx hb dL_law_649 ?_
  refine va_sld hx hb hXs hbl hbA hw.2.2.2 h1 dL_law_650 ?_
  rw [e1]
  refine l_ML (st := [.long r]) (lv := [(0, .ref b), (1, .ref (ax 0)), (2, .ref (am 0)), (3, .int x3)]) hc hw [.int a1] (c_X12_rown (l := l) (w := wM D C KV am) ⟨rfl, rfl, Nat.le_refl 29⟩ σm a1 _ f2) yk_X12_rown rfl lm_L_78 rfl ⟨rfl, rfl⟩ rfl hl ⟨by omega, by omega⟩ dL_law_651 (fun H locs hw => ?_)
  refine W.lcmp hx hb dL_law_654 (lv_if_eq (tgt := 1300) hx hb dL_law_655 (by decide) (fun c9 => ?_) (fun c9 => absurd ((lg_cmp_eq r r).mpr rfl) c9))
  refine W.widen (k := cells + 2) (n := slots + 162) (by omega) (by omega) ?_
  exact hnext nc ax σx' σm' H locs f3 rfl hw
set_option maxHeartbeats 4000000 in
set_option maxRecDepth 100000 in
theorem law_14 {p : Program} {l : Launch} {e : Env} {s : State} {m : MethodId} {below : List Frame} {meth : Method} {c : Code} {b L : Nat} {xs : Nat → Int32} {D : va_G} {C : Nat → ClassId} {KV : (Nat → Nat) × (Nat → Nat)} {nc : Nat} {ax am : Nat → Nat} {σx σm : St} {H : Heap} {locs : List Loc} {cells slots : Nat} {Q : State → Prop} {ls : Array Slot} {Inv : Nat → St → St → Prop} {x3 : Int32} (hp : P_more Inv) (hI : Inv nc σx σm) (hc : Lc p s m meth c b L xs D C KV) (hw : Wst D C KV s nc ax am σx σm H locs) (h1 : vp_in (x3 + 1) L) (h2 : vp_in (x3 + 2) L) (h3 : vp_in (x3 + 3) L) (h4 : vp_in (x3 + 4) L) (h5 : vp_in (x3 + 5) L) (a1 a2 a3 a4 a5 : Int32) (e1 : xs (x3 + 1).toNatClampNeg = a1) (e2 : xs (x3 + 2).toNatClampNeg = a2) (e3 : xs (x3 + 3).toNatClampNeg = a3) (e4 : xs (x3 + 4).toNatClampNeg = a4) (e5 : xs (x3 + 5).toNatClampNeg = a5) (hl : lv_has ls 4 [(0, .ref b), (1, .ref (ax 0)), (2, .ref (am 0)), (3, .int x3)]) (hcap : cells + 2 ≤ 600000 ∧ slots + 162 ≤ 7302250) (hnext : ∀ (nc' : Nat) (ax' : Nat → Nat) (σx' σm' : St) (H1 : Heap) (locs1 : List Loc), Inv nc' σx' σm' → ax' 0 = ax 0 → Wst D C KV s nc' ax' am σx' σm' H1 locs1 → W p l e room_1 s m #[Value.ref b] below meth c H1 locs1 (cells + 2) (slots + 162) Q (F0 m 1300 ls [])) : W p l e room_1 s m #[Value.ref b] below meth c H locs cells slots Q (F0 m 660 ls []) := by
  obtain ⟨⟨hx, hb, hml, hown, hts⟩, hK, hX, hXs, hbl, hr, hlk⟩ := id hc
  have hbA : ¬ Ge s b := Nat.not_le.mpr hbl
  obtain ⟨r, σx', σm', f1, f2, f3⟩ := hp nc σx σm a1 a2 hI
  refine lv_aload_n hx hb dL_law_660 rfl (lv_at hl 1 rfl) ?_
  refine lv_aload_n hx hb dL_law_661 rfl (lv_at hl 0 rfl) ?_
  refine lv_iload_n hx hb dL_law_662 rfl (lv_at hl 3 rfl) ?_
  refine lv_iconst (v := 1) hx hb dL_law_663 (by decide) ?_
  refine lv_iadd hx hb dL_law_664 ?_
  refine va_sld hx hb hXs hbl hbA hw.2.2.2 h1 dL_law_665 ?_
  rw [e1]
  refine lv_aload_n hx hb dL_law_666 rfl (lv_at hl 0 rfl) ?_
  refine lv_iload_n hx hb dL_law_667 rfl (lv_at hl 3 rfl) ?_
  refine lv_iconst (v := 2) hx hb dL_law_668 (by decide) ?_
  refine lv_iadd hx hb dL_law_669 ?_
  refine va_sld hx hb hXs hbl hbA hw.2.2.2 h2 dL_law_670 ?_
  rw [e2]
  refine l_XL (st := []) (lv := [(0, .ref b), (1, .ref (ax 0)), (2, .ref (am 0)), (3, .int x3)]) hc hw [.int a1, .int a2] (c_X11_more (l := l) (w := wX D C KV nc ax) ⟨rfl, rfl, hw.1⟩ (Nat.le_refl nc) σx a1 a2 _ f1) yk_X11_more rfl lm_L_79 rfl ⟨rfl, rfl⟩ rfl hl ⟨by omega, by omega⟩ dL_law_671 (fun H locs hw => ?_)
  refine lv_aload_n hx hb dL_law_674 rfl (lv_at hl 2 rfl) ?_
  refine lv_aload_n hx hb dL_law_675 rfl (lv_at hl 0 rfl) ?_
  refine lv_iload_n hx hb dL_law_676 rfl (lv_at hl 3 rfl) ?_
  refine lv_iconst (v := 1) hx hb dL_law_677 (by decide) ?_
  refine lv_iadd hx hb dL_law_678 ?_
  refine va_sld hx hb hXs hbl hbA hw.2.2.2 h1 dL_law_679 ?_
  rw [e1]
  refine lv_aload_n hx hb dL_law_680 rfl (lv_at hl 0 rfl) ?_
  refine lv_iload_n hx hb dL_law_681 rfl (lv_at hl 3 rfl) ?_
  refine lv_iconst (v := 2) hx hb dL_law_682 (by decide) ?_
  refine lv_iadd hx hb dL_law_683 ?_
  refine va_sld hx hb hXs hbl hbA hw.2.2.2 h2 dL_law_684 ?_
  rw [e2]
  refine l_ML (st := [.long r]) (lv := [(0, .ref b), (1, .ref (ax 0)), (2, .ref (am 0)), (3, .int x3)]) hc hw [.int a1, .int a2] (c_X12_more (l := l) (w := wM D C KV am) ⟨rfl, rfl, Nat.le_refl 29⟩ σm a1 a2 _ f2) yk_X12_more rfl lm_L_82 rfl ⟨rfl, rfl⟩ rfl hl ⟨by omega, by omega⟩ dL_law_685 (fun H locs hw => ?_)
  refine W.lcmp hx hb dL_law_688 (lv_if_eq (tgt := 1300) hx hb dL_law_689 (by decide) (fun c9 => ?_) (fun c9 => absurd ((lg_cmp_eq r r).mpr rfl) c9))
  refine W.widen (k := cells + 2) (n := slots + 162) (by omega) (by omega) ?_
  exact hnext nc ax σx' σm' H locs f3 rfl hw
set_option maxHeartbeats 4000000 in
set_option maxRecDepth 100000 in
theorem law_15 {p : Program} {l : Launch} {e : Env} {s : State} {m : MethodId} {below : List Frame} {meth : Method} {c : Code} {b L : Nat} {xs : Nat → Int32} {D : va_G} {C : Nat → ClassId} {KV : (Nat → Nat) × (Nat → Nat)} {nc : Nat} {ax am : Nat → Nat} {σx σm : St} {H : Heap} {locs : List Loc} {cells slots : Nat} {Q : State → Prop} {ls : Array Slot} {Inv : Nat → St → St → Prop} {x3 : Int32} (hp : P_change Inv) (hI : Inv nc σx σm) (hc : Lc p s m meth c b L xs D C KV) (hw : Wst D C KV s nc ax am σx σm H locs) (h1 : vp_in (x3 + 1) L) (h2 : vp_in (x3 + 2) L) (h3 : vp_in (x3 + 3) L) (h4 : vp_in (x3 + 4) L) (h5 : vp_in (x3 + 5) L) (a1 a2 a3 a4 a5 : Int32) (e1 : xs (x3 + 1).toNatClampNeg = a1) (e2 : xs (x3 + 2).toNatClampNeg = a2) (e3 : xs (x3 + 3).toNatClampNeg = a3) (e4 : xs (x3 + 4).toNatClampNeg = a4) (e5 : xs (x3 + 5).toNatClampNeg = a5) (hl : lv_has ls 4 [(0, .ref b), (1, .ref (ax 0)), (2, .ref (am 0)), (3, .int x3)]) (hcap : cells + 2 ≤ 600000 ∧ slots + 162 ≤ 7302250) (hnext : ∀ (nc' : Nat) (ax' : Nat → Nat) (σx' σm' : St) (H1 : Heap) (locs1 : List Loc), Inv nc' σx' σm' → ax' 0 = ax 0 → Wst D C KV s nc' ax' am σx' σm' H1 locs1 → W p l e room_1 s m #[Value.ref b] below meth c H1 locs1 (cells + 2) (slots + 162) Q (F0 m 1300 ls [])) : W p l e room_1 s m #[Value.ref b] below meth c H locs cells slots Q (F0 m 694 ls []) := by
  obtain ⟨⟨hx, hb, hml, hown, hts⟩, hK, hX, hXs, hbl, hr, hlk⟩ := id hc
  have hbA : ¬ Ge s b := Nat.not_le.mpr hbl
  obtain ⟨r, σx', σm', f1, f2, f3⟩ := hp nc σx σm a1 a2 hI
  refine lv_aload_n hx hb dL_law_694 rfl (lv_at hl 1 rfl) ?_
  refine lv_aload_n hx hb dL_law_695 rfl (lv_at hl 0 rfl) ?_
  refine lv_iload_n hx hb dL_law_696 rfl (lv_at hl 3 rfl) ?_
  refine lv_iconst (v := 1) hx hb dL_law_697 (by decide) ?_
  refine lv_iadd hx hb dL_law_698 ?_
  refine va_sld hx hb hXs hbl hbA hw.2.2.2 h1 dL_law_699 ?_
  rw [e1]
  refine lv_aload_n hx hb dL_law_700 rfl (lv_at hl 0 rfl) ?_
  refine lv_iload_n hx hb dL_law_701 rfl (lv_at hl 3 rfl) ?_
  refine lv_iconst (v := 2) hx hb dL_law_702 (by decide) ?_
  refine lv_iadd hx hb dL_law_703 ?_
  refine va_sld hx hb hXs hbl hbA hw.2.2.2 h2 dL_law_704 ?_
  rw [e2]
  refine l_XL (st := []) (lv := [(0, .ref b), (1, .ref (ax 0)), (2, .ref (am 0)), (3, .int x3)]) hc hw [.int a1, .int a2] (c_X11_change (l := l) (w := wX D C KV nc ax) ⟨rfl, rfl, hw.1⟩ (Nat.le_refl nc) σx a1 a2 _ f1) yk_X11_change rfl lm_L_83 rfl ⟨rfl, rfl⟩ rfl hl ⟨by omega, by omega⟩ dL_law_705 (fun H locs hw => ?_)
  refine lv_aload_n hx hb dL_law_708 rfl (lv_at hl 2 rfl) ?_
  refine lv_aload_n hx hb dL_law_709 rfl (lv_at hl 0 rfl) ?_
  refine lv_iload_n hx hb dL_law_710 rfl (lv_at hl 3 rfl) ?_
  refine lv_iconst (v := 1) hx hb dL_law_711 (by decide) ?_
  refine lv_iadd hx hb dL_law_712 ?_
  refine va_sld hx hb hXs hbl hbA hw.2.2.2 h1 dL_law_713 ?_
  rw [e1]
  refine lv_aload_n hx hb dL_law_714 rfl (lv_at hl 0 rfl) ?_
  refine lv_iload_n hx hb dL_law_715 rfl (lv_at hl 3 rfl) ?_
  refine lv_iconst (v := 2) hx hb dL_law_716 (by decide) ?_
  refine lv_iadd hx hb dL_law_717 ?_
  refine va_sld hx hb hXs hbl hbA hw.2.2.2 h2 dL_law_718 ?_
  rw [e2]
  refine l_ML (st := [.long r]) (lv := [(0, .ref b), (1, .ref (ax 0)), (2, .ref (am 0)), (3, .int x3)]) hc hw [.int a1, .int a2] (c_X12_change (l := l) (w := wM D C KV am) ⟨rfl, rfl, Nat.le_refl 29⟩ σm a1 a2 _ f2) yk_X12_change rfl lm_L_86 rfl ⟨rfl, rfl⟩ rfl hl ⟨by omega, by omega⟩ dL_law_719 (fun H locs hw => ?_)
  refine W.lcmp hx hb dL_law_722 (lv_if_eq (tgt := 1300) hx hb dL_law_723 (by decide) (fun c9 => ?_) (fun c9 => absurd ((lg_cmp_eq r r).mpr rfl) c9))
  refine W.widen (k := cells + 2) (n := slots + 162) (by omega) (by omega) ?_
  exact hnext nc ax σx' σm' H locs f3 rfl hw
set_option maxHeartbeats 4000000 in
set_option maxRecDepth 100000 in
theorem law_16 {p : Program} {l : Launch} {e : Env} {s : State} {m : MethodId} {below : List Frame} {meth : Method} {c : Code} {b L : Nat} {xs : Nat → Int32} {D : va_G} {C : Nat → ClassId} {KV : (Nat → Nat) × (Nat → Nat)} {nc : Nat} {ax am : Nat → Nat} {σx σm : St} {H : Heap} {locs : List Loc} {cells slots : Nat} {Q : State → Prop} {ls : Array Slot} {Inv : Nat → St → St → Prop} {x3 : Int32} (hp : P_order Inv) (hI : Inv nc σx σm) (hc : Lc p s m meth c b L xs D C KV) (hw : Wst D C KV s nc ax am σx σm H locs) (h1 : vp_in (x3 + 1) L) (h2 : vp_in (x3 + 2) L) (h3 : vp_in (x3 + 3) L) (h4 : vp_in (x3 + 4) L) (h5 : vp_in (x3 + 5) L) (a1 a2 a3 a4 a5 : Int32) (e1 : xs (x3 + 1).toNatClampNeg = a1) (e2 : xs (x3 + 2).toNatClampNeg = a2) (e3 : xs (x3 + 3).toNatClampNeg = a3) (e4 : xs (x3 + 4).toNatClampNeg = a4) (e5 : xs (x3 + 5).toNatClampNeg = a5) (hl : lv_has ls 4 [(0, .ref b), (1, .ref (ax 0)), (2, .ref (am 0)), (3, .int x3)]) (hcap : cells + 2 ≤ 600000 ∧ slots + 162 ≤ 7302250) (hnext : ∀ (nc' : Nat) (ax' : Nat → Nat) (σx' σm' : St) (H1 : Heap) (locs1 : List Loc), Inv nc' σx' σm' → ax' 0 = ax 0 → Wst D C KV s nc' ax' am σx' σm' H1 locs1 → W p l e room_1 s m #[Value.ref b] below meth c H1 locs1 (cells + 2) (slots + 162) Q (F0 m 1300 ls [])) : W p l e room_1 s m #[Value.ref b] below meth c H locs cells slots Q (F0 m 728 ls []) := by
  obtain ⟨⟨hx, hb, hml, hown, hts⟩, hK, hX, hXs, hbl, hr, hlk⟩ := id hc
  have hbA : ¬ Ge s b := Nat.not_le.mpr hbl
  obtain ⟨r, σx', σm', f1, f2, f3⟩ := hp nc σx σm a1 hI
  refine lv_aload_n hx hb dL_law_728 rfl (lv_at hl 1 rfl) ?_
  refine lv_aload_n hx hb dL_law_729 rfl (lv_at hl 0 rfl) ?_
  refine lv_iload_n hx hb dL_law_730 rfl (lv_at hl 3 rfl) ?_
  refine lv_iconst (v := 1) hx hb dL_law_731 (by decide) ?_
  refine lv_iadd hx hb dL_law_732 ?_
  refine va_sld hx hb hXs hbl hbA hw.2.2.2 h1 dL_law_733 ?_
  rw [e1]
  refine l_XL (st := []) (lv := [(0, .ref b), (1, .ref (ax 0)), (2, .ref (am 0)), (3, .int x3)]) hc hw [.int a1] (c_X11_order (l := l) (w := wX D C KV nc ax) ⟨rfl, rfl, hw.1⟩ (Nat.le_refl nc) σx a1 _ f1) yk_X11_order rfl lm_L_87 rfl ⟨rfl, rfl⟩ rfl hl ⟨by omega, by omega⟩ dL_law_734 (fun H locs hw => ?_)
  refine lv_aload_n hx hb dL_law_737 rfl (lv_at hl 2 rfl) ?_
  refine lv_aload_n hx hb dL_law_738 rfl (lv_at hl 0 rfl) ?_
  refine lv_iload_n hx hb dL_law_739 rfl (lv_at hl 3 rfl) ?_
  refine lv_iconst (v := 1) hx hb dL_law_740 (by decide) ?_
  refine lv_iadd hx hb dL_law_741 ?_
  refine va_sld hx hb hXs hbl hbA hw.2.2.2 h1 dL_law_742 ?_
  rw [e1]
  refine l_ML (st := [.long r]) (lv := [(0, .ref b), (1, .ref (ax 0)), (2, .ref (am 0)), (3, .int x3)]) hc hw [.int a1] (c_X12_order (l := l) (w := wM D C KV am) ⟨rfl, rfl, Nat.le_refl 29⟩ σm a1 _ f2) yk_X12_order rfl lm_L_90 rfl ⟨rfl, rfl⟩ rfl hl ⟨by omega, by omega⟩ dL_law_743 (fun H locs hw => ?_)
  refine W.lcmp hx hb dL_law_746 (lv_if_eq (tgt := 1300) hx hb dL_law_747 (by decide) (fun c9 => ?_) (fun c9 => absurd ((lg_cmp_eq r r).mpr rfl) c9))
  refine W.widen (k := cells + 2) (n := slots + 162) (by omega) (by omega) ?_
  exact hnext nc ax σx' σm' H locs f3 rfl hw
set_option maxHeartbeats 4000000 in
set_option maxRecDepth 100000 in
theorem law_17 {p : Program} {l : Launch} {e : Env} {s : State} {m : MethodId} {below : List Frame} {meth : Method} {c : Code} {b L : Nat} {xs : Nat → Int32} {D : va_G} {C : Nat → ClassId} {KV : (Nat → Nat) × (Nat → Nat)} {nc : Nat} {ax am : Nat → Nat} {σx σm : St} {H : Heap} {locs : List Loc} {cells slots : Nat} {Q : State → Prop} {ls : Array Slot} {Inv : Nat → St → St → Prop} {x3 : Int32} (hp : P_spurts Inv) (hI : Inv nc σx σm) (hc : Lc p s m meth c b L xs D C KV) (hw : Wst D C KV s nc ax am σx σm H locs) (h1 : vp_in (x3 + 1) L) (h2 : vp_in (x3 + 2) L) (h3 : vp_in (x3 + 3) L) (h4 : vp_in (x3 + 4) L) (h5 : vp_in (x3 + 5) L) (a1 a2 a3 a4 a5 : Int32) (e1 : xs (x3 + 1).toNatClampNeg = a1) (e2 : xs (x3 + 2).toNatClampNeg = a2) (e3 : xs (x3 + 3).toNatClampNeg = a3) (e4 : xs (x3 + 4).toNatClampNeg = a4) (e5 : xs (x3 + 5).toNatClampNeg = a5) (hl : lv_has ls 4 [(0, .ref b), (1, .ref (ax 0)), (2, .ref (am 0)), (3, .int x3)]) (hcap : cells + 2 ≤ 600000 ∧ slots + 162 ≤ 7302250) (hnext : ∀ (nc' : Nat) (ax' : Nat → Nat) (σx' σm' : St) (H1 : Heap) (locs1 : List Loc), Inv nc' σx' σm' → ax' 0 = ax 0 → Wst D C KV s nc' ax' am σx' σm' H1 locs1 → W p l e room_1 s m #[Value.ref b] below meth c H1 locs1 (cells + 2) (slots + 162) Q (F0 m 1300 ls [])) : W p l e room_1 s m #[Value.ref b] below meth c H locs cells slots Q (F0 m 752 ls []) := by
  obtain ⟨⟨hx, hb, hml, hown, hts⟩, hK, hX, hXs, hbl, hr, hlk⟩ := id hc
  have hbA : ¬ Ge s b := Nat.not_le.mpr hbl
  obtain ⟨r, σx', σm', f1, f2, f3⟩ := hp nc σx σm a1 a2 a3 hI
  refine lv_aload_n hx hb dL_law_752 rfl (lv_at hl 1 rfl) ?_
  refine lv_aload_n hx hb dL_law_753 rfl (lv_at hl 0 rfl) ?_
  refine lv_iload_n hx hb dL_law_754 rfl (lv_at hl 3 rfl) ?_
  refine lv_iconst (v := 1) hx hb dL_law_755 (by decide) ?_
  refine lv_iadd hx hb dL_law_756 ?_
  refine va_sld hx hb hXs hbl hbA hw.2.2.2 h1 dL_law_757 ?_
  rw [e1]
  refine lv_aload_n hx hb dL_law_758 rfl (lv_at hl 0 rfl) ?_
  refine lv_iload_n hx hb dL_law_759 rfl (lv_at hl 3 rfl) ?_
  refine lv_iconst (v := 2) hx hb dL_law_760 (by decide) ?_
  refine lv_iadd hx hb dL_law_761 ?_
  refine va_sld hx hb hXs hbl hbA hw.2.2.2 h2 dL_law_762 ?_
  rw [e2]
  refine lv_aload_n hx hb dL_law_763 rfl (lv_at hl 0 rfl) ?_
  refine lv_iload_n hx hb dL_law_764 rfl (lv_at hl 3 rfl) ?_
  refine lv_iconst (v := 3) hx hb dL_law_765 (by decide) ?_
  refine lv_iadd hx hb dL_law_766 ?_
  refine va_sld hx hb hXs hbl hbA hw.2.2.2 h3 dL_law_767 ?_
  rw [e3]
  refine l_XL (st := []) (lv := [(0, .ref b), (1, .ref (ax 0)), (2, .ref (am 0)), (3, .int x3)]) hc hw [.int a1, .int a2, .int a3] (c_X11_spurts (l := l) (w := wX D C KV nc ax) ⟨rfl, rfl, hw.1⟩ (Nat.le_refl nc) σx a1 a2 a3 _ f1) yk_X11_spurts rfl lm_L_91 rfl ⟨rfl, rfl⟩ rfl hl ⟨by omega, by omega⟩ dL_law_768 (fun H locs hw => ?_)
  refine lv_aload_n hx hb dL_law_771 rfl (lv_at hl 2 rfl) ?_
  refine lv_aload_n hx hb dL_law_772 rfl (lv_at hl 0 rfl) ?_
  refine lv_iload_n hx hb dL_law_773 rfl (lv_at hl 3 rfl) ?_
  refine lv_iconst (v := 1) hx hb dL_law_774 (by decide) ?_
  refine lv_iadd hx hb dL_law_775 ?_
  refine va_sld hx hb hXs hbl hbA hw.2.2.2 h1 dL_law_776 ?_
  rw [e1]
  refine lv_aload_n hx hb dL_law_777 rfl (lv_at hl 0 rfl) ?_
  refine lv_iload_n hx hb dL_law_778 rfl (lv_at hl 3 rfl) ?_
  refine lv_iconst (v := 2) hx hb dL_law_779 (by decide) ?_
  refine lv_iadd hx hb dL_law_780 ?_
  refine va_sld hx hb hXs hbl hbA hw.2.2.2 h2 dL_law_781 ?_
  rw [e2]
  refine lv_aload_n hx hb dL_law_782 rfl (lv_at hl 0 rfl) ?_
  refine lv_iload_n hx hb dL_law_783 rfl (lv_at hl 3 rfl) ?_
  refine lv_iconst (v := 3) hx hb dL_law_784 (by decide) ?_
  refine lv_iadd hx hb dL_law_785 ?_
  refine va_sld hx hb hXs hbl hbA hw.2.2.2 h3 dL_law_786 ?_
  rw [e3]
  refine l_ML (st := [.long r]) (lv := [(0, .ref b), (1, .ref (ax 0)), (2, .ref (am 0)), (3, .int x3)]) hc hw [.int a1, .int a2, .int a3] (c_X12_spurts (l := l) (w := wM D C KV am) ⟨rfl, rfl, Nat.le_refl 29⟩ σm a1 a2 a3 _ f2) yk_X12_spurts rfl lm_L_95 rfl ⟨rfl, rfl⟩ rfl hl ⟨by omega, by omega⟩ dL_law_787 (fun H locs hw => ?_)
  refine W.lcmp hx hb dL_law_790 (lv_if_eq (tgt := 1300) hx hb dL_law_791 (by decide) (fun c9 => ?_) (fun c9 => absurd ((lg_cmp_eq r r).mpr rfl) c9))
  refine W.widen (k := cells + 2) (n := slots + 162) (by omega) (by omega) ?_
  exact hnext nc ax σx' σm' H locs f3 rfl hw
set_option maxHeartbeats 4000000 in
set_option maxRecDepth 100000 in
theorem law_18 {p : Program} {l : Launch} {e : Env} {s : State} {m : MethodId} {below : List Frame} {meth : Method} {c : Code} {b L : Nat} {xs : Nat → Int32} {D : va_G} {C : Nat → ClassId} {KV : (Nat → Nat) × (Nat → Nat)} {nc : Nat} {ax am : Nat → Nat} {σx σm : St} {H : Heap} {locs : List Loc} {cells slots : Nat} {Q : State → Prop} {ls : Array Slot} {Inv : Nat → St → St → Prop} {x3 : Int32} (hp : P_piece Inv) (hI : Inv nc σx σm) (hc : Lc p s m meth c b L xs D C KV) (hw : Wst D C KV s nc ax am σx σm H locs) (h1 : vp_in (x3 + 1) L) (h2 : vp_in (x3 + 2) L) (h3 : vp_in (x3 + 3) L) (h4 : vp_in (x3 + 4) L) (h5 : vp_in (x3 + 5) L) (a1 a2 a3 a4 a5 : Int32) (e1 : xs (x3 + 1).toNatClampNeg = a1) (e2 : xs (x3 + 2).toNatClampNeg = a2) (e3 : xs (x3 + 3).toNatClampNeg = a3) (e4 : xs (x3 + 4).toNatClampNeg = a4) (e5 : xs (x3 + 5).toNatClampNeg = a5) (hl : lv_has ls 4 [(0, .ref b), (1, .ref (ax 0)), (2, .ref (am 0)), (3, .int x3)]) (hcap : cells + 2 ≤ 600000 ∧ slots + 162 ≤ 7302250) (hnext : ∀ (nc' : Nat) (ax' : Nat → Nat) (σx' σm' : St) (H1 : Heap) (locs1 : List Loc), Inv nc' σx' σm' → ax' 0 = ax 0 → Wst D C KV s nc' ax' am σx' σm' H1 locs1 → W p l e room_1 s m #[Value.ref b] below meth c H1 locs1 (cells + 2) (slots + 162) Q (F0 m 1300 ls [])) : W p l e room_1 s m #[Value.ref b] below meth c H locs cells slots Q (F0 m 796 ls []) := by
  obtain ⟨⟨hx, hb, hml, hown, hts⟩, hK, hX, hXs, hbl, hr, hlk⟩ := id hc
  have hbA : ¬ Ge s b := Nat.not_le.mpr hbl
  obtain ⟨r, σx', σm', f1, f2, f3⟩ := hp nc σx σm a1 a2 a3 a4 hI
  refine lv_aload_n hx hb dL_law_796 rfl (lv_at hl 1 rfl) ?_
  refine lv_aload_n hx hb dL_law_797 rfl (lv_at hl 0 rfl) ?_
  refine lv_iload_n hx hb dL_law_798 rfl (lv_at hl 3 rfl) ?_
  refine lv_iconst (v := 1) hx hb dL_law_799 (by decide) ?_
  refine lv_iadd hx hb dL_law_800 ?_
  refine va_sld hx hb hXs hbl hbA hw.2.2.2 h1 dL_law_801 ?_
  rw [e1]
  refine lv_aload_n hx hb dL_law_802 rfl (lv_at hl 0 rfl) ?_
  refine lv_iload_n hx hb dL_law_803 rfl (lv_at hl 3 rfl) ?_
  refine lv_iconst (v := 2) hx hb dL_law_804 (by decide) ?_
  refine lv_iadd hx hb dL_law_805 ?_
  refine va_sld hx hb hXs hbl hbA hw.2.2.2 h2 dL_law_806 ?_
  rw [e2]
  refine lv_aload_n hx hb dL_law_807 rfl (lv_at hl 0 rfl) ?_
  refine lv_iload_n hx hb dL_law_808 rfl (lv_at hl 3 rfl) ?_
  refine lv_iconst (v := 3) hx hb dL_law_809 (by decide) ?_
  refine lv_iadd hx hb dL_law_810 ?_
  refine va_sld hx hb hXs hbl hbA hw.2.2.2 h3 dL_law_811 ?_
  rw [e3]
  refine lv_aload_n hx hb dL_law_812 rfl (lv_at hl 0 rfl) ?_
  refine lv_iload_n hx hb dL_law_813 rfl (lv_at hl 3 rfl) ?_
  refine lv_iconst (v := 4) hx hb dL_law_814 (by decide) ?_
  refine lv_iadd hx hb dL_law_815 ?_
  refine va_sld hx hb hXs hbl hbA hw.2.2.2 h4 dL_law_816 ?_
  rw [e4]
  refine l_XI (st := []) (lv := [(0, .ref b), (1, .ref (ax 0)), (2, .ref (am 0)), (3, .int x3)]) hc hw [.int a1, .int a2, .int a3, .int a4] (c_X11_piece (l := l) (w := wX D C KV nc ax) ⟨rfl, rfl, hw.1⟩ σx a1 a2 a3 a4 _ f1) yk_X11_piece rfl lm_L_96 rfl ⟨rfl, rfl⟩ rfl hl ⟨by omega, by omega⟩ dL_law_817 (fun H locs hw => ?_)
  refine lv_aload_n hx hb dL_law_820 rfl (lv_at hl 2 rfl) ?_
  refine lv_aload_n hx hb dL_law_821 rfl (lv_at hl 0 rfl) ?_
  refine lv_iload_n hx hb dL_law_822 rfl (lv_at hl 3 rfl) ?_
  refine lv_iconst (v := 1) hx hb dL_law_823 (by decide) ?_
  refine lv_iadd hx hb dL_law_824 ?_
  refine va_sld hx hb hXs hbl hbA hw.2.2.2 h1 dL_law_825 ?_
  rw [e1]
  refine lv_aload_n hx hb dL_law_826 rfl (lv_at hl 0 rfl) ?_
  refine lv_iload_n hx hb dL_law_827 rfl (lv_at hl 3 rfl) ?_
  refine lv_iconst (v := 2) hx hb dL_law_828 (by decide) ?_
  refine lv_iadd hx hb dL_law_829 ?_
  refine va_sld hx hb hXs hbl hbA hw.2.2.2 h2 dL_law_830 ?_
  rw [e2]
  refine lv_aload_n hx hb dL_law_831 rfl (lv_at hl 0 rfl) ?_
  refine lv_iload_n hx hb dL_law_832 rfl (lv_at hl 3 rfl) ?_
  refine lv_iconst (v := 3) hx hb dL_law_833 (by decide) ?_
  refine lv_iadd hx hb dL_law_834 ?_
  refine va_sld hx hb hXs hbl hbA hw.2.2.2 h3 dL_law_835 ?_
  rw [e3]
  refine lv_aload_n hx hb dL_law_836 rfl (lv_at hl 0 rfl) ?_
  refine lv_iload_n hx hb dL_law_837 rfl (lv_at hl 3 rfl) ?_
  refine lv_iconst (v := 4) hx hb dL_law_838 (by decide) ?_
  refine lv_iadd hx hb dL_law_839 ?_
  refine va_sld hx hb hXs hbl hbA hw.2.2.2 h4 dL_law_840 ?_
  rw [e4]
  refine l_MI (st := [.int r]) (lv := [(0, .ref b), (1, .ref (ax 0)), (2, .ref (am 0)), (3, .int x3)]) hc hw [.int a1, .int a2, .int a3, .int a4] (c_X12_piece (l := l) (w := wM D C KV am) ⟨rfl, rfl, Nat.le_refl 29⟩ σm a1 a2 a3 a4 _ f2) yk_X12_piece rfl lm_L_99 rfl ⟨rfl, rfl⟩ rfl hl ⟨by omega, by omega⟩ dL_law_841 (fun H locs hw => ?_)
  refine lv_icmp_eq (tgt := 1300) hx hb dL_law_844 (by decide) (fun c9 => ?_) (fun c9 => absurd rfl c9)
  refine W.widen (k := cells + 2) (n := slots + 162) (by omega) (by omega) ?_
  exact hnext nc ax σx' σm' H locs f3 rfl hw
set_option maxHeartbeats 4000000 in
set_option maxRecDepth 100000 in
theorem law_19 {p : Program} {l : Launch} {e : Env} {s : State} {m : MethodId} {below : List Frame} {meth : Method} {c : Code} {b L : Nat} {xs : Nat → Int32} {D : va_G} {C : Nat → ClassId} {KV : (Nat → Nat) × (Nat → Nat)} {nc : Nat} {ax am : Nat → Nat} {σx σm : St} {H : Heap} {locs : List Loc} {cells slots : Nat} {Q : State → Prop} {ls : Array Slot} {Inv : Nat → St → St → Prop} {x3 : Int32} (hp : P_worth Inv) (hI : Inv nc σx σm) (hc : Lc p s m meth c b L xs D C KV) (hw : Wst D C KV s nc ax am σx σm H locs) (h1 : vp_in (x3 + 1) L) (h2 : vp_in (x3 + 2) L) (h3 : vp_in (x3 + 3) L) (h4 : vp_in (x3 + 4) L) (h5 : vp_in (x3 + 5) L) (a1 a2 a3 a4 a5 : Int32) (e1 : xs (x3 + 1).toNatClampNeg = a1) (e2 : xs (x3 + 2).toNatClampNeg = a2) (e3 : xs (x3 + 3).toNatClampNeg = a3) (e4 : xs (x3 + 4).toNatClampNeg = a4) (e5 : xs (x3 + 5).toNatClampNeg = a5) (hl : lv_has ls 4 [(0, .ref b), (1, .ref (ax 0)), (2, .ref (am 0)), (3, .int x3)]) (hcap : cells + 2 ≤ 600000 ∧ slots + 162 ≤ 7302250) (hnext : ∀ (nc' : Nat) (ax' : Nat → Nat) (σx' σm' : St) (H1 : Heap) (locs1 : List Loc), Inv nc' σx' σm' → ax' 0 = ax 0 → Wst D C KV s nc' ax' am σx' σm' H1 locs1 → W p l e room_1 s m #[Value.ref b] below meth c H1 locs1 (cells + 2) (slots + 162) Q (F0 m 1300 ls [])) : W p l e room_1 s m #[Value.ref b] below meth c H locs cells slots Q (F0 m 849 ls []) := by
  obtain ⟨⟨hx, hb, hml, hown, hts⟩, hK, hX, hXs, hbl, hr, hlk⟩ := id hc
  have hbA : ¬ Ge s b := Nat.not_le.mpr hbl
  obtain ⟨r, σx', σm', f1, f2, f3⟩ := hp nc σx σm a1 a2 a3 a4 hI
  refine lv_aload_n hx hb dL_law_849 rfl (lv_at hl 1 rfl) ?_
  refine lv_aload_n hx hb dL_law_850 rfl (lv_at hl 0 rfl) ?_
  refine lv_iload_n hx hb dL_law_851 rfl (lv_at hl 3 rfl) ?_
  refine lv_iconst (v := 1) hx hb dL_law_852 (by decide) ?_
  refine lv_iadd hx hb dL_law_853 ?_
  refine va_sld hx hb hXs hbl hbA hw.2.2.2 h1 dL_law_854 ?_
  rw [e1]
  refine lv_aload_n hx hb dL_law_855 rfl (lv_at hl 0 rfl) ?_
  refine lv_iload_n hx hb dL_law_856 rfl (lv_at hl 3 rfl) ?_
  refine lv_iconst (v := 2) hx hb dL_law_857 (by decide) ?_
  refine lv_iadd hx hb dL_law_858 ?_
  refine va_sld hx hb hXs hbl hbA hw.2.2.2 h2 dL_law_859 ?_
  rw [e2]
  refine lv_aload_n hx hb dL_law_860 rfl (lv_at hl 0 rfl) ?_
  refine lv_iload_n hx hb dL_law_861 rfl (lv_at hl 3 rfl) ?_
  refine lv_iconst (v := 3) hx hb dL_law_862 (by decide) ?_
  refine lv_iadd hx hb dL_law_863 ?_
  refine va_sld hx hb hXs hbl hbA hw.2.2.2 h3 dL_law_864 ?_
  rw [e3]
  refine lv_aload_n hx hb dL_law_865 rfl (lv_at hl 0 rfl) ?_
  refine lv_iload_n hx hb dL_law_866 rfl (lv_at hl 3 rfl) ?_
  refine lv_iconst (v := 4) hx hb dL_law_867 (by decide) ?_
  refine lv_iadd hx hb dL_law_868 ?_
  refine va_sld hx hb hXs hbl hbA hw.2.2.2 h4 dL_law_869 ?_
  rw [e4]
  refine l_XL (st := []) (lv := [(0, .ref b), (1, .ref (ax 0)), (2, .ref (am 0)), (3, .int x3)]) hc hw [.int a1, .int a2, .int a3, .int a4] (c_X11_worth (l := l) (w := wX D C KV nc ax) ⟨rfl, rfl, hw.1⟩ σx a1 a2 a3 a4 _ f1) yk_X11_worth rfl lm_L_100 rfl ⟨rfl, rfl⟩ rfl hl ⟨by omega, by omega⟩ dL_law_870 (fun H locs hw => ?_)
  refine lv_aload_n hx hb dL_law_873 rfl (lv_at hl 2 rfl) ?_
  refine lv_aload_n hx hb dL_law_874 rfl (lv_at hl 0 rfl) ?_
  refine lv_iload_n hx hb dL_law_875 rfl (lv_at hl 3 rfl) ?_
  refine lv_iconst (v := 1) hx hb dL_law_876 (by decide) ?_
  refine lv_iadd hx hb dL_law_877 ?_
  refine va_sld hx hb hXs hbl hbA hw.2.2.2 h1 dL_law_878 ?_
  rw [e1]
  refine lv_aload_n hx hb dL_law_879 rfl (lv_at hl 0 rfl) ?_
  refine lv_iload_n hx hb dL_law_880 rfl (lv_at hl 3 rfl) ?_
  refine lv_iconst (v := 2) hx hb dL_law_881 (by decide) ?_
  refine lv_iadd hx hb dL_law_882 ?_
  refine va_sld hx hb hXs hbl hbA hw.2.2.2 h2 dL_law_883 ?_
  rw [e2]
  refine lv_aload_n hx hb dL_law_884 rfl (lv_at hl 0 rfl) ?_
  refine lv_iload_n hx hb dL_law_885 rfl (lv_at hl 3 rfl) ?_
  refine lv_iconst (v := 3) hx hb dL_law_886 (by decide) ?_
  refine lv_iadd hx hb dL_law_887 ?_
  refine va_sld hx hb hXs hbl hbA hw.2.2.2 h3 dL_law_888 ?_
  rw [e3]
  refine lv_aload_n hx hb dL_law_889 rfl (lv_at hl 0 rfl) ?_
  refine lv_iload_n hx hb dL_law_890 rfl (lv_at hl 3 rfl) ?_
  refine lv_iconst (v := 4) hx hb dL_law_891 (by decide) ?_
  refine lv_iadd hx hb dL_law_892 ?_
  refine va_sld hx hb hXs hbl hbA hw.2.2.2 h4 dL_law_893 ?_
  rw [e4]
  refine l_ML (st := [.long r]) (lv := [(0, .ref b), (1, .ref (ax 0)), (2, .ref (am 0)), (3, .int x3)]) hc hw [.int a1, .int a2, .int a3, .int a4] (c_X12_worth (l := l) (w := wM D C KV am) ⟨rfl, rfl, Nat.le_refl 29⟩ σm a1 a2 a3 a4 _ f2) yk_X12_worth rfl lm_L_104 rfl ⟨rfl, rfl⟩ rfl hl ⟨by omega, by omega⟩ dL_law_894 (fun H locs hw => ?_)
  refine W.lcmp hx hb dL_law_897 (lv_if_eq (tgt := 1300) hx hb dL_law_898 (by decide) (fun c9 => ?_) (fun c9 => absurd ((lg_cmp_eq r r).mpr rfl) c9))
  refine W.widen (k := cells + 2) (n := slots + 162) (by omega) (by omega) ?_
  exact hnext nc ax σx' σm' H locs f3 rfl hw
set_option maxHeartbeats 4000000 in
set_option maxRecDepth 100000 in
theorem law_20 {p : Program} {l : Launch} {e : Env} {s : State} {m : MethodId} {below : List Frame} {meth : Method} {c : Code} {b L : Nat} {xs : Nat → Int32} {D : va_G} {C : Nat → ClassId} {KV : (Nat → Nat) × (Nat → Nat)} {nc : Nat} {ax am : Nat → Nat} {σx σm : St} {H : Heap} {locs : List Loc} {cells slots : Nat} {Q : State → Prop} {ls : Array Slot} {Inv : Nat → St → St → Prop} {x3 : Int32} (hp : P_go Inv) (hI : Inv nc σx σm) (hc : Lc p s m meth c b L xs D C KV) (hw : Wst D C KV s nc ax am σx σm H locs) (h1 : vp_in (x3 + 1) L) (h2 : vp_in (x3 + 2) L) (h3 : vp_in (x3 + 3) L) (h4 : vp_in (x3 + 4) L) (h5 : vp_in (x3 + 5) L) (a1 a2 a3 a4 a5 : Int32) (e1 : xs (x3 + 1).toNatClampNeg = a1) (e2 : xs (x3 + 2).toNatClampNeg = a2) (e3 : xs (x3 + 3).toNatClampNeg = a3) (e4 : xs (x3 + 4).toNatClampNeg = a4) (e5 : xs (x3 + 5).toNatClampNeg = a5) (hl : lv_has ls 4 [(0, .ref b), (1, .ref (ax 0)), (2, .ref (am 0)), (3, .int x3)]) (hcap : cells + 2 ≤ 600000 ∧ slots + 162 ≤ 7302250) (hnext : ∀ (nc' : Nat) (ax' : Nat → Nat) (σx' σm' : St) (H1 : Heap) (locs1 : List Loc), Inv nc' σx' σm' → ax' 0 = ax 0 → Wst D C KV s nc' ax' am σx' σm' H1 locs1 → W p l e room_1 s m #[Value.ref b] below meth c H1 locs1 (cells + 2) (slots + 162) Q (F0 m 1300 ls [])) : W p l e room_1 s m #[Value.ref b] below meth c H locs cells slots Q (F0 m 903 ls []) := by
  obtain ⟨⟨hx, hb, hml, hown, hts⟩, hK, hX, hXs, hbl, hr, hlk⟩ := id hc
  have hbA : ¬ Ge s b := Nat.not_le.mpr hbl
  obtain ⟨r, σx', σm', f1, f2, f3⟩ := hp nc σx σm a1 hI
  refine lv_aload_n hx hb dL_law_903 rfl (lv_at hl 1 rfl) ?_
  refine lv_aload_n hx hb dL_law_904 rfl (lv_at hl 0 rfl) ?_
  refine lv_iload_n hx hb dL_law_905 rfl (lv_at hl 3 rfl) ?_
  refine lv_iconst (v := 1) hx hb dL_law_906 (by decide) ?_
  refine lv_iadd hx hb dL_law_907 ?_
  refine va_sld hx hb hXs hbl hbA hw.2.2.2 h1 dL_law_908 ?_
  rw [e1]
  refine l_XI (st := []) (lv := [(0, .ref b), (1, .ref (ax 0)), (2, .ref (am 0)), (3, .int x3)]) hc hw [.int a1] (c_X11_go (l := l) (w := wX D C KV nc ax) ⟨rfl, rfl, hw.1⟩ σx a1 _ f1) yk_X11_go rfl lm_L_105 rfl ⟨rfl, rfl⟩ rfl hl ⟨by omega, by omega⟩ dL_law_909 (fun H locs hw => ?_)
  refine lv_aload_n hx hb dL_law_912 rfl (lv_at hl 2 rfl) ?_
  refine lv_aload_n hx hb dL_law_913 rfl (lv_at hl 0 rfl) ?_
  refine lv_iload_n hx hb dL_law_914 rfl (lv_at hl 3 rfl) ?_
  refine lv_iconst (v := 1) hx hb dL_law_915 (by decide) ?_
  refine lv_iadd hx hb dL_law_916 ?_
  refine va_sld hx hb hXs hbl hbA hw.2.2.2 h1 dL_law_917 ?_
  rw [e1]
  refine l_MI (st := [.int r]) (lv := [(0, .ref b), (1, .ref (ax 0)), (2, .ref (am 0)), (3, .int x3)]) hc hw [.int a1] (c_X12_go (l := l) (w := wM D C KV am) ⟨rfl, rfl, Nat.le_refl 29⟩ σm a1 _ f2) yk_X12_go rfl lm_L_108 rfl ⟨rfl, rfl⟩ rfl hl ⟨by omega, by omega⟩ dL_law_918 (fun H locs hw => ?_)
  refine lv_icmp_eq (tgt := 1300) hx hb dL_law_921 (by decide) (fun c9 => ?_) (fun c9 => absurd rfl c9)
  refine W.widen (k := cells + 2) (n := slots + 162) (by omega) (by omega) ?_
  exact hnext nc ax σx' σm' H locs f3 rfl hw
set_option maxHeartbeats 4000000 in
set_option maxRecDepth 100000 in
theorem law_21 {p : Program} {l : Launch} {e : Env} {s : State} {m : MethodId} {below : List Frame} {meth : Method} {c : Code} {b L : Nat} {xs : Nat → Int32} {D : va_G} {C : Nat → ClassId} {KV : (Nat → Nat) × (Nat → Nat)} {nc : Nat} {ax am : Nat → Nat} {σx σm : St} {H : Heap} {locs : List Loc} {cells slots : Nat} {Q : State → Prop} {ls : Array Slot} {Inv : Nat → St → St → Prop} {x3 : Int32} (hp : P_race Inv) (hI : Inv nc σx σm) (hc : Lc p s m meth c b L xs D C KV) (hw : Wst D C KV s nc ax am σx σm H locs) (h1 : vp_in (x3 + 1) L) (h2 : vp_in (x3 + 2) L) (h3 : vp_in (x3 + 3) L) (h4 : vp_in (x3 + 4) L) (h5 : vp_in (x3 + 5) L) (a1 a2 a3 a4 a5 : Int32) (e1 : xs (x3 + 1).toNatClampNeg = a1) (e2 : xs (x3 + 2).toNatClampNeg = a2) (e3 : xs (x3 + 3).toNatClampNeg = a3) (e4 : xs (x3 + 4).toNatClampNeg = a4) (e5 : xs (x3 + 5).toNatClampNeg = a5) (hl : lv_has ls 4 [(0, .ref b), (1, .ref (ax 0)), (2, .ref (am 0)), (3, .int x3)]) (hcap : cells + 2 ≤ 600000 ∧ slots + 162 ≤ 7302250) (hnext : ∀ (nc' : Nat) (ax' : Nat → Nat) (σx' σm' : St) (H1 : Heap) (locs1 : List Loc), Inv nc' σx' σm' → ax' 0 = ax 0 → Wst D C KV s nc' ax' am σx' σm' H1 locs1 → W p l e room_1 s m #[Value.ref b] below meth c H1 locs1 (cells + 2) (slots + 162) Q (F0 m 1300 ls [])) : W p l e room_1 s m #[Value.ref b] below meth c H locs cells slots Q (F0 m 926 ls []) := by
  obtain ⟨⟨hx, hb, hml, hown, hts⟩, hK, hX, hXs, hbl, hr, hlk⟩ := id hc
  have hbA : ¬ Ge s b := Nat.not_le.mpr hbl
  obtain ⟨r, σx', σm', f1, f2, f3⟩ := hp nc σx σm a1 hI
  refine lv_aload_n hx hb dL_law_926 rfl (lv_at hl 1 rfl) ?_
  refine lv_aload_n hx hb dL_law_927 rfl (lv_at hl 0 rfl) ?_
  refine lv_iload_n hx hb dL_law_928 rfl (lv_at hl 3 rfl) ?_
  refine lv_iconst (v := 1) hx hb dL_law_929 (by decide) ?_
  refine lv_iadd hx hb dL_law_930 ?_
  refine va_sld hx hb hXs hbl hbA hw.2.2.2 h1 dL_law_931 ?_
  rw [e1]
  refine l_XI (st := []) (lv := [(0, .ref b), (1, .ref (ax 0)), (2, .ref (am 0)), (3, .int x3)]) hc hw [.int a1] (c_X11_race (l := l) (w := wX D C KV nc ax) ⟨rfl, rfl, hw.1⟩ σx a1 _ f1) yk_X11_race rfl lm_L_109 rfl ⟨rfl, rfl⟩ rfl hl ⟨by omega, by omega⟩ dL_law_932 (fun H locs hw => ?_)
  refine lv_aload_n hx hb dL_law_935 rfl (lv_at hl 2 rfl) ?_
  refine lv_aload_n hx hb dL_law_936 rfl (lv_at hl 0 rfl) ?_
  refine lv_iload_n hx hb dL_law_937 rfl (lv_at hl 3 rfl) ?_
  refine lv_iconst (v := 1) hx hb dL_law_938 (by decide) ?_
  refine lv_iadd hx hb dL_law_939 ?_
  refine va_sld hx hb hXs hbl hbA hw.2.2.2 h1 dL_law_940 ?_
  rw [e1]
  refine l_MI (st := [.int r]) (lv := [(0, .ref b), (1, .ref (ax 0)), (2, .ref (am 0)), (3, .int x3)]) hc hw [.int a1] (c_X12_race (l := l) (w := wM D C KV am) ⟨rfl, rfl, Nat.le_refl 29⟩ σm a1 _ f2) yk_X12_race rfl lm_L_112 rfl ⟨rfl, rfl⟩ rfl hl ⟨by omega, by omega⟩ dL_law_941 (fun H locs hw => ?_)
  refine lv_icmp_eq (tgt := 1300) hx hb dL_law_944 (by decide) (fun c9 => ?_) (fun c9 => absurd rfl c9)
  refine W.widen (k := cells + 2) (n := slots + 162) (by omega) (by omega) ?_
  exact hnext nc ax σx' σm' H locs f3 rfl hw
set_option maxHeartbeats 4000000 in
set_option maxRecDepth 100000 in
theorem law_22 {p : Program} {l : Launch} {e : Env} {s : State} {m : MethodId} {below : List Frame} {meth : Method} {c : Code} {b L : Nat} {xs : Nat → Int32} {D : va_G} {C : Nat → ClassId} {KV : (Nat → Nat) × (Nat → Nat)} {nc : Nat} {ax am : Nat → Nat} {σx σm : St} {H : Heap} {locs : List Loc} {cells slots : Nat} {Q : State → Prop} {ls : Array Slot} {Inv : Nat → St → St → Prop} {x3 : Int32} (hp : P_lanes Inv) (hI : Inv nc σx σm) (hc : Lc p s m meth c b L xs D C KV) (hw : Wst D C KV s nc ax am σx σm H locs) (h1 : vp_in (x3 + 1) L) (h2 : vp_in (x3 + 2) L) (h3 : vp_in (x3 + 3) L) (h4 : vp_in (x3 + 4) L) (h5 : vp_in (x3 + 5) L) (a1 a2 a3 a4 a5 : Int32) (e1 : xs (x3 + 1).toNatClampNeg = a1) (e2 : xs (x3 + 2).toNatClampNeg = a2) (e3 : xs (x3 + 3).toNatClampNeg = a3) (e4 : xs (x3 + 4).toNatClampNeg = a4) (e5 : xs (x3 + 5).toNatClampNeg = a5) (hl : lv_has ls 4 [(0, .ref b), (1, .ref (ax 0)), (2, .ref (am 0)), (3, .int x3)]) (hcap : cells + 2 ≤ 600000 ∧ slots + 162 ≤ 7302250) (hnext : ∀ (nc' : Nat) (ax' : Nat → Nat) (σx' σm' : St) (H1 : Heap) (locs1 : List Loc), Inv nc' σx' σm' → ax' 0 = ax 0 → Wst D C KV s nc' ax' am σx' σm' H1 locs1 → W p l e room_1 s m #[Value.ref b] below meth c H1 locs1 (cells + 2) (slots + 162) Q (F0 m 1300 ls [])) : W p l e room_1 s m #[Value.ref b] below meth c H locs cells slots Q (F0 m 949 ls []) := by
  obtain ⟨⟨hx, hb, hml, hown, hts⟩, hK, hX, hXs, hbl, hr, hlk⟩ := id hc
  have hbA : ¬ Ge s b := Nat.not_le.mpr hbl
  obtain ⟨r, f1, f2, f3⟩ := hp nc σx σm a1 a2 a3 hI
  refine lv_aload_n hx hb dL_law_949 rfl (lv_at hl 1 rfl) ?_
  refine lv_aload_n hx hb dL_law_950 rfl (lv_at hl 0 rfl) ?_
  refine lv_iload_n hx hb dL_law_951 rfl (lv_at hl 3 rfl) ?_
  refine lv_iconst (v := 1) hx hb dL_law_952 (by decide) ?_
  refine lv_iadd hx hb dL_law_953 ?_
  refine va_sld hx hb hXs hbl hbA hw.2.2.2 h1 dL_law_954 ?_
  rw [e1]
  refine lv_aload_n hx hb dL_law_955 rfl (lv_at hl 0 rfl) ?_
  refine lv_iload_n hx hb dL_law_956 rfl (lv_at hl 3 rfl) ?_
  refine lv_iconst (v := 2) hx hb dL_law_957 (by decide) ?_
  refine lv_iadd hx hb dL_law_958 ?_
  refine va_sld hx hb hXs hbl hbA hw.2.2.2 h2 dL_law_959 ?_
  rw [e2]
  refine lv_aload_n hx hb dL_law_960 rfl (lv_at hl 0 rfl) ?_
  refine lv_iload_n hx hb dL_law_961 rfl (lv_at hl 3 rfl) ?_
  refine lv_iconst (v := 3) hx hb dL_law_962 (by decide) ?_
  refine lv_iadd hx hb dL_law_963 ?_
  refine va_sld hx hb hXs hbl hbA hw.2.2.2 h3 dL_law_964 ?_
  rw [e3]
  refine l_XL (st := []) (lv := [(0, .ref b), (1, .ref (ax 0)), (2, .ref (am 0)), (3, .int x3)]) hc hw [.int a1, .int a2, .int a3] (c_X11_lanes (l := l) (w := wX D C KV nc ax) ⟨rfl, rfl, hw.1⟩ σx a1 a2 a3 _ f1) yk_X11_lanes rfl lm_L_113 rfl ⟨rfl, rfl⟩ rfl hl ⟨by omega, by omega⟩ dL_law_965 (fun H locs hw => ?_)
  refine lv_aload_n hx hb dL_law_968 rfl (lv_at hl 2 rfl) ?_
  refine lv_aload_n hx hb dL_law_969 rfl (lv_at hl 0 rfl) ?_
  refine lv_iload_n hx hb dL_law_970 rfl (lv_at hl 3 rfl) ?_
  refine lv_iconst (v := 1) hx hb dL_law_971 (by decide) ?_
  refine lv_iadd hx hb dL_law_972 ?_
  refine va_sld hx hb hXs hbl hbA hw.2.2.2 h1 dL_law_973 ?_
  rw [e1]
  refine lv_aload_n hx hb dL_law_974 rfl (lv_at hl 0 rfl) ?_
  refine lv_iload_n hx hb dL_law_975 rfl (lv_at hl 3 rfl) ?_
  refine lv_iconst (v := 2) hx hb dL_law_976 (by decide) ?_
  refine lv_iadd hx hb dL_law_977 ?_
  refine va_sld hx hb hXs hbl hbA hw.2.2.2 h2 dL_law_978 ?_
  rw [e2]
  refine lv_aload_n hx hb dL_law_979 rfl (lv_at hl 0 rfl) ?_
  refine lv_iload_n hx hb dL_law_980 rfl (lv_at hl 3 rfl) ?_
  refine lv_iconst (v := 3) hx hb dL_law_981 (by decide) ?_
  refine lv_iadd hx hb dL_law_982 ?_
  refine va_sld hx hb hXs hbl hbA hw.2.2.2 h3 dL_law_983 ?_
  rw [e3]
  refine l_ML (st := [.long r]) (lv := [(0, .ref b), (1, .ref (ax 0)), (2, .ref (am 0)), (3, .int x3)]) hc hw [.int a1, .int a2, .int a3] (c_X12_lanes (l := l) (w := wM D C KV am) ⟨rfl, rfl, Nat.le_refl 29⟩ σm a1 a2 a3 _ f2) yk_X12_lanes rfl lm_L_116 rfl ⟨rfl, rfl⟩ rfl hl ⟨by omega, by omega⟩ dL_law_984 (fun H locs hw => ?_)
  refine W.lcmp hx hb dL_law_987 (lv_if_eq (tgt := 1300) hx hb dL_law_988 (by decide) (fun c9 => ?_) (fun c9 => absurd ((lg_cmp_eq r r).mpr rfl) c9))
  refine W.widen (k := cells + 2) (n := slots + 162) (by omega) (by omega) ?_
  exact hnext nc ax σx σm H locs f3 rfl hw
set_option maxHeartbeats 4000000 in
set_option maxRecDepth 100000 in
theorem law_23 {p : Program} {l : Launch} {e : Env} {s : State} {m : MethodId} {below : List Frame} {meth : Method} {c : Code} {b L : Nat} {xs : Nat → Int32} {D : va_G} {C : Nat → ClassId} {KV : (Nat → Nat) × (Nat → Nat)} {nc : Nat} {ax am : Nat → Nat} {σx σm : St} {H : Heap} {locs : List Loc} {cells slots : Nat} {Q : State → Prop} {ls : Array Slot} {Inv : Nat → St → St → Prop} {x3 : Int32} (hp : P_fair Inv) (hI : Inv nc σx σm) (hc : Lc p s m meth c b L xs D C KV) (hw : Wst D C KV s nc ax am σx σm H locs) (h1 : vp_in (x3 + 1) L) (h2 : vp_in (x3 + 2) L) (h3 : vp_in (x3 + 3) L) (h4 : vp_in (x3 + 4) L) (h5 : vp_in (x3 + 5) L) (a1 a2 a3 a4 a5 : Int32) (e1 : xs (x3 + 1).toNatClampNeg = a1) (e2 : xs (x3 + 2).toNatClampNeg = a2) (e3 : xs (x3 + 3).toNatClampNeg = a3) (e4 : xs (x3 + 4).toNatClampNeg = a4) (e5 : xs (x3 + 5).toNatClampNeg = a5) (hl : lv_has ls 4 [(0, .ref b), (1, .ref (ax 0)), (2, .ref (am 0)), (3, .int x3)]) (hcap : cells + 2 ≤ 600000 ∧ slots + 162 ≤ 7302250) (hnext : ∀ (nc' : Nat) (ax' : Nat → Nat) (σx' σm' : St) (H1 : Heap) (locs1 : List Loc), Inv nc' σx' σm' → ax' 0 = ax 0 → Wst D C KV s nc' ax' am σx' σm' H1 locs1 → W p l e room_1 s m #[Value.ref b] below meth c H1 locs1 (cells + 2) (slots + 162) Q (F0 m 1300 ls [])) : W p l e room_1 s m #[Value.ref b] below meth c H locs cells slots Q (F0 m 993 ls []) := by
  obtain ⟨⟨hx, hb, hml, hown, hts⟩, hK, hX, hXs, hbl, hr, hlk⟩ := id hc
  have hbA : ¬ Ge s b := Nat.not_le.mpr hbl
  obtain ⟨r, f1, f2, f3⟩ := hp nc σx σm  hI
  refine lv_aload_n hx hb dL_law_993 rfl (lv_at hl 1 rfl) ?_
  refine l_XI (st := []) (lv := [(0, .ref b), (1, .ref (ax 0)), (2, .ref (am 0)), (3, .int x3)]) hc hw [] (c_X11_fair (l := l) (w := wX D C KV nc ax) ⟨rfl, rfl, hw.1⟩ σx  _ f1) yk_X11_fair rfl lm_L_117 rfl ⟨rfl, rfl⟩ rfl hl ⟨by omega, by omega⟩ dL_law_994 (fun H locs hw => ?_)
  refine lv_aload_n hx hb dL_law_997 rfl (lv_at hl 2 rfl) ?_
  refine l_MI (st := [.int r]) (lv := [(0, .ref b), (1, .ref (ax 0)), (2, .ref (am 0)), (3, .int x3)]) hc hw [] (c_X12_fair (l := l) (w := wM D C KV am) ⟨rfl, rfl, Nat.le_refl 29⟩ σm  _ f2) yk_X12_fair rfl lm_L_120 rfl ⟨rfl, rfl⟩ rfl hl ⟨by omega, by omega⟩ dL_law_998 (fun H locs hw => ?_)
  refine lv_icmp_eq (tgt := 1300) hx hb dL_law_1001 (by decide) (fun c9 => ?_) (fun c9 => absurd rfl c9)
  refine W.widen (k := cells + 2) (n := slots + 162) (by omega) (by omega) ?_
  exact hnext nc ax σx σm H locs f3 rfl hw
set_option maxHeartbeats 4000000 in
set_option maxRecDepth 100000 in
theorem law_24 {p : Program} {l : Launch} {e : Env} {s : State} {m : MethodId} {below : List Frame} {meth : Method} {c : Code} {b L : Nat} {xs : Nat → Int32} {D : va_G} {C : Nat → ClassId} {KV : (Nat → Nat) × (Nat → Nat)} {nc : Nat} {ax am : Nat → Nat} {σx σm : St} {H : Heap} {locs : List Loc} {cells slots : Nat} {Q : State → Prop} {ls : Array Slot} {Inv : Nat → St → St → Prop} {x3 : Int32} (hp : P_image Inv) (hI : Inv nc σx σm) (hc : Lc p s m meth c b L xs D C KV) (hw : Wst D C KV s nc ax am σx σm H locs) (h1 : vp_in (x3 + 1) L) (h2 : vp_in (x3 + 2) L) (h3 : vp_in (x3 + 3) L) (h4 : vp_in (x3 + 4) L) (h5 : vp_in (x3 + 5) L) (a1 a2 a3 a4 a5 : Int32) (e1 : xs (x3 + 1).toNatClampNeg = a1) (e2 : xs (x3 + 2).toNatClampNeg = a2) (e3 : xs (x3 + 3).toNatClampNeg = a3) (e4 : xs (x3 + 4).toNatClampNeg = a4) (e5 : xs (x3 + 5).toNatClampNeg = a5) (hl : lv_has ls 4 [(0, .ref b), (1, .ref (ax 0)), (2, .ref (am 0)), (3, .int x3)]) (hcap : cells + 2 ≤ 600000 ∧ slots + 162 ≤ 7302250) (hnext : ∀ (nc' : Nat) (ax' : Nat → Nat) (σx' σm' : St) (H1 : Heap) (locs1 : List Loc), Inv nc' σx' σm' → ax' 0 = ax 0 → Wst D C KV s nc' ax' am σx' σm' H1 locs1 → W p l e room_1 s m #[Value.ref b] below meth c H1 locs1 (cells + 2) (slots + 162) Q (F0 m 1300 ls [])) : W p l e room_1 s m #[Value.ref b] below meth c H locs cells slots Q (F0 m 1006 ls []) := by
  obtain ⟨⟨hx, hb, hml, hown, hts⟩, hK, hX, hXs, hbl, hr, hlk⟩ := id hc
  have hbA : ¬ Ge s b := Nat.not_le.mpr hbl
  obtain ⟨r, σx', σm', f1, f2, f3⟩ := hp nc σx σm  hI
  refine lv_aload_n hx hb dL_law_1006 rfl (lv_at hl 1 rfl) ?_
  refine l_XI (st := []) (lv := [(0, .ref b), (1, .ref (ax 0)), (2, .ref (am 0)), (3, .int x3)]) hc hw [] (c_X11_image (l := l) (w := wX D C KV nc ax) ⟨rfl, rfl, hw.1⟩ σx  _ f1) yk_X11_image rfl lm_L_121 rfl ⟨rfl, rfl⟩ rfl hl ⟨by omega, by omega⟩ dL_law_1007 (fun H locs hw => ?_)
  refine lv_aload_n hx hb dL_law_1010 rfl (lv_at hl 2 rfl) ?_
  refine l_MI (st := [.int r]) (lv := [(0, .ref b), (1, .ref (ax 0)), (2, .ref (am 0)), (3, .int x3)]) hc hw [] (c_X12_image (l := l) (w := wM D C KV am) ⟨rfl, rfl, Nat.le_refl 29⟩ σm  _ f2) yk_X12_image rfl lm_L_124 rfl ⟨rfl, rfl⟩ rfl hl ⟨by omega, by omega⟩ dL_law_1011 (fun H locs hw => ?_)
  refine lv_icmp_eq (tgt := 1300) hx hb dL_law_1014 (by decide) (fun c9 => ?_) (fun c9 => absurd rfl c9)
  refine W.widen (k := cells + 2) (n := slots + 162) (by omega) (by omega) ?_
  exact hnext nc ax σx' σm' H locs f3 rfl hw
set_option maxHeartbeats 4000000 in
set_option maxRecDepth 100000 in
theorem law_25 {p : Program} {l : Launch} {e : Env} {s : State} {m : MethodId} {below : List Frame} {meth : Method} {c : Code} {b L : Nat} {xs : Nat → Int32} {D : va_G} {C : Nat → ClassId} {KV : (Nat → Nat) × (Nat → Nat)} {nc : Nat} {ax am : Nat → Nat} {σx σm : St} {H : Heap} {locs : List Loc} {cells slots : Nat} {Q : State → Prop} {ls : Array Slot} {Inv : Nat → St → St → Prop} {x3 : Int32} (hp : P_back Inv) (hI : Inv nc σx σm) (hc : Lc p s m meth c b L xs D C KV) (hw : Wst D C KV s nc ax am σx σm H locs) (h1 : vp_in (x3 + 1) L) (h2 : vp_in (x3 + 2) L) (h3 : vp_in (x3 + 3) L) (h4 : vp_in (x3 + 4) L) (h5 : vp_in (x3 + 5) L) (a1 a2 a3 a4 a5 : Int32) (e1 : xs (x3 + 1).toNatClampNeg = a1) (e2 : xs (x3 + 2).toNatClampNeg = a2) (e3 : xs (x3 + 3).toNatClampNeg = a3) (e4 : xs (x3 + 4).toNatClampNeg = a4) (e5 : xs (x3 + 5).toNatClampNeg = a5) (hl : lv_has ls 4 [(0, .ref b), (1, .ref (ax 0)), (2, .ref (am 0)), (3, .int x3)]) (hcap : cells + 2 ≤ 600000 ∧ slots + 162 ≤ 7302250) (hnext : ∀ (nc' : Nat) (ax' : Nat → Nat) (σx' σm' : St) (H1 : Heap) (locs1 : List Loc), Inv nc' σx' σm' → ax' 0 = ax 0 → Wst D C KV s nc' ax' am σx' σm' H1 locs1 → W p l e room_1 s m #[Value.ref b] below meth c H1 locs1 (cells + 2) (slots + 162) Q (F0 m 1300 ls [])) : W p l e room_1 s m #[Value.ref b] below meth c H locs cells slots Q (F0 m 1019 ls []) := by
  obtain ⟨⟨hx, hb, hml, hown, hts⟩, hK, hX, hXs, hbl, hr, hlk⟩ := id hc
  have hbA : ¬ Ge s b := Nat.not_le.mpr hbl
  obtain ⟨r, σx', σm', f1, f2, f3⟩ := hp nc σx σm  hI
  refine lv_aload_n hx hb dL_law_1019 rfl (lv_at hl 1 rfl) ?_
  refine l_XI (st := []) (lv := [(0, .ref b), (1, .ref (ax 0)), (2, .ref (am 0)), (3, .int x3)]) hc hw [] (c_X11_back (l := l) (w := wX D C KV nc ax) ⟨rfl, rfl, hw.1⟩ σx  _ f1) yk_X11_back rfl lm_L_125 rfl ⟨rfl, rfl⟩ rfl hl ⟨by omega, by omega⟩ dL_law_1020 (fun H locs hw => ?_)
  refine lv_aload_n hx hb dL_law_1023 rfl (lv_at hl 2 rfl) ?_
  refine l_MI (st := [.int r]) (lv := [(0, .ref b), (1, .ref (ax 0)), (2, .ref (am 0)), (3, .int x3)]) hc hw [] (c_X12_back (l := l) (w := wM D C KV am) ⟨rfl, rfl, Nat.le_refl 29⟩ σm  _ f2) yk_X12_back rfl lm_L_128 rfl ⟨rfl, rfl⟩ rfl hl ⟨by omega, by omega⟩ dL_law_1024 (fun H locs hw => ?_)
  refine lv_icmp_eq (tgt := 1300) hx hb dL_law_1027 (by decide) (fun c9 => ?_) (fun c9 => absurd rfl c9)
  refine W.widen (k := cells + 2) (n := slots + 162) (by omega) (by omega) ?_
  exact hnext nc ax σx' σm' H locs f3 rfl hw
set_option maxHeartbeats 4000000 in
set_option maxRecDepth 100000 in
theorem law_26 {p : Program} {l : Launch} {e : Env} {s : State} {m : MethodId} {below : List Frame} {meth : Method} {c : Code} {b L : Nat} {xs : Nat → Int32} {D : va_G} {C : Nat → ClassId} {KV : (Nat → Nat) × (Nat → Nat)} {nc : Nat} {ax am : Nat → Nat} {σx σm : St} {H : Heap} {locs : List Loc} {cells slots : Nat} {Q : State → Prop} {ls : Array Slot} {Inv : Nat → St → St → Prop} {x3 : Int32} (hp : P_count Inv) (hI : Inv nc σx σm) (hc : Lc p s m meth c b L xs D C KV) (hw : Wst D C KV s nc ax am σx σm H locs) (h1 : vp_in (x3 + 1) L) (h2 : vp_in (x3 + 2) L) (h3 : vp_in (x3 + 3) L) (h4 : vp_in (x3 + 4) L) (h5 : vp_in (x3 + 5) L) (a1 a2 a3 a4 a5 : Int32) (e1 : xs (x3 + 1).toNatClampNeg = a1) (e2 : xs (x3 + 2).toNatClampNeg = a2) (e3 : xs (x3 + 3).toNatClampNeg = a3) (e4 : xs (x3 + 4).toNatClampNeg = a4) (e5 : xs (x3 + 5).toNatClampNeg = a5) (hl : lv_has ls 4 [(0, .ref b), (1, .ref (ax 0)), (2, .ref (am 0)), (3, .int x3)]) (hcap : cells + 2 ≤ 600000 ∧ slots + 162 ≤ 7302250) (hnext : ∀ (nc' : Nat) (ax' : Nat → Nat) (σx' σm' : St) (H1 : Heap) (locs1 : List Loc), Inv nc' σx' σm' → ax' 0 = ax 0 → Wst D C KV s nc' ax' am σx' σm' H1 locs1 → W p l e room_1 s m #[Value.ref b] below meth c H1 locs1 (cells + 2) (slots + 162) Q (F0 m 1300 ls [])) : W p l e room_1 s m #[Value.ref b] below meth c H locs cells slots Q (F0 m 1032 ls []) := by
  obtain ⟨⟨hx, hb, hml, hown, hts⟩, hK, hX, hXs, hbl, hr, hlk⟩ := id hc
  have hbA : ¬ Ge s b := Nat.not_le.mpr hbl
  obtain ⟨r, f1, f2, f3⟩ := hp nc σx σm a1 hI
  refine lv_aload_n hx hb dL_law_1032 rfl (lv_at hl 1 rfl) ?_
  refine lv_aload_n hx hb dL_law_1033 rfl (lv_at hl 0 rfl) ?_
  refine lv_iload_n hx hb dL_law_1034 rfl (lv_at hl 3 rfl) ?_
  refine lv_iconst (v := 1) hx hb dL_law_1035 (by decide) ?_
  refine lv_iadd hx hb dL_law_1036 ?_
  refine va_sld hx hb hXs hbl hbA hw.2.2.2 h1 dL_law_1037 ?_
  rw [e1]
  refine l_XI (st := []) (lv := [(0, .ref b), (1, .ref (ax 0)), (2, .ref (am 0)), (3, .int x3)]) hc hw [.int a1] (c_X11_count (l := l) (w := wX D C KV nc ax) ⟨rfl, rfl, hw.1⟩ σx a1 _ f1) yk_X11_count rfl lm_L_129 rfl ⟨rfl, rfl⟩ rfl hl ⟨by omega, by omega⟩ dL_law_1038 (fun H locs hw => ?_)
  refine lv_aload_n hx hb dL_law_1041 rfl (lv_at hl 2 rfl) ?_
  refine lv_aload_n hx hb dL_law_1042 rfl (lv_at hl 0 rfl) ?_
  refine lv_iload_n hx hb dL_law_1043 rfl (lv_at hl 3 rfl) ?_
  refine lv_iconst (v := 1) hx hb dL_law_1044 (by decide) ?_
  refine lv_iadd hx hb dL_law_1045 ?_
  refine va_sld hx hb hXs hbl hbA hw.2.2.2 h1 dL_law_1046 ?_
  rw [e1]
  refine l_MI (st := [.int r]) (lv := [(0, .ref b), (1, .ref (ax 0)), (2, .ref (am 0)), (3, .int x3)]) hc hw [.int a1] (c_X12_count (l := l) (w := wM D C KV am) ⟨rfl, rfl, Nat.le_refl 29⟩ σm a1 _ f2) yk_X12_count rfl lm_L_132 rfl ⟨rfl, rfl⟩ rfl hl ⟨by omega, by omega⟩ dL_law_1047 (fun H locs hw => ?_)
  refine lv_icmp_eq (tgt := 1300) hx hb dL_law_1050 (by decide) (fun c9 => ?_) (fun c9 => absurd rfl c9)
  refine W.widen (k := cells + 2) (n := slots + 162) (by omega) (by omega) ?_
  exact hnext nc ax σx σm H locs f3 rfl hw
set_option maxHeartbeats 4000000 in
set_option maxRecDepth 100000 in
theorem law_27 {p : Program} {l : Launch} {e : Env} {s : State} {m : MethodId} {below : List Frame} {meth : Method} {c : Code} {b L : Nat} {xs : Nat → Int32} {D : va_G} {C : Nat → ClassId} {KV : (Nat → Nat) × (Nat → Nat)} {nc : Nat} {ax am : Nat → Nat} {σx σm : St} {H : Heap} {locs : List Loc} {cells slots : Nat} {Q : State → Prop} {ls : Array Slot} {Inv : Nat → St → St → Prop} {x3 : Int32} (hp : P_sheet Inv) (hI : Inv nc σx σm) (hc : Lc p s m meth c b L xs D C KV) (hw : Wst D C KV s nc ax am σx σm H locs) (h1 : vp_in (x3 + 1) L) (h2 : vp_in (x3 + 2) L) (h3 : vp_in (x3 + 3) L) (h4 : vp_in (x3 + 4) L) (h5 : vp_in (x3 + 5) L) (a1 a2 a3 a4 a5 : Int32) (e1 : xs (x3 + 1).toNatClampNeg = a1) (e2 : xs (x3 + 2).toNatClampNeg = a2) (e3 : xs (x3 + 3).toNatClampNeg = a3) (e4 : xs (x3 + 4).toNatClampNeg = a4) (e5 : xs (x3 + 5).toNatClampNeg = a5) (hl : lv_has ls 4 [(0, .ref b), (1, .ref (ax 0)), (2, .ref (am 0)), (3, .int x3)]) (hcap : cells + 2 ≤ 600000 ∧ slots + 162 ≤ 7302250) (hnext : ∀ (nc' : Nat) (ax' : Nat → Nat) (σx' σm' : St) (H1 : Heap) (locs1 : List Loc), Inv nc' σx' σm' → ax' 0 = ax 0 → Wst D C KV s nc' ax' am σx' σm' H1 locs1 → W p l e room_1 s m #[Value.ref b] below meth c H1 locs1 (cells + 2) (slots + 162) Q (F0 m 1300 ls [])) : W p l e room_1 s m #[Value.ref b] below meth c H locs cells slots Q (F0 m 1055 ls []) := by
  obtain ⟨⟨hx, hb, hml, hown, hts⟩, hK, hX, hXs, hbl, hr, hlk⟩ := id hc
  have hbA : ¬ Ge s b := Nat.not_le.mpr hbl
  obtain ⟨r, σx', σm', f1, f2, f3⟩ := hp nc σx σm a1 a2 a3 hI
  refine lv_aload_n hx hb dL_law_1055 rfl (lv_at hl 1 rfl) ?_
  refine lv_aload_n hx hb dL_law_1056 rfl (lv_at hl 0 rfl) ?_
  refine lv_iload_n hx hb dL_law_1057 rfl (lv_at hl 3 rfl) ?_
  refine lv_iconst (v := 1) hx hb dL_law_1058 (by decide) ?_
  refine lv_iadd hx hb dL_law_1059 ?_
  refine va_sld hx hb hXs hbl hbA hw.2.2.2 h1 dL_law_1060 ?_
  rw [e1]
  refine lv_aload_n hx hb dL_law_1061 rfl (lv_at hl 0 rfl) ?_
  refine lv_iload_n hx hb dL_law_1062 rfl (lv_at hl 3 rfl) ?_
  refine lv_iconst (v := 2) hx hb dL_law_1063 (by decide) ?_
  refine lv_iadd hx hb dL_law_1064 ?_
  refine va_sld hx hb hXs hbl hbA hw.2.2.2 h2 dL_law_1065 ?_
  rw [e2]
  refine lv_aload_n hx hb dL_law_1066 rfl (lv_at hl 0 rfl) ?_
  refine lv_iload_n hx hb dL_law_1067 rfl (lv_at hl 3 rfl) ?_
  refine lv_iconst (v := 3) hx hb dL_law_1068 (by decide) ?_
  refine lv_iadd hx hb dL_law_1069 ?_
  refine va_sld hx hb hXs hbl hbA hw.2.2.2 h3 dL_law_1070 ?_
  rw [e3]
  refine l_XI (st := []) (lv := [(0, .ref b), (1, .ref (ax 0)), (2, .ref (am 0)), (3, .int x3)]) hc hw [.int a1, .int a2, .int a3] (c_X11_sheet (l := l) (w := wX D C KV nc ax) ⟨rfl, rfl, hw.1⟩ σx a1 a2 a3 _ f1) yk_X11_sheet rfl lm_L_133 rfl ⟨rfl, rfl⟩ rfl hl ⟨by omega, by omega⟩ dL_law_1071 (fun H locs hw => ?_)
  refine lv_aload_n hx hb dL_law_1074 rfl (lv_at hl 2 rfl) ?_
  refine lv_aload_n hx hb dL_law_1075 rfl (lv_at hl 0 rfl) ?_
  refine lv_iload_n hx hb dL_law_1076 rfl (lv_at hl 3 rfl) ?_
  refine lv_iconst (v := 1) hx hb dL_law_1077 (by decide) ?_
  refine lv_iadd hx hb dL_law_1078 ?_
  refine va_sld hx hb hXs hbl hbA hw.2.2.2 h1 dL_law_1079 ?_
  rw [e1]
  refine lv_aload_n hx hb dL_law_1080 rfl (lv_at hl 0 rfl) ?_
  refine lv_iload_n hx hb dL_law_1081 rfl (lv_at hl 3 rfl) ?_
  refine lv_iconst (v := 2) hx hb dL_law_1082 (by decide) ?_
  refine lv_iadd hx hb dL_law_1083 ?_
  refine va_sld hx hb hXs hbl hbA hw.2.2.2 h2 dL_law_1084 ?_
  rw [e2]
  refine lv_aload_n hx hb dL_law_1085 rfl (lv_at hl 0 rfl) ?_
  refine lv_iload_n hx hb dL_law_1086 rfl (lv_at hl 3 rfl) ?_
  refine lv_iconst (v := 3) hx hb dL_law_1087 (by decide) ?_
  refine lv_iadd hx hb dL_law_1088 ?_
  refine va_sld hx hb hXs hbl hbA hw.2.2.2 h3 dL_law_1089 ?_
  rw [e3]
  refine l_MI (st := [.int r]) (lv := [(0, .ref b), (1, .ref (ax 0)), (2, .ref (am 0)), (3, .int x3)]) hc hw [.int a1, .int a2, .int a3] (c_X12_sheet (l := l) (w := wM D C KV am) ⟨rfl, rfl, Nat.le_refl 29⟩ σm a1 a2 a3 _ f2) yk_X12_sheet rfl lm_L_136 rfl ⟨rfl, rfl⟩ rfl hl ⟨by omega, by omega⟩ dL_law_1090 (fun H locs hw => ?_)
  refine lv_icmp_eq (tgt := 1300) hx hb dL_law_1093 (by decide) (fun c9 => ?_) (fun c9 => absurd rfl c9)
  refine W.widen (k := cells + 2) (n := slots + 162) (by omega) (by omega) ?_
  exact hnext nc ax σx' σm' H locs f3 rfl hw
set_option maxHeartbeats 4000000 in
set_option maxRecDepth 100000 in
theorem law_28 {p : Program} {l : Launch} {e : Env} {s : State} {m : MethodId} {below : List Frame} {meth : Method} {c : Code} {b L : Nat} {xs : Nat → Int32} {D : va_G} {C : Nat → ClassId} {KV : (Nat → Nat) × (Nat → Nat)} {nc : Nat} {ax am : Nat → Nat} {σx σm : St} {H : Heap} {locs : List Loc} {cells slots : Nat} {Q : State → Prop} {ls : Array Slot} {Inv : Nat → St → St → Prop} {x3 : Int32} (hp : P_cell Inv) (hI : Inv nc σx σm) (hc : Lc p s m meth c b L xs D C KV) (hw : Wst D C KV s nc ax am σx σm H locs) (h1 : vp_in (x3 + 1) L) (h2 : vp_in (x3 + 2) L) (h3 : vp_in (x3 + 3) L) (h4 : vp_in (x3 + 4) L) (h5 : vp_in (x3 + 5) L) (a1 a2 a3 a4 a5 : Int32) (e1 : xs (x3 + 1).toNatClampNeg = a1) (e2 : xs (x3 + 2).toNatClampNeg = a2) (e3 : xs (x3 + 3).toNatClampNeg = a3) (e4 : xs (x3 + 4).toNatClampNeg = a4) (e5 : xs (x3 + 5).toNatClampNeg = a5) (hl : lv_has ls 4 [(0, .ref b), (1, .ref (ax 0)), (2, .ref (am 0)), (3, .int x3)]) (hcap : cells + 2 ≤ 600000 ∧ slots + 162 ≤ 7302250) (hnext : ∀ (nc' : Nat) (ax' : Nat → Nat) (σx' σm' : St) (H1 : Heap) (locs1 : List Loc), Inv nc' σx' σm' → ax' 0 = ax 0 → Wst D C KV s nc' ax' am σx' σm' H1 locs1 → W p l e room_1 s m #[Value.ref b] below meth c H1 locs1 (cells + 2) (slots + 162) Q (F0 m 1300 ls [])) : W p l e room_1 s m #[Value.ref b] below meth c H locs cells slots Q (F0 m 1098 ls []) := by
  obtain ⟨⟨hx, hb, hml, hown, hts⟩, hK, hX, hXs, hbl, hr, hlk⟩ := id hc
  have hbA : ¬ Ge s b := Nat.not_le.mpr hbl
  obtain ⟨r, σx', σm', f1, f2, f3⟩ := hp nc σx σm a1 a2 a3 hI
  refine lv_aload_n hx hb dL_law_1098 rfl (lv_at hl 1 rfl) ?_
  refine lv_aload_n hx hb dL_law_1099 rfl (lv_at hl 0 rfl) ?_
  refine lv_iload_n hx hb dL_law_1100 rfl (lv_at hl 3 rfl) ?_
  refine lv_iconst (v := 1) hx hb dL_law_1101 (by decide) ?_
  refine lv_iadd hx hb dL_law_1102 ?_
  refine va_sld hx hb hXs hbl hbA hw.2.2.2 h1 dL_law_1103 ?_
  rw [e1]
  refine lv_aload_n hx hb dL_law_1104 rfl (lv_at hl 0 rfl) ?_
  refine lv_iload_n hx hb dL_law_1105 rfl (lv_at hl 3 rfl) ?_
  refine lv_iconst (v := 2) hx hb dL_law_1106 (by decide) ?_
  refine lv_iadd hx hb dL_law_1107 ?_
  refine va_sld hx hb hXs hbl hbA hw.2.2.2 h2 dL_law_1108 ?_
  rw [e2]
  refine lv_aload_n hx hb dL_law_1109 rfl (lv_at hl 0 rfl) ?_
  refine lv_iload_n hx hb dL_law_1110 rfl (lv_at hl 3 rfl) ?_
  refine lv_iconst (v := 3) hx hb dL_law_1111 (by decide) ?_
  refine lv_iadd hx hb dL_law_1112 ?_
  refine va_sld hx hb hXs hbl hbA hw.2.2.2 h3 dL_law_1113 ?_
  rw [e3]
  refine l_XI (st := []) (lv := [(0, .ref b), (1, .ref (ax 0)), (2, .ref (am 0)), (3, .int x3)]) hc hw [.int a1, .int a2, .int a3] (c_X11_cell (l := l) (w := wX D C KV nc ax) ⟨rfl, rfl, hw.1⟩ σx a1 a2 a3 _ f1) yk_X11_cell rfl lm_L_137 rfl ⟨rfl, rfl⟩ rfl hl ⟨by omega, by omega⟩ dL_law_1114 (fun H locs hw => ?_)
  refine lv_aload_n hx hb dL_law_1117 rfl (lv_at hl 2 rfl) ?_
  refine lv_aload_n hx hb dL_law_1118 rfl (lv_at hl 0 rfl) ?_
  refine lv_iload_n hx hb dL_law_1119 rfl (lv_at hl 3 rfl) ?_
  refine lv_iconst (v := 1) hx hb dL_law_1120 (by decide) ?_
  refine lv_iadd hx hb dL_law_1121 ?_
  refine va_sld hx hb hXs hbl hbA hw.2.2.2 h1 dL_law_1122 ?_
  rw [e1]
  refine lv_aload_n hx hb dL_law_1123 rfl (lv_at hl 0 rfl) ?_
  refine lv_iload_n hx hb dL_law_1124 rfl (lv_at hl 3 rfl) ?_
  refine lv_iconst (v := 2) hx hb dL_law_1125 (by decide) ?_
  refine lv_iadd hx hb dL_law_1126 ?_
  refine va_sld hx hb hXs hbl hbA hw.2.2.2 h2 dL_law_1127 ?_
  rw [e2]
  refine lv_aload_n hx hb dL_law_1128 rfl (lv_at hl 0 rfl) ?_
  refine lv_iload_n hx hb dL_law_1129 rfl (lv_at hl 3 rfl) ?_
  refine lv_iconst (v := 3) hx hb dL_law_1130 (by decide) ?_
  refine lv_iadd hx hb dL_law_1131 ?_
  refine va_sld hx hb hXs hbl hbA hw.2.2.2 h3 dL_law_1132 ?_
  rw [e3]
  refine l_MI (st := [.int r]) (lv := [(0, .ref b), (1, .ref (ax 0)), (2, .ref (am 0)), (3, .int x3)]) hc hw [.int a1, .int a2, .int a3] (c_X12_cell (l := l) (w := wM D C KV am) ⟨rfl, rfl, Nat.le_refl 29⟩ σm a1 a2 a3 _ f2) yk_X12_cell rfl lm_L_140 rfl ⟨rfl, rfl⟩ rfl hl ⟨by omega, by omega⟩ dL_law_1133 (fun H locs hw => ?_)
  refine lv_icmp_eq (tgt := 1300) hx hb dL_law_1136 (by decide) (fun c9 => ?_) (fun c9 => absurd rfl c9)
  refine W.widen (k := cells + 2) (n := slots + 162) (by omega) (by omega) ?_
  exact hnext nc ax σx' σm' H locs f3 rfl hw
set_option maxHeartbeats 4000000 in
set_option maxRecDepth 100000 in
theorem law_29 {p : Program} {l : Launch} {e : Env} {s : State} {m : MethodId} {below : List Frame} {meth : Method} {c : Code} {b L : Nat} {xs : Nat → Int32} {D : va_G} {C : Nat → ClassId} {KV : (Nat → Nat) × (Nat → Nat)} {nc : Nat} {ax am : Nat → Nat} {σx σm : St} {H : Heap} {locs : List Loc} {cells slots : Nat} {Q : State → Prop} {ls : Array Slot} {Inv : Nat → St → St → Prop} {x3 : Int32} (hp : P_copy Inv) (hI : Inv nc σx σm) (hc : Lc p s m meth c b L xs D C KV) (hw : Wst D C KV s nc ax am σx σm H locs) (h1 : vp_in (x3 + 1) L) (h2 : vp_in (x3 + 2) L) (h3 : vp_in (x3 + 3) L) (h4 : vp_in (x3 + 4) L) (h5 : vp_in (x3 + 5) L) (a1 a2 a3 a4 a5 : Int32) (e1 : xs (x3 + 1).toNatClampNeg = a1) (e2 : xs (x3 + 2).toNatClampNeg = a2) (e3 : xs (x3 + 3).toNatClampNeg = a3) (e4 : xs (x3 + 4).toNatClampNeg = a4) (e5 : xs (x3 + 5).toNatClampNeg = a5) (hl : lv_has ls 4 [(0, .ref b), (1, .ref (ax 0)), (2, .ref (am 0)), (3, .int x3)]) (hcap : cells + 2 ≤ 600000 ∧ slots + 162 ≤ 7302250) (hnext : ∀ (nc' : Nat) (ax' : Nat → Nat) (σx' σm' : St) (H1 : Heap) (locs1 : List Loc), Inv nc' σx' σm' → ax' 0 = ax 0 → Wst D C KV s nc' ax' am σx' σm' H1 locs1 → W p l e room_1 s m #[Value.ref b] below meth c H1 locs1 (cells + 2) (slots + 162) Q (F0 m 1300 ls [])) : W p l e room_1 s m #[Value.ref b] below meth c H locs cells slots Q (F0 m 1141 ls []) := by
  obtain ⟨⟨hx, hb, hml, hown, hts⟩, hK, hX, hXs, hbl, hr, hlk⟩ := id hc
  have hbA : ¬ Ge s b := Nat.not_le.mpr hbl
  obtain ⟨r, σx', σm', f1, f2, f3⟩ := hp nc σx σm a1 a2 a3 a4 a5 hI
  refine lv_aload_n hx hb dL_law_1141 rfl (lv_at hl 1 rfl) ?_
  refine lv_aload_n hx hb dL_law_1142 rfl (lv_at hl 0 rfl) ?_
  refine lv_iload_n hx hb dL_law_1143 rfl (lv_at hl 3 rfl) ?_
  refine lv_iconst (v := 1) hx hb dL_law_1144 (by decide) ?_
  refine lv_iadd hx hb dL_law_1145 ?_
  refine va_sld hx hb hXs hbl hbA hw.2.2.2 h1 dL_law_1146 ?_
  rw [e1]
  refine lv_aload_n hx hb dL_law_1147 rfl (lv_at hl 0 rfl) ?_
  refine lv_iload_n hx hb dL_law_1148 rfl (lv_at hl 3 rfl) ?_
  refine lv_iconst (v := 2) hx hb dL_law_1149 (by decide) ?_
  refine lv_iadd hx hb dL_law_1150 ?_
  refine va_sld hx hb hXs hbl hbA hw.2.2.2 h2 dL_law_1151 ?_
  rw [e2]
  refine lv_aload_n hx hb dL_law_1152 rfl (lv_at hl 0 rfl) ?_
  refine lv_iload_n hx hb dL_law_1153 rfl (lv_at hl 3 rfl) ?_
  refine lv_iconst (v := 3) hx hb dL_law_1154 (by decide) ?_
  refine lv_iadd hx hb dL_law_1155 ?_
  refine va_sld hx hb hXs hbl hbA hw.2.2.2 h3 dL_law_1156 ?_
  rw [e3]
  refine lv_aload_n hx hb dL_law_1157 rfl (lv_at hl 0 rfl) ?_
  refine lv_iload_n hx hb dL_law_1158 rfl (lv_at hl 3 rfl) ?_
  refine lv_iconst (v := 4) hx hb dL_law_1159 (by decide) ?_
  refine lv_iadd hx hb dL_law_1160 ?_
  refine va_sld hx hb hXs hbl hbA hw.2.2.2 h4 dL_law_1161 ?_
  rw [e4]
  refine lv_aload_n hx hb dL_law_1162 rfl (lv_at hl 0 rfl) ?_
  refine lv_iload_n hx hb dL_law_1163 rfl (lv_at hl 3 rfl) ?_
  refine lv_iconst (v := 5) hx hb dL_law_1164 (by decide) ?_
  refine lv_iadd hx hb dL_law_1165 ?_
  refine va_sld hx hb hXs hbl hbA hw.2.2.2 h5 dL_law_1166 ?_
  rw [e5]
  refine l_XI (st := []) (lv := [(0, .ref b), (1, .ref (ax 0)), (2, .ref (am 0)), (3, .int x3)]) hc hw [.int a1, .int a2, .int a3, .int a4, .int a5] (c_X11_copy (l := l) (w := wX D C KV nc ax) ⟨rfl, rfl, hw.1⟩ σx a1 a2 a3 a4 a5 _ f1) yk_X11_copy rfl lm_L_141 rfl ⟨rfl, rfl⟩ rfl hl ⟨by omega, by omega⟩ dL_law_1167 (fun H locs hw => ?_)
  refine lv_aload_n hx hb dL_law_1170 rfl (lv_at hl 2 rfl) ?_
  refine lv_aload_n hx hb dL_law_1171 rfl (lv_at hl 0 rfl) ?_
  refine lv_iload_n hx hb dL_law_1172 rfl (lv_at hl 3 rfl) ?_
  refine lv_iconst (v := 1) hx hb dL_law_1173 (by decide) ?_
  refine lv_iadd hx hb dL_law_1174 ?_
  refine va_sld hx hb hXs hbl hbA hw.2.2.2 h1 dL_law_1175 ?_
  rw [e1]
  refine lv_aload_n hx hb dL_law_1176 rfl (lv_at hl 0 rfl) ?_
  refine lv_iload_n hx hb dL_law_1177 rfl (lv_at hl 3 rfl) ?_
  refine lv_iconst (v := 2) hx hb dL_law_1178 (by decide) ?_
  refine lv_iadd hx hb dL_law_1179 ?_
  refine va_sld hx hb hXs hbl hbA hw.2.2.2 h2 dL_law_1180 ?_
  rw [e2]
  refine lv_aload_n hx hb dL_law_1181 rfl (lv_at hl 0 rfl) ?_
  refine lv_iload_n hx hb dL_law_1182 rfl (lv_at hl 3 rfl) ?_
  refine lv_iconst (v := 3) hx hb dL_law_1183 (by decide) ?_
  refine lv_iadd hx hb dL_law_1184 ?_
  refine va_sld hx hb hXs hbl hbA hw.2.2.2 h3 dL_law_1185 ?_
  rw [e3]
  refine lv_aload_n hx hb dL_law_1186 rfl (lv_at hl 0 rfl) ?_
  refine lv_iload_n hx hb dL_law_1187 rfl (lv_at hl 3 rfl) ?_
  refine lv_iconst (v := 4) hx hb dL_law_1188 (by decide) ?_
  refine lv_iadd hx hb dL_law_1189 ?_
  refine va_sld hx hb hXs hbl hbA hw.2.2.2 h4 dL_law_1190 ?_
  rw [e4]
  refine lv_aload_n hx hb dL_law_1191 rfl (lv_at hl 0 rfl) ?_
  refine lv_iload_n hx hb dL_law_1192 rfl (lv_at hl 3 rfl) ?_
  refine lv_iconst (v := 5) hx hb dL_law_1193 (by decide) ?_
  refine lv_iadd hx hb dL_law_1194 ?_
  refine va_sld hx hb hXs hbl hbA hw.2.2.2 h5 dL_law_1195 ?_
  rw [e5]
  refine l_MI (st := [.int r]) (lv := [(0, .ref b), (1, .ref (ax 0)), (2, .ref (am 0)), (3, .int x3)]) hc hw [.int a1, .int a2, .int a3, .int a4, .int a5] (c_X12_copy (l := l) (w := wM D C KV am) ⟨rfl, rfl, Nat.le_refl 29⟩ σm a1 a2 a3 a4 a5 _ f2) yk_X12_copy rfl lm_L_145 rfl ⟨rfl, rfl⟩ rfl hl ⟨by omega, by omega⟩ dL_law_1196 (fun H locs hw => ?_)
  refine lv_icmp_eq (tgt := 1300) hx hb dL_law_1199 (by decide) (fun c9 => ?_) (fun c9 => absurd rfl c9)
  refine W.widen (k := cells + 2) (n := slots + 162) (by omega) (by omega) ?_
  exact hnext nc ax σx' σm' H locs f3 rfl hw
set_option maxHeartbeats 4000000 in
set_option maxRecDepth 100000 in
theorem law_30 {p : Program} {l : Launch} {e : Env} {s : State} {m : MethodId} {below : List Frame} {meth : Method} {c : Code} {b L : Nat} {xs : Nat → Int32} {D : va_G} {C : Nat → ClassId} {KV : (Nat → Nat) × (Nat → Nat)} {nc : Nat} {ax am : Nat → Nat} {σx σm : St} {H : Heap} {locs : List Loc} {cells slots : Nat} {Q : State → Prop} {ls : Array Slot} {Inv : Nat → St → St → Prop} {x3 : Int32} (hp : P_pieces Inv) (hI : Inv nc σx σm) (hc : Lc p s m meth c b L xs D C KV) (hw : Wst D C KV s nc ax am σx σm H locs) (h1 : vp_in (x3 + 1) L) (h2 : vp_in (x3 + 2) L) (h3 : vp_in (x3 + 3) L) (h4 : vp_in (x3 + 4) L) (h5 : vp_in (x3 + 5) L) (a1 a2 a3 a4 a5 : Int32) (e1 : xs (x3 + 1).toNatClampNeg = a1) (e2 : xs (x3 + 2).toNatClampNeg = a2) (e3 : xs (x3 + 3).toNatClampNeg = a3) (e4 : xs (x3 + 4).toNatClampNeg = a4) (e5 : xs (x3 + 5).toNatClampNeg = a5) (hl : lv_has ls 4 [(0, .ref b), (1, .ref (ax 0)), (2, .ref (am 0)), (3, .int x3)]) (hcap : cells + 2 ≤ 600000 ∧ slots + 162 ≤ 7302250) (hnext : ∀ (nc' : Nat) (ax' : Nat → Nat) (σx' σm' : St) (H1 : Heap) (locs1 : List Loc), Inv nc' σx' σm' → ax' 0 = ax 0 → Wst D C KV s nc' ax' am σx' σm' H1 locs1 → W p l e room_1 s m #[Value.ref b] below meth c H1 locs1 (cells + 2) (slots + 162) Q (F0 m 1300 ls [])) : W p l e room_1 s m #[Value.ref b] below meth c H locs cells slots Q (F0 m 1204 ls []) := by
  obtain ⟨⟨hx, hb, hml, hown, hts⟩, hK, hX, hXs, hbl, hr, hlk⟩ := id hc
  have hbA : ¬ Ge s b := Nat.not_le.mpr hbl
  obtain ⟨r, σx', σm', f1, f2, f3⟩ := hp nc σx σm a1 a2 a3 a4 hI
  refine lv_aload_n hx hb dL_law_1204 rfl (lv_at hl 1 rfl) ?_
  refine lv_aload_n hx hb dL_law_1205 rfl (lv_at hl 0 rfl) ?_
  refine lv_iload_n hx hb dL_law_1206 rfl (lv_at hl 3 rfl) ?_
  refine lv_iconst (v := 1) hx hb dL_law_1207 (by decide) ?_
  refine lv_iadd hx hb dL_law_1208 ?_
  refine va_sld hx hb hXs hbl hbA hw.2.2.2 h1 dL_law_1209 ?_
  rw [e1]
  refine lv_aload_n hx hb dL_law_1210 rfl (lv_at hl 0 rfl) ?_
  refine lv_iload_n hx hb dL_law_1211 rfl (lv_at hl 3 rfl) ?_
  refine lv_iconst (v := 2) hx hb dL_law_1212 (by decide) ?_
  refine lv_iadd hx hb dL_law_1213 ?_
  refine va_sld hx hb hXs hbl hbA hw.2.2.2 h2 dL_law_1214 ?_
  rw [e2]
  refine lv_aload_n hx hb dL_law_1215 rfl (lv_at hl 0 rfl) ?_
  refine lv_iload_n hx hb dL_law_1216 rfl (lv_at hl 3 rfl) ?_
  refine lv_iconst (v := 3) hx hb dL_law_1217 (by decide) ?_
  refine lv_iadd hx hb dL_law_1218 ?_
  refine va_sld hx hb hXs hbl hbA hw.2.2.2 h3 dL_law_1219 ?_
  rw [e3]
  refine lv_aload_n hx hb dL_law_1220 rfl (lv_at hl 0 rfl) ?_
  refine lv_iload_n hx hb dL_law_1221 rfl (lv_at hl 3 rfl) ?_
  refine lv_iconst (v := 4) hx hb dL_law_1222 (by decide) ?_
  refine lv_iadd hx hb dL_law_1223 ?_
  refine va_sld hx hb hXs hbl hbA hw.2.2.2 h4 dL_law_1224 ?_
  rw [e4]
  refine l_XI (st := []) (lv := [(0, .ref b), (1, .ref (ax 0)), (2, .ref (am 0)), (3, .int x3)]) hc hw [.int a1, .int a2, .int a3, .int a4] (c_X11_pieces (l := l) (w := wX D C KV nc ax) ⟨rfl, rfl, hw.1⟩ σx a1 a2 a3 a4 _ f1) yk_X11_pieces rfl lm_L_146 rfl ⟨rfl, rfl⟩ rfl hl ⟨by omega, by omega⟩ dL_law_1225 (fun H locs hw => ?_)
  refine lv_aload_n hx hb dL_law_1228 rfl (lv_at hl 2 rfl) ?_
  refine lv_aload_n hx hb dL_law_1229 rfl (lv_at hl 0 rfl) ?_
  refine lv_iload_n hx hb dL_law_1230 rfl (lv_at hl 3 rfl) ?_
  refine lv_iconst (v := 1) hx hb dL_law_1231 (by decide) ?_
  refine lv_iadd hx hb dL_law_1232 ?_
  refine va_sld hx hb hXs hbl hbA hw.2.2.2 h1 dL_law_1233 ?_
  rw [e1]
  refine lv_aload_n hx hb dL_law_1234 rfl (lv_at hl 0 rfl) ?_
  refine lv_iload_n hx hb dL_law_1235 rfl (lv_at hl 3 rfl) ?_
  refine lv_iconst (v := 2) hx hb dL_law_1236 (by decide) ?_
  refine lv_iadd hx hb dL_law_1237 ?_
  refine va_sld hx hb hXs hbl hbA hw.2.2.2 h2 dL_law_1238 ?_
  rw [e2]
  refine lv_aload_n hx hb dL_law_1239 rfl (lv_at hl 0 rfl) ?_
  refine lv_iload_n hx hb dL_law_1240 rfl (lv_at hl 3 rfl) ?_
  refine lv_iconst (v := 3) hx hb dL_law_1241 (by decide) ?_
  refine lv_iadd hx hb dL_law_1242 ?_
  refine va_sld hx hb hXs hbl hbA hw.2.2.2 h3 dL_law_1243 ?_
  rw [e3]
  refine lv_aload_n hx hb dL_law_1244 rfl (lv_at hl 0 rfl) ?_
  refine lv_iload_n hx hb dL_law_1245 rfl (lv_at hl 3 rfl) ?_
  refine lv_iconst (v := 4) hx hb dL_law_1246 (by decide) ?_
  refine lv_iadd hx hb dL_law_1247 ?_
  refine va_sld hx hb hXs hbl hbA hw.2.2.2 h4 dL_law_1248 ?_
  rw [e4]
  refine l_MI (st := [.int r]) (lv := [(0, .ref b), (1, .ref (ax 0)), (2, .ref (am 0)), (3, .int x3)]) hc hw [.int a1, .int a2, .int a3, .int a4] (c_X12_pieces (l := l) (w := wM D C KV am) ⟨rfl, rfl, Nat.le_refl 29⟩ σm a1 a2 a3 a4 _ f2) yk_X12_pieces rfl lm_L_149 rfl ⟨rfl, rfl⟩ rfl hl ⟨by omega, by omega⟩ dL_law_1249 (fun H locs hw => ?_)
  refine lv_icmp_eq (tgt := 1300) hx hb dL_law_1252 (by decide) (fun c9 => ?_) (fun c9 => absurd rfl c9)
  refine W.widen (k := cells + 2) (n := slots + 162) (by omega) (by omega) ?_
  exact hnext nc ax σx' σm' H locs f3 rfl hw
set_option maxHeartbeats 4000000 in
set_option maxRecDepth 100000 in
theorem law_31 {p : Program} {l : Launch} {e : Env} {s : State} {m : MethodId} {below : List Frame} {meth : Method} {c : Code} {b L : Nat} {xs : Nat → Int32} {D : va_G} {C : Nat → ClassId} {KV : (Nat → Nat) × (Nat → Nat)} {nc : Nat} {ax am : Nat → Nat} {σx σm : St} {H : Heap} {locs : List Loc} {cells slots : Nat} {Q : State → Prop} {ls : Array Slot} {Inv : Nat → St → St → Prop} {x3 : Int32} (hp : P_taken Inv) (hI : Inv nc σx σm) (hc : Lc p s m meth c b L xs D C KV) (hw : Wst D C KV s nc ax am σx σm H locs) (h1 : vp_in (x3 + 1) L) (h2 : vp_in (x3 + 2) L) (h3 : vp_in (x3 + 3) L) (h4 : vp_in (x3 + 4) L) (h5 : vp_in (x3 + 5) L) (a1 a2 a3 a4 a5 : Int32) (e1 : xs (x3 + 1).toNatClampNeg = a1) (e2 : xs (x3 + 2).toNatClampNeg = a2) (e3 : xs (x3 + 3).toNatClampNeg = a3) (e4 : xs (x3 + 4).toNatClampNeg = a4) (e5 : xs (x3 + 5).toNatClampNeg = a5) (hl : lv_has ls 4 [(0, .ref b), (1, .ref (ax 0)), (2, .ref (am 0)), (3, .int x3)]) (hcap : cells + 2 ≤ 600000 ∧ slots + 162 ≤ 7302250) (hnext : ∀ (nc' : Nat) (ax' : Nat → Nat) (σx' σm' : St) (H1 : Heap) (locs1 : List Loc), Inv nc' σx' σm' → ax' 0 = ax 0 → Wst D C KV s nc' ax' am σx' σm' H1 locs1 → W p l e room_1 s m #[Value.ref b] below meth c H1 locs1 (cells + 2) (slots + 162) Q (F0 m 1300 ls [])) : W p l e room_1 s m #[Value.ref b] below meth c H locs cells slots Q (F0 m 1257 ls []) := by
  obtain ⟨⟨hx, hb, hml, hown, hts⟩, hK, hX, hXs, hbl, hr, hlk⟩ := id hc
  have hbA : ¬ Ge s b := Nat.not_le.mpr hbl
  obtain ⟨r, f1, f2, f3⟩ := hp nc σx σm a1 a2 a3 hI
  refine lv_aload_n hx hb dL_law_1257 rfl (lv_at hl 1 rfl) ?_
  refine lv_aload_n hx hb dL_law_1258 rfl (lv_at hl 0 rfl) ?_
  refine lv_iload_n hx hb dL_law_1259 rfl (lv_at hl 3 rfl) ?_
  refine lv_iconst (v := 1) hx hb dL_law_1260 (by decide) ?_
  refine lv_iadd hx hb dL_law_1261 ?_
  refine va_sld hx hb hXs hbl hbA hw.2.2.2 h1 dL_law_1262 ?_
  rw [e1]
  refine lv_aload_n hx hb dL_law_1263 rfl (lv_at hl 0 rfl) ?_
  refine lv_iload_n hx hb dL_law_1264 rfl (lv_at hl 3 rfl) ?_
  refine lv_iconst (v := 2) hx hb dL_law_1265 (by decide) ?_
  refine lv_iadd hx hb dL_law_1266 ?_
  refine va_sld hx hb hXs hbl hbA hw.2.2.2 h2 dL_law_1267 ?_
  rw [e2]
  refine lv_aload_n hx hb dL_law_1268 rfl (lv_at hl 0 rfl) ?_
  refine lv_iload_n hx hb dL_law_1269 rfl (lv_at hl 3 rfl) ?_
  refine lv_iconst (v := 3) hx hb dL_law_1270 (by decide) ?_
  refine lv_iadd hx hb dL_law_1271 ?_
  refine va_sld hx hb hXs hbl hbA hw.2.2.2 h3 dL_law_1272 ?_
  rw [e3]
  refine l_XI (st := []) (lv := [(0, .ref b), (1, .ref (ax 0)), (2, .ref (am 0)), (3, .int x3)]) hc hw [.int a1, .int a2, .int a3] (c_X11_taken (l := l) (w := wX D C KV nc ax) ⟨rfl, rfl, hw.1⟩ σx a1 a2 a3 _ f1) yk_X11_taken rfl lm_L_150 rfl ⟨rfl, rfl⟩ rfl hl ⟨by omega, by omega⟩ dL_law_1273 (fun H locs hw => ?_)
  refine lv_aload_n hx hb dL_law_1276 rfl (lv_at hl 2 rfl) ?_
  refine lv_aload_n hx hb dL_law_1277 rfl (lv_at hl 0 rfl) ?_
  refine lv_iload_n hx hb dL_law_1278 rfl (lv_at hl 3 rfl) ?_
  refine lv_iconst (v := 1) hx hb dL_law_1279 (by decide) ?_
  refine lv_iadd hx hb dL_law_1280 ?_
  refine va_sld hx hb hXs hbl hbA hw.2.2.2 h1 dL_law_1281 ?_
  rw [e1]
  refine lv_aload_n hx hb dL_law_1282 rfl (lv_at hl 0 rfl) ?_
  refine lv_iload_n hx hb dL_law_1283 rfl (lv_at hl 3 rfl) ?_
  refine lv_iconst (v := 2) hx hb dL_law_1284 (by decide) ?_
  refine lv_iadd hx hb dL_law_1285 ?_
  refine va_sld hx hb hXs hbl hbA hw.2.2.2 h2 dL_law_1286 ?_
  rw [e2]
  refine lv_aload_n hx hb dL_law_1287 rfl (lv_at hl 0 rfl) ?_
  refine lv_iload_n hx hb dL_law_1288 rfl (lv_at hl 3 rfl) ?_
  refine lv_iconst (v := 3) hx hb dL_law_1289 (by decide) ?_
  refine lv_iadd hx hb dL_law_1290 ?_
  refine va_sld hx hb hXs hbl hbA hw.2.2.2 h3 dL_law_1291 ?_
  rw [e3]
  refine l_MI (st := [.int r]) (lv := [(0, .ref b), (1, .ref (ax 0)), (2, .ref (am 0)), (3, .int x3)]) hc hw [.int a1, .int a2, .int a3] (c_X12_taken (l := l) (w := wM D C KV am) ⟨rfl, rfl, Nat.le_refl 29⟩ σm a1 a2 a3 _ f2) yk_X12_taken rfl lm_L_153 rfl ⟨rfl, rfl⟩ rfl hl ⟨by omega, by omega⟩ dL_law_1292 (fun H locs hw => ?_)
  refine lv_icmp_eq (tgt := 1300) hx hb dL_law_1295 (by decide) (fun c9 => ?_) (fun c9 => absurd rfl c9)
  refine W.widen (k := cells + 2) (n := slots + 162) (by omega) (by omega) ?_
  exact hnext nc ax σx σm H locs f3 rfl hw
