theorem lm_X11_1 : Cond.methodLink RX11 1 objectInit ∈ gw := gw_t1 28 rfl rfl
theorem lk_X11_7 : Cond.classLink RX11 7 RX2 ∈ gw := gw_t1 31 rfl rfl
theorem li_X2 : Cond.instantiable RX2 5 ∈ gw := gw_t1 32 rfl rfl
theorem lini_X2 : Cond.initialized RX2 ∈ gw := gw_t1 2 rfl rfl
theorem yi_X2_init : YI yX2_init cX2_init 1 0 := ⟨gw_t1 35 rfl rfl, gw_t1 34 rfl rfl, gw_t1 2 rfl rfl, rfl, by decide +kernel⟩
theorem lk_X11_16 : Cond.classLink RX11 16 RX0 ∈ gw := gw_t1 63 rfl rfl
theorem li_X0 : Cond.instantiable RX0 5 ∈ gw := gw_t1 64 rfl rfl
theorem lini_X0 : Cond.initialized RX0 ∈ gw := gw_t1 3 rfl rfl
theorem yi_X0_init : YI yX0_init cX0_init 2 0 := ⟨gw_t1 67 rfl rfl, gw_t1 66 rfl rfl, gw_t1 3 rfl rfl, rfl, by decide +kernel⟩
theorem lm_X11_18 : Cond.methodLink RX11 18 yX0_init ∈ gw := gw_t1 65 rfl rfl
theorem lk_X11_34 : Cond.classLink RX11 34 RX8 ∈ gw := gw_t1 95 rfl rfl
theorem li_X8 : Cond.instantiable RX8 2 ∈ gw := gw_t1 96 rfl rfl
theorem lini_X8 : Cond.initialized RX8 ∈ gw := gw_t1 4 rfl rfl
theorem yi_X8_init : YI yX8_init cX8_init 1 0 := ⟨gw_t1 99 rfl rfl, gw_t1 98 rfl rfl, gw_t1 4 rfl rfl, rfl, by decide +kernel⟩
theorem lk_X11_41 : Cond.classLink RX11 41 RX9 ∈ gw := gw_t1 112 rfl rfl
theorem li_X9 : Cond.instantiable RX9 7 ∈ gw := gw_t1 113 rfl rfl
theorem lini_X9 : Cond.initialized RX9 ∈ gw := gw_t1 5 rfl rfl
theorem yi_X9_init : YI yX9_init cX9_init 2 1 := ⟨gw_t1 116 rfl rfl, gw_t1 115 rfl rfl, gw_t1 5 rfl rfl, rfl, by decide +kernel⟩
theorem lm_X11_43 : Cond.methodLink RX11 43 yX9_init ∈ gw := gw_t1 114 rfl rfl
theorem lf_X11_46 : Cond.fieldLink RX11 46 (TX11 7).1 (TX11 7).2.1 (TX11 7).2.2.1 ∈ gw := gw_t2 70 rfl rfl
theorem lk_X11_50 : Cond.classLink RX11 50 RX6 ∈ gw := gw_t1 140 rfl rfl
theorem li_X6 : Cond.instantiable RX6 2 ∈ gw := gw_t1 142 rfl rfl
theorem lini_X6 : Cond.initialized RX6 ∈ gw := gw_t1 6 rfl rfl
theorem yi_X6_init : YI yX6_init cX6_init 3 2 := ⟨gw_t1 145 rfl rfl, gw_t1 144 rfl rfl, gw_t1 6 rfl rfl, rfl, by decide +kernel⟩
theorem lm_X11_56 : Cond.methodLink RX11 56 yX6_init ∈ gw := gw_t1 143 rfl rfl
theorem lk_X11_62 : Cond.classLink RX11 62 RX4 ∈ gw := gw_t1 154 rfl rfl
theorem li_X4 : Cond.instantiable RX4 4 ∈ gw := gw_t1 155 rfl rfl
theorem lini_X4 : Cond.initialized RX4 ∈ gw := gw_t1 7 rfl rfl
theorem yi_X4_init : YI yX4_init cX4_init 2 1 := ⟨gw_t1 158 rfl rfl, gw_t1 157 rfl rfl, gw_t1 7 rfl rfl, rfl, by decide +kernel⟩
theorem lm_X11_64 : Cond.methodLink RX11 64 yX4_init ∈ gw := gw_t1 156 rfl rfl
theorem lk_X11_69 : Cond.classLink RX11 69 RX1 ∈ gw := gw_t1 178 rfl rfl
theorem li_X1 : Cond.instantiable RX1 15 ∈ gw := gw_t1 179 rfl rfl
theorem lini_X1 : Cond.initialized RX1 ∈ gw := gw_t1 8 rfl rfl
theorem yi_X1_init : YI yX1_init cX1_init 3 2 := ⟨gw_t1 182 rfl rfl, gw_t1 181 rfl rfl, gw_t1 8 rfl rfl, rfl, by decide +kernel⟩
theorem lm_X11_71 : Cond.methodLink RX11 71 yX1_init ∈ gw := gw_t1 180 rfl rfl
theorem lk_X11_78 : Cond.classLink RX11 78 RX10 ∈ gw := gw_t1 236 rfl rfl
theorem li_X10 : Cond.instantiable RX10 8 ∈ gw := gw_t1 237 rfl rfl
theorem lini_X10 : Cond.initialized RX10 ∈ gw := gw_t1 9 rfl rfl
theorem yi_X10_init : YI yX10_init cX10_init 1 0 := ⟨gw_t2 0 rfl rfl, gw_t1 239 rfl rfl, gw_t1 9 rfl rfl, rfl, by decide +kernel⟩
theorem lk_X11_85 : Cond.classLink RX11 85 RX5 ∈ gw := gw_t2 29 rfl rfl
theorem li_X5 : Cond.instantiable RX5 2 ∈ gw := gw_t2 30 rfl rfl
theorem lini_X5 : Cond.initialized RX5 ∈ gw := gw_t1 10 rfl rfl
theorem yi_X5_init : YI yX5_init cX5_init 1 0 := ⟨gw_t2 33 rfl rfl, gw_t2 32 rfl rfl, gw_t1 10 rfl rfl, rfl, by decide +kernel⟩
theorem lk_X11_92 : Cond.classLink RX11 92 RX7 ∈ gw := gw_t2 43 rfl rfl
theorem li_X7 : Cond.instantiable RX7 3 ∈ gw := gw_t2 44 rfl rfl
theorem lini_X7 : Cond.initialized RX7 ∈ gw := gw_t1 11 rfl rfl
theorem yi_X7_init : YI yX7_init cX7_init 1 0 := ⟨gw_t2 47 rfl rfl, gw_t2 46 rfl rfl, gw_t1 11 rfl rfl, rfl, by decide +kernel⟩
theorem dX11_init_0 : decode cX11_init 0 = .ok (.aload_n 0, 1) := by decide +kernel
theorem dX11_init_1 : decode cX11_init 1 = .ok (.invokespecial 1, 3) := by decide +kernel
theorem dX11_init_4 : decode cX11_init 4 = .ok (.aload_n 0, 1) := by decide +kernel
theorem dX11_init_5 : decode cX11_init 5 = .ok (.new 7, 3) := by decide +kernel
theorem dX11_init_8 : decode cX11_init 8 = .ok (.dup, 1) := by decide +kernel
theorem dX11_init_9 : decode cX11_init 9 = .ok (.invokespecial 9, 3) := by decide +kernel
theorem dX11_init_12 : decode cX11_init 12 = .ok (.putfield 10, 3) := by decide +kernel
theorem dX11_init_15 : decode cX11_init 15 = .ok (.aload_n 0, 1) := by decide +kernel
theorem dX11_init_16 : decode cX11_init 16 = .ok (.new 16, 3) := by decide +kernel
theorem dX11_init_19 : decode cX11_init 19 = .ok (.dup, 1) := by decide +kernel
theorem dX11_init_20 : decode cX11_init 20 = .ok (.invokespecial 18, 3) := by decide +kernel
theorem dX11_init_23 : decode cX11_init 23 = .ok (.putfield 19, 3) := by decide +kernel
theorem dX11_init_26 : decode cX11_init 26 = .ok (.aload_n 0, 1) := by decide +kernel
theorem dX11_init_27 : decode cX11_init 27 = .ok (.new 16, 3) := by decide +kernel
theorem dX11_init_30 : decode cX11_init 30 = .ok (.dup, 1) := by decide +kernel
theorem dX11_init_31 : decode cX11_init 31 = .ok (.invokespecial 18, 3) := by decide +kernel
theorem dX11_init_34 : decode cX11_init 34 = .ok (.putfield 23, 3) := by decide +kernel
theorem dX11_init_37 : decode cX11_init 37 = .ok (.aload_n 0, 1) := by decide +kernel
theorem dX11_init_38 : decode cX11_init 38 = .ok (.bipush 16, 2) := by decide +kernel
theorem dX11_init_40 : decode cX11_init 40 = .ok (.newarray .int, 2) := by decide +kernel
theorem dX11_init_42 : decode cX11_init 42 = .ok (.putfield 26, 3) := by decide +kernel
theorem dX11_init_45 : decode cX11_init 45 = .ok (.aload_n 0, 1) := by decide +kernel
theorem dX11_init_46 : decode cX11_init 46 = .ok (.iconst (-1), 1) := by decide +kernel
theorem dX11_init_47 : decode cX11_init 47 = .ok (.putfield 30, 3) := by decide +kernel
theorem dX11_init_50 : decode cX11_init 50 = .ok (.aload_n 0, 1) := by decide +kernel
theorem dX11_init_51 : decode cX11_init 51 = .ok (.new 34, 3) := by decide +kernel
theorem dX11_init_54 : decode cX11_init 54 = .ok (.dup, 1) := by decide +kernel
theorem dX11_init_55 : decode cX11_init 55 = .ok (.invokespecial 36, 3) := by decide +kernel
theorem dX11_init_58 : decode cX11_init 58 = .ok (.putfield 37, 3) := by decide +kernel
theorem dX11_init_61 : decode cX11_init 61 = .ok (.aload_n 0, 1) := by decide +kernel
theorem dX11_init_62 : decode cX11_init 62 = .ok (.new 41, 3) := by decide +kernel
theorem dX11_init_65 : decode cX11_init 65 = .ok (.dup, 1) := by decide +kernel
theorem dX11_init_66 : decode cX11_init 66 = .ok (.aload_n 0, 1) := by decide +kernel
theorem dX11_init_67 : decode cX11_init 67 = .ok (.getfield 37, 3) := by decide +kernel
theorem dX11_init_70 : decode cX11_init 70 = .ok (.invokespecial 43, 3) := by decide +kernel
theorem dX11_init_73 : decode cX11_init 73 = .ok (.putfield 46, 3) := by decide +kernel
theorem dX11_init_76 : decode cX11_init 76 = .ok (.aload_n 0, 1) := by decide +kernel
theorem dX11_init_77 : decode cX11_init 77 = .ok (.bipush 6, 2) := by decide +kernel
theorem dX11_init_79 : decode cX11_init 79 = .ok (.anewarray 50, 3) := by decide +kernel
theorem dX11_init_82 : decode cX11_init 82 = .ok (.putfield 52, 3) := by decide +kernel
theorem dX11_init_85 : decode cX11_init 85 = .ok (.bipush 6, 2) := by decide +kernel
theorem dX11_init_87 : decode cX11_init 87 = .ok (.newarray .int, 2) := by decide +kernel
theorem dX11_init_89 : decode cX11_init 89 = .ok (.dup, 1) := by decide +kernel
theorem dX11_init_90 : decode cX11_init 90 = .ok (.iconst 0, 1) := by decide +kernel
theorem dX11_init_91 : decode cX11_init 91 = .ok (.sipush 10000, 3) := by decide +kernel
theorem dX11_init_94 : decode cX11_init 94 = .ok (.iastore, 1) := by decide +kernel
theorem dX11_init_95 : decode cX11_init 95 = .ok (.dup, 1) := by decide +kernel
theorem dX11_init_96 : decode cX11_init 96 = .ok (.iconst 1, 1) := by decide +kernel
theorem dX11_init_97 : decode cX11_init 97 = .ok (.sipush 10003, 3) := by decide +kernel
theorem dX11_init_100 : decode cX11_init 100 = .ok (.iastore, 1) := by decide +kernel
theorem dX11_init_101 : decode cX11_init 101 = .ok (.dup, 1) := by decide +kernel
theorem dX11_init_102 : decode cX11_init 102 = .ok (.iconst 2, 1) := by decide +kernel
theorem dX11_init_103 : decode cX11_init 103 = .ok (.sipush 20043, 3) := by decide +kernel
theorem dX11_init_106 : decode cX11_init 106 = .ok (.iastore, 1) := by decide +kernel
theorem dX11_init_107 : decode cX11_init 107 = .ok (.dup, 1) := by decide +kernel
theorem dX11_init_108 : decode cX11_init 108 = .ok (.iconst 3, 1) := by decide +kernel
theorem dX11_init_109 : decode cX11_init 109 = .ok (.sipush 10004, 3) := by decide +kernel
theorem dX11_init_112 : decode cX11_init 112 = .ok (.iastore, 1) := by decide +kernel
theorem dX11_init_113 : decode cX11_init 113 = .ok (.dup, 1) := by decide +kernel
theorem dX11_init_114 : decode cX11_init 114 = .ok (.iconst 4, 1) := by decide +kernel
theorem dX11_init_115 : decode cX11_init 115 = .ok (.iconst 2, 1) := by decide +kernel
theorem dX11_init_116 : decode cX11_init 116 = .ok (.iastore, 1) := by decide +kernel
theorem dX11_init_117 : decode cX11_init 117 = .ok (.dup, 1) := by decide +kernel
theorem dX11_init_118 : decode cX11_init 118 = .ok (.iconst 5, 1) := by decide +kernel
theorem dX11_init_119 : decode cX11_init 119 = .ok (.sipush 20042, 3) := by decide +kernel
theorem dX11_init_122 : decode cX11_init 122 = .ok (.iastore, 1) := by decide +kernel
theorem dX11_init_123 : decode cX11_init 123 = .ok (.astore_n 1, 1) := by decide +kernel
theorem dX11_init_124 : decode cX11_init 124 = .ok (.aload_n 0, 1) := by decide +kernel
theorem dX11_init_125 : decode cX11_init 125 = .ok (.getfield 52, 3) := by decide +kernel
theorem dX11_init_128 : decode cX11_init 128 = .ok (.iconst 0, 1) := by decide +kernel
theorem dX11_init_129 : decode cX11_init 129 = .ok (.new 50, 3) := by decide +kernel
theorem dX11_init_132 : decode cX11_init 132 = .ok (.dup, 1) := by decide +kernel
theorem dX11_init_133 : decode cX11_init 133 = .ok (.aload_n 1, 1) := by decide +kernel
theorem dX11_init_134 : decode cX11_init 134 = .ok (.iconst 3, 1) := by decide +kernel
theorem dX11_init_135 : decode cX11_init 135 = .ok (.invokespecial 56, 3) := by decide +kernel
theorem dX11_init_138 : decode cX11_init 138 = .ok (.aastore, 1) := by decide +kernel
theorem dX11_init_139 : decode cX11_init 139 = .ok (.aload_n 0, 1) := by decide +kernel
theorem dX11_init_140 : decode cX11_init 140 = .ok (.iconst 1, 1) := by decide +kernel
theorem dX11_init_141 : decode cX11_init 141 = .ok (.putfield 59, 3) := by decide +kernel
theorem dX11_init_144 : decode cX11_init 144 = .ok (.aload_n 0, 1) := by decide +kernel
theorem dX11_init_145 : decode cX11_init 145 = .ok (.new 62, 3) := by decide +kernel
theorem dX11_init_148 : decode cX11_init 148 = .ok (.dup, 1) := by decide +kernel
theorem dX11_init_149 : decode cX11_init 149 = .ok (.aload_n 0, 1) := by decide +kernel
theorem dX11_init_150 : decode cX11_init 150 = .ok (.getfield 37, 3) := by decide +kernel
theorem dX11_init_153 : decode cX11_init 153 = .ok (.invokespecial 64, 3) := by decide +kernel
theorem dX11_init_156 : decode cX11_init 156 = .ok (.putfield 65, 3) := by decide +kernel
theorem dX11_init_159 : decode cX11_init 159 = .ok (.aload_n 0, 1) := by decide +kernel
theorem dX11_init_160 : decode cX11_init 160 = .ok (.new 69, 3) := by decide +kernel
theorem dX11_init_163 : decode cX11_init 163 = .ok (.dup, 1) := by decide +kernel
theorem dX11_init_164 : decode cX11_init 164 = .ok (.aload_n 0, 1) := by decide +kernel
theorem dX11_init_165 : decode cX11_init 165 = .ok (.getfield 10, 3) := by decide +kernel
theorem dX11_init_168 : decode cX11_init 168 = .ok (.aload_n 0, 1) := by decide +kernel
theorem dX11_init_169 : decode cX11_init 169 = .ok (.getfield 19, 3) := by decide +kernel
theorem dX11_init_172 : decode cX11_init 172 = .ok (.invokespecial 71, 3) := by decide +kernel
theorem dX11_init_175 : decode cX11_init 175 = .ok (.putfield 74, 3) := by decide +kernel
theorem dX11_init_178 : decode cX11_init 178 = .ok (.aload_n 0, 1) := by decide +kernel
theorem dX11_init_179 : decode cX11_init 179 = .ok (.new 78, 3) := by decide +kernel
theorem dX11_init_182 : decode cX11_init 182 = .ok (.dup, 1) := by decide +kernel
theorem dX11_init_183 : decode cX11_init 183 = .ok (.invokespecial 80, 3) := by decide +kernel
theorem dX11_init_186 : decode cX11_init 186 = .ok (.putfield 81, 3) := by decide +kernel
theorem dX11_init_189 : decode cX11_init 189 = .ok (.aload_n 0, 1) := by decide +kernel
theorem dX11_init_190 : decode cX11_init 190 = .ok (.new 85, 3) := by decide +kernel
theorem dX11_init_193 : decode cX11_init 193 = .ok (.dup, 1) := by decide +kernel
theorem dX11_init_194 : decode cX11_init 194 = .ok (.invokespecial 87, 3) := by decide +kernel
theorem dX11_init_197 : decode cX11_init 197 = .ok (.putfield 88, 3) := by decide +kernel
theorem dX11_init_200 : decode cX11_init 200 = .ok (.aload_n 0, 1) := by decide +kernel
theorem dX11_init_201 : decode cX11_init 201 = .ok (.new 92, 3) := by decide +kernel
theorem dX11_init_204 : decode cX11_init 204 = .ok (.dup, 1) := by decide +kernel
theorem dX11_init_205 : decode cX11_init 205 = .ok (.invokespecial 94, 3) := by decide +kernel
theorem dX11_init_208 : decode cX11_init 208 = .ok (.putfield 95, 3) := by decide +kernel
theorem dX11_init_211 : decode cX11_init 211 = .ok (.return_, 1) := by decide +kernel
theorem iX0_abs {KV : (Nat → Nat) × (Nat → Nat)} {l : Launch} {D : va_G} {C : Nat → ClassId} : ∃ sb : St, sb = sb1 ∧ ∀ h0 : Nat, MtC KV l yX0_init cX0_init 2 1 3 24 12 D C [.ref h0] [(h0, .inr (0, [.null, .null, .null, .int 0, .int 0]))] (fun u => wls (mkW D C shB rB 4 (adh h0 (u 0)) KV) sb) := ⟨sb1, rfl, fun h0 => i_X0_init h0⟩
def rowsX (sb : St) : List (Nat → Int32) := [fun j => if j = 4 then -1 else if j = 9 then 1 else 0, fun _ => 0, fun _ => 0, fun _ => 0, fun _ => 0, fun _ => 0, sb.1 0, sb.1 1, sb.1 2, sb.1 3, sb.1 0, sb.1 1, sb.1 2, sb.1 3, fun _ => 0, fun _ => 0, fun _ => 0, fun _ => 0, fun _ => 0, fun _ => 0, fun _ => 0, fun _ => 0, fun _ => 0, fun _ => 0, fun _ => 0, fun _ => 0, fun _ => 0, fun _ => 0, fun _ => 0, fun _ => 0, fun _ => 0, fun _ => 0, fun _ => 0, fun _ => 0, fun _ => 0, fun _ => 0, fun _ => 0, fun _ => 0, fun _ => 0, fun _ => 0, fun _ => 0, fun _ => 0, fun _ => 0, fun _ => 0, fun _ => 0, fun _ => 0, fun _ => 0, fun _ => 0, fun _ => 0, fun _ => 0, fun _ => 0, fun _ => 0, fun _ => 0, fun _ => 0, fun _ => 0, fun _ => 0, fun _ => 0, fun _ => 0, fun _ => 0, upd (upd (upd (upd (fun _ => 0) 0 (-1)) 1 (-1)) 2 (-1)) 3 (-1), fun _ => 0, fun _ => 0, fun _ => 0, fun _ => 0, fun _ => 0, fun _ => 0, fun j => if j = 1 then 3 else 0, (upd (upd (upd (upd (upd (upd (fun _ => 0) 0 10000) 1 10003) 2 20043) 3 10004) 4 2) 5 20042)]
/-- the class's first state -/
def sxF (sb : St) : St := (fun k => (rowsX sb).getD k (fun _ => 0), fun _ _ => 0, fun k j => if k = 19 then (if j = 0 then some 66 else none) else none, fun k => if k = 67 then 6 else 0)
def sx0 : St := sxF sb1
set_option maxHeartbeats 4000000 in
set_option maxRecDepth 100000 in
theorem i_X11_init {KV : (Nat → Nat) × (Nat → Nat)} {l : Launch} {D : va_G} {C : Nat → ClassId} (h0 : Nat) : MtC KV l yX11_init cX11_init 2 2 67 6085 34 D C [.ref h0] [(h0, .inr (11, [.null, .null, .null, .null, .int 0, .int 0, .null, .null, .null, .int 0, .int 0, .null, .null, .null, .null, .null]))] (fun u => wls (mkW D C shX rX 68 (adh h0 (u 0)) KV) sx0) := by
  obtain ⟨sb, hsb, iB⟩ := iX0_abs (KV := KV) (l := l) (D := D) (C := C)
  intro sz
  refine Met.ofW (cc := cX11_init) (maxL := 2) (ret := none) (by decide) rfl ?_
  intro p e s m args below meth c s₁ B hml hv
  obtain ⟨rfl, hsz, hP, hK, hD0, hE, hX⟩ := hv
  have hx := B.exec
  have hb := B.bytes
  have hr := B.returns
  have hts0 := atoms_spec (ws := .code yX11_init cX11_init 2 none :: gw) B.pre
  have hts : ∀ w ∈ gw, w.before _ s = true := fun w9 h9 => hts0 w9 (List.mem_cons_of_mem _ h9)
  have hown : s.vm.findClass RX11 = some m.cls := findClass_of_methodNamed B.named
  have hlocks := B.notSynchronized
  have hin : meth.name = "<init>" := (name_of_methodNamed B.named B.method).1
  subst hsz
  have hD := hD0.self (sz := s.heap.size)
  generalize hAe : va_A [(h0, .inr (11, [.null, .null, .null, .null, .int 0, .int 0, .null, .null, .null, .int 0, .int 0, .null, .null, .null, .null, .null]))] s.heap.size = A at hD hX ⊢
  have hA : ∀ q : Nat, s.heap.size ≤ q → A q := fun q h => by rw [← hAe]; exact Or.inr h
  have hS : va_S A s.heap s.heap [] := va_S.rf
  have hl := lv_entry ([.ref h0]) (n := 2) (Nat.le_of_ble_eq_true rfl)
  rw [lg_entry_eq]
  generalize (lg_sl ([.ref h0]) ++ List.replicate (2 - (lg_sl ([.ref h0])).length) Slot.unset).toArray = ls at hl ⊢
  have hl : lv_has ls 2 [(0, .ref h0)] := hl
  refine lv_aload_n hx hb dX11_init_0 rfl (lv_at hl 0 rfl) ?_
  refine W.objInit hx hb hown (hts _ lm_X11_1) (hts _ wo_1) (hts _ wo_2) rfl (by rw [hml]; exact hl.1) rfl dX11_init_1 (Nat.le_of_ble_eq_true rfl) (Nat.le_of_ble_eq_true rfl) ?_
  refine W.eq (g2 := F0 m 4 ls []) rfl ?_
  have hP : va_P D classes ((h0, .inr (11, [.null, .null, .null, .null, .int 0, .int 0, .null, .null, .null, .int 0, .int 0, .null, .null, .null, .null, .null])) :: []) s.heap := hP
  have hD : va_D A ((h0, .inr (11, [.null, .null, .null, .null, .int 0, .int 0, .null, .null, .null, .int 0, .int 0, .null, .null, .null, .null, .null])) :: []) := hD
  refine lv_aload_n hx hb dX11_init_4 rfl (lv_at hl 0 rfl) ?_
  refine va_new (ci := 2) (fs := [.null, .null, .null, .null, .int 0]) (C := RX2) (T := TX2) (N := 5) hx hb hts clX2.ws tyX2 tyX2_ok hown (hts _ lk_X11_7) (hts _ li_X2) (hts _ lini_X2) hK hP hD hS hA rfl (fun j hj => by match j, hj with | 0, _ => exact rfl | 1, _ => exact rfl | 2, _ => exact rfl | 3, _ => exact rfl | 4, _ => exact rfl | n + 5, h9 => exact absurd h9 (by omega)) (Nat.le_of_ble_eq_true rfl) (Nat.le_of_ble_eq_true rfl) dX11_init_5 (fun q1 H hP hD hS => ?_)
  have hP : va_P D classes (((h0, .inr (11, [.null, .null, .null, .null, .int 0, .int 0, .null, .null, .null, .int 0, .int 0, .null, .null, .null, .null, .null])) :: []) ++ [(q1, .inr (2, [.null, .null, .null, .null, .int 0]))]) H := hP
  have hD : va_D A (((h0, .inr (11, [.null, .null, .null, .null, .int 0, .int 0, .null, .null, .null, .int 0, .int 0, .null, .null, .null, .null, .null])) :: []) ++ [(q1, .inr (2, [.null, .null, .null, .null, .int 0]))]) := hD
  refine lv_dup hx hb dX11_init_8 rfl ?_
  refine e_callN (ws := ((h0, .inr (11, [.null, .null, .null, .null, .int 0, .int 0, .null, .null, .null, .int 0, .int 0, .null, .null, .null, .null, .null])) :: [])) (rest := [.ref q1, .ref h0]) ⟨hx, hb, hml, hown, hts⟩ hK hP hD hS hA hE hX hl [] (i_X2_init (KV := KV) q1) yi_X2_init hE.2.2.1 rfl ⟨(Nat.le_of_ble_eq_true rfl), (Nat.le_of_ble_eq_true rfl)⟩ rfl ⟨(Nat.le_of_ble_eq_true rfl), (Nat.le_of_ble_eq_true rfl)⟩ dX11_init_9 (fun u2 H locs hP hD hS => ?_)
  have hP : va_P D classes ((h0, .inr (11, [.null, .null, .null, .null, .int 0, .int 0, .null, .null, .null, .int 0, .int 0, .null, .null, .null, .null, .null])) :: ([] ++ cw_X2_init C q1 u2)) H := hP
  have hD : va_D A ((h0, .inr (11, [.null, .null, .null, .null, .int 0, .int 0, .null, .null, .null, .int 0, .int 0, .null, .null, .null, .null, .null])) :: ([] ++ cw_X2_init C q1 u2)) := hD
  obtain ⟨r1, er1⟩ : ∃ z9 : va_W, z9 = [] ++ cw_X2_init C q1 u2 := ⟨_, rfl⟩
  rw [← er1] at hP hD
  have hP : va_P D classes ((h0, .inr (11, [.null, .null, .null, .null, .int 0, .int 0, .null, .null, .null, .int 0, .int 0, .null, .null, .null, .null, .null])) :: r1) H := hP
  have hD : va_D A ((h0, .inr (11, [.null, .null, .null, .null, .int 0, .int 0, .null, .null, .null, .int 0, .int 0, .null, .null, .null, .null, .null])) :: r1) := hD
  refine va_putF (ci := 11) (v := .ref q1) (ty := .object "EightOars$Crew") (C := RX11) (T := TX11) (N := 16) hx hb hts clX11.ws tyX11 tyX11_ok nmX11 hown hK hP hD hS 0 rfl rfl 0 (by decide) (hts _ lf_X11_10) (fun _ h9 => h9) rfl hin rfl (by decide +kernel) rfl rfl (Nat.le_of_ble_eq_true rfl) dX11_init_12 (fun H locs hP hD hS => ?_)
  have hP : va_P D classes ((h0, .inr (11, [.ref q1, .null, .null, .null, .int 0, .int 0, .null, .null, .null, .int 0, .int 0, .null, .null, .null, .null, .null])) :: r1) H := hP
  have hD : va_D A ((h0, .inr (11, [.ref q1, .null, .null, .null, .int 0, .int 0, .null, .null, .null, .int 0, .int 0, .null, .null, .null, .null, .null])) :: r1) := hD
  refine lv_aload_n hx hb dX11_init_15 rfl (lv_at hl 0 rfl) ?_
  refine va_new (ci := 0) (fs := [.null, .null, .null, .int 0, .int 0]) (C := RX0) (T := TX0) (N := 5) hx hb hts clX0.ws tyX0 tyX0_ok hown (hts _ lk_X11_16) (hts _ li_X0) (hts _ lini_X0) hK hP hD hS hA rfl (fun j hj => by match j, hj with | 0, _ => exact rfl | 1, _ => exact rfl | 2, _ => exact rfl | 3, _ => exact rfl | 4, _ => exact rfl | n + 5, h9 => exact absurd h9 (by omega)) (Nat.le_of_ble_eq_true rfl) (Nat.le_of_ble_eq_true rfl) dX11_init_16 (fun q3 H hP hD hS => ?_)
  have hP : va_P D classes (((h0, .inr (11, [.ref q1, .null, .null, .null, .int 0, .int 0, .null, .null, .null, .int 0, .int 0, .null, .null, .null, .null, .null])) :: r1) ++ [(q3, .inr (0, [.null, .null, .null, .int 0, .int 0]))]) H := hP
  have hD : va_D A (((h0, .inr (11, [.ref q1, .null, .null, .null, .int 0, .int 0, .null, .null, .null, .int 0, .int 0, .null, .null, .null, .null, .null])) :: r1) ++ [(q3, .inr (0, [.null, .null, .null, .int 0, .int 0]))]) := hD
  refine lv_dup hx hb dX11_init_19 rfl ?_
  refine e_callI (ws := ((h0, .inr (11, [.ref q1, .null, .null, .null, .int 0, .int 0, .null, .null, .null, .int 0, .int 0, .null, .null, .null, .null, .null])) :: r1)) (rest := [.ref q3, .ref h0]) ⟨hx, hb, hml, hown, hts⟩ hK hP hD hS hA hE hX hl [] (iB q3) yi_X0_init lm_X11_18 rfl ⟨(Nat.le_of_ble_eq_true rfl), (Nat.le_of_ble_eq_true rfl)⟩ rfl ⟨(Nat.le_of_ble_eq_true rfl), (Nat.le_of_ble_eq_true rfl)⟩ dX11_init_20 (fun u4 H locs hP hD hS => ?_)
  have hP : va_P D classes ((h0, .inr (11, [.ref q1, .null, .null, .null, .int 0, .int 0, .null, .null, .null, .int 0, .int 0, .null, .null, .null, .null, .null])) :: (r1 ++ wls (mkW D C shB rB 4 (adh q3 (u4 0)) KV) sb)) H := hP
  have hD : va_D A ((h0, .inr (11, [.ref q1, .null, .null, .null, .int 0, .int 0, .null, .null, .null, .int 0, .int 0, .null, .null, .null, .null, .null])) :: (r1 ++ wls (mkW D C shB rB 4 (adh q3 (u4 0)) KV) sb)) := hD
  obtain ⟨r2, er2⟩ : ∃ z9 : va_W, z9 = r1 ++ wls (mkW D C shB rB 4 (adh q3 (u4 0)) KV) sb := ⟨_, rfl⟩
  rw [← er2] at hP hD
  have hP : va_P D classes ((h0, .inr (11, [.ref q1, .null, .null, .null, .int 0, .int 0, .null, .null, .null, .int 0, .int 0, .null, .null, .null, .null, .null])) :: r2) H := hP
  have hD : va_D A ((h0, .inr (11, [.ref q1, .null, .null, .null, .int 0, .int 0, .null, .null, .null, .int 0, .int 0, .null, .null, .null, .null, .null])) :: r2) := hD
  refine va_putF (ci := 11) (v := .ref q3) (ty := .object "EightOars$Boat") (C := RX11) (T := TX11) (N := 16) hx hb hts clX11.ws tyX11 tyX11_ok nmX11 hown hK hP hD hS 0 rfl rfl 1 (by decide) (hts _ lf_X11_19) (fun _ h9 => h9) rfl hin rfl (by decide +kernel) rfl rfl (Nat.le_of_ble_eq_true rfl) dX11_init_23 (fun H locs hP hD hS => ?_)
  have hP : va_P D classes ((h0, .inr (11, [.ref q1, .ref q3, .null, .null, .int 0, .int 0, .null, .null, .null, .int 0, .int 0, .null, .null, .null, .null, .null])) :: r2) H := hP
  have hD : va_D A ((h0, .inr (11, [.ref q1, .ref q3, .null, .null, .int 0, .int 0, .null, .null, .null, .int 0, .int 0, .null, .null, .null, .null, .null])) :: r2) := hD
  refine lv_aload_n hx hb dX11_init_26 rfl (lv_at hl 0 rfl) ?_
  refine va_new (ci := 0) (fs := [.null, .null, .null, .int 0, .int 0]) (C := RX0) (T := TX0) (N := 5) hx hb hts clX0.ws tyX0 tyX0_ok hown (hts _ lk_X11_16) (hts _ li_X0) (hts _ lini_X0) hK hP hD hS hA rfl (fun j hj => by match j, hj with | 0, _ => exact rfl | 1, _ => exact rfl | 2, _ => exact rfl | 3, _ => exact rfl | 4, _ => exact rfl | n + 5, h9 => exact absurd h9 (by omega)) (Nat.le_of_ble_eq_true rfl) (Nat.le_of_ble_eq_true rfl) dX11_init_27 (fun q5 H hP hD hS => ?_)
  have hP : va_P D classes (((h0, .inr (11, [.ref q1, .ref q3, .null, .null, .int 0, .int 0, .null, .null, .null, .int 0, .int 0, .null, .null, .null, .null, .null])) :: r2) ++ [(q5, .inr (0, [.null, .null, .null, .int 0, .int 0]))]) H := hP
  have hD : va_D A (((h0, .inr (11, [.ref q1, .ref q3, .null, .null, .int 0, .int 0, .null, .null, .null, .int 0, .int 0, .null, .null, .null, .null, .null])) :: r2) ++ [(q5, .inr (0, [.null, .null, .null, .int 0, .int 0]))]) := hD
  refine lv_dup hx hb dX11_init_30 rfl ?_
  refine e_callI (ws := ((h0, .inr (11, [.ref q1, .ref q3, .null, .null, .int 0, .int 0, .null, .null, .null, .int 0, .int 0, .null, .null, .null, .null, .null])) :: r2)) (rest := [.ref q5, .ref h0]) ⟨hx, hb, hml, hown, hts⟩ hK hP hD hS hA hE hX hl [] (iB q5) yi_X0_init lm_X11_18 rfl ⟨(Nat.le_of_ble_eq_true rfl), (Nat.le_of_ble_eq_true rfl)⟩ rfl ⟨(Nat.le_of_ble_eq_true rfl), (Nat.le_of_ble_eq_true rfl)⟩ dX11_init_31 (fun u6 H locs hP hD hS => ?_)
  have hP : va_P D classes ((h0, .inr (11, [.ref q1, .ref q3, .null, .null, .int 0, .int 0, .null, .null, .null, .int 0, .int 0, .null, .null, .null, .null, .null])) :: (r2 ++ wls (mkW D C shB rB 4 (adh q5 (u6 0)) KV) sb)) H := hP
  have hD : va_D A ((h0, .inr (11, [.ref q1, .ref q3, .null, .null, .int 0, .int 0, .null, .null, .null, .int 0, .int 0, .null, .null, .null, .null, .null])) :: (r2 ++ wls (mkW D C shB rB 4 (adh q5 (u6 0)) KV) sb)) := hD
  obtain ⟨r3, er3⟩ : ∃ z9 : va_W, z9 = r2 ++ wls (mkW D C shB rB 4 (adh q5 (u6 0)) KV) sb := ⟨_, rfl⟩
  rw [← er3] at hP hD
  have hP : va_P D classes ((h0, .inr (11, [.ref q1, .ref q3, .null, .null, .int 0, .int 0, .null, .null, .null, .int 0, .int 0, .null, .null, .null, .null, .null])) :: r3) H := hP
  have hD : va_D A ((h0, .inr (11, [.ref q1, .ref q3, .null, .null, .int 0, .int 0, .null, .null, .null, .int 0, .int 0, .null, .null, .null, .null, .null])) :: r3) := hD
  refine va_putF (ci := 11) (v := .ref q5) (ty := .object "EightOars$Boat") (C := RX11) (T := TX11) (N := 16) hx hb hts clX11.ws tyX11 tyX11_ok nmX11 hown hK hP hD hS 0 rfl rfl 2 (by decide) (hts _ lf_X11_23) (fun _ h9 => h9) rfl hin rfl (by decide +kernel) rfl rfl (Nat.le_of_ble_eq_true rfl) dX11_init_34 (fun H locs hP hD hS => ?_)
  have hP : va_P D classes ((h0, .inr (11, [.ref q1, .ref q3, .ref q5, .null, .int 0, .int 0, .null, .null, .null, .int 0, .int 0, .null, .null, .null, .null, .null])) :: r3) H := hP
  have hD : va_D A ((h0, .inr (11, [.ref q1, .ref q3, .ref q5, .null, .int 0, .int 0, .null, .null, .null, .int 0, .int 0, .null, .null, .null, .null, .null])) :: r3) := hD
  refine lv_aload_n hx hb dX11_init_37 rfl (lv_at hl 0 rfl) ?_
  refine lv_bipush (v := 16) hx hb dX11_init_38 (by decide) ?_
  refine e_newI (n := 16) (N' := 16) hx hb hts wa_int hK hP hD hS hA (by decide) (by decide) (by decide) (Nat.le_of_ble_eq_true rfl) (Nat.le_of_ble_eq_true rfl) dX11_init_40 (fun q7 H hP hD hS => ?_)
  have hP := va_mv hP
  have hD := vd_mv hD
  have hP : va_P D classes ((h0, .inr (11, [.ref q1, .ref q3, .ref q5, .null, .int 0, .int 0, .null, .null, .null, .int 0, .int 0, .null, .null, .null, .null, .null])) :: (q7, .inl (C 0, 16, .inl (fun _ => 0))) :: r3) H := hP
  have hD : va_D A ((h0, .inr (11, [.ref q1, .ref q3, .ref q5, .null, .int 0, .int 0, .null, .null, .null, .int 0, .int 0, .null, .null, .null, .null, .null])) :: (q7, .inl (C 0, 16, .inl (fun _ => 0))) :: r3) := hD
  refine va_putF (ci := 11) (v := .ref q7) (ty := .array (.int)) (C := RX11) (T := TX11) (N := 16) hx hb hts clX11.ws tyX11 tyX11_ok nmX11 hown hK hP hD hS 0 rfl rfl 3 (by decide) (hts _ lf_X11_26) (fun _ h9 => h9) rfl hin rfl (by decide +kernel) rfl rfl (Nat.le_of_ble_eq_true rfl) dX11_init_42 (fun H locs hP hD hS => ?_)
  have hP : va_P D classes ((h0, .inr (11, [.ref q1, .ref q3, .ref q5, .ref q7, .int 0, .int 0, .null, .null, .null, .int 0, .int 0, .null, .null, .null, .null, .null])) :: (q7, .inl (C 0, 16, .inl (fun _ => 0))) :: r3) H := hP
  have hD : va_D A ((h0, .inr (11, [.ref q1, .ref q3, .ref q5, .ref q7, .int 0, .int 0, .null, .null, .null, .int 0, .int 0, .null, .null, .null, .null, .null])) :: (q7, .inl (C 0, 16, .inl (fun _ => 0))) :: r3) := hD
  refine lv_aload_n hx hb dX11_init_45 rfl (lv_at hl 0 rfl) ?_
  refine lv_iconst (v := (-1)) hx hb dX11_init_46 (by decide) ?_
  refine va_put (ci := 11) (v := .int (-1)) (ty := .int) (C := RX11) (T := TX11) (N := 16) hx hb hts clX11.ws tyX11 tyX11_ok nmX11 hown hK hP hD hS 0 rfl rfl 4 (by decide) (hts _ lf_X11_30) (fun _ h9 => h9) rfl (by decide +kernel) rfl rfl (Nat.le_of_ble_eq_true rfl) dX11_init_47 (fun H locs hP hD hS => ?_)
  have hP : va_P D classes ((h0, .inr (11, [.ref q1, .ref q3, .ref q5, .ref q7, .int (-1), .int 0, .null, .null, .null, .int 0, .int 0, .null, .null, .null, .null, .null])) :: (q7, .inl (C 0, 16, .inl (fun _ => 0))) :: r3) H := hP
  have hD : va_D A ((h0, .inr (11, [.ref q1, .ref q3, .ref q5, .ref q7, .int (-1), .int 0, .null, .null, .null, .int 0, .int 0, .null, .null, .null, .null, .null])) :: (q7, .inl (C 0, 16, .inl (fun _ => 0))) :: r3) := hD
  refine lv_aload_n hx hb dX11_init_50 rfl (lv_at hl 0 rfl) ?_
  refine va_new (ci := 8) (fs := [.null, .int 0]) (C := RX8) (T := TX8) (N := 2) hx hb hts clX8.ws tyX8 tyX8_ok hown (hts _ lk_X11_34) (hts _ li_X8) (hts _ lini_X8) hK hP hD hS hA rfl (fun j hj => by match j, hj with | 0, _ => exact rfl | 1, _ => exact rfl | n + 2, h9 => exact absurd h9 (by omega)) (Nat.le_of_ble_eq_true rfl) (Nat.le_of_ble_eq_true rfl) dX11_init_51 (fun q8 H hP hD hS => ?_)
  have hP : va_P D classes (((h0, .inr (11, [.ref q1, .ref q3, .ref q5, .ref q7, .int (-1), .int 0, .null, .null, .null, .int 0, .int 0, .null, .null, .null, .null, .null])) :: (q7, .inl (C 0, 16, .inl (fun _ => 0))) :: r3) ++ [(q8, .inr (8, [.null, .int 0]))]) H := hP
  have hD : va_D A (((h0, .inr (11, [.ref q1, .ref q3, .ref q5, .ref q7, .int (-1), .int 0, .null, .null, .null, .int 0, .int 0, .null, .null, .null, .null, .null])) :: (q7, .inl (C 0, 16, .inl (fun _ => 0))) :: r3) ++ [(q8, .inr (8, [.null, .int 0]))]) := hD
  refine lv_dup hx hb dX11_init_54 rfl ?_
  refine e_callN (ws := ((h0, .inr (11, [.ref q1, .ref q3, .ref q5, .ref q7, .int (-1), .int 0, .null, .null, .null, .int 0, .int 0, .null, .null, .null, .null, .null])) :: (q7, .inl (C 0, 16, .inl (fun _ => 0))) :: r3)) (rest := [.ref q8, .ref h0]) ⟨hx, hb, hml, hown, hts⟩ hK hP hD hS hA hE hX hl [] (i_X8_init (KV := KV) q8) yi_X8_init hE.2.2.2.1 rfl ⟨(Nat.le_of_ble_eq_true rfl), (Nat.le_of_ble_eq_true rfl)⟩ rfl ⟨(Nat.le_of_ble_eq_true rfl), (Nat.le_of_ble_eq_true rfl)⟩ dX11_init_55 (fun u9 H locs hP hD hS => ?_)
  have hP : va_P D classes ((h0, .inr (11, [.ref q1, .ref q3, .ref q5, .ref q7, .int (-1), .int 0, .null, .null, .null, .int 0, .int 0, .null, .null, .null, .null, .null])) :: (q7, .inl (C 0, 16, .inl (fun _ => 0))) :: (r3 ++ cw_X8_init C q8 u9)) H := hP
  have hD : va_D A ((h0, .inr (11, [.ref q1, .ref q3, .ref q5, .ref q7, .int (-1), .int 0, .null, .null, .null, .int 0, .int 0, .null, .null, .null, .null, .null])) :: (q7, .inl (C 0, 16, .inl (fun _ => 0))) :: (r3 ++ cw_X8_init C q8 u9)) := hD
  obtain ⟨r4, er4⟩ : ∃ z9 : va_W, z9 = r3 ++ cw_X8_init C q8 u9 := ⟨_, rfl⟩
  rw [← er4] at hP hD
  have hP : va_P D classes ((h0, .inr (11, [.ref q1, .ref q3, .ref q5, .ref q7, .int (-1), .int 0, .null, .null, .null, .int 0, .int 0, .null, .null, .null, .null, .null])) :: (q7, .inl (C 0, 16, .inl (fun _ => 0))) :: r4) H := hP
  have hD : va_D A ((h0, .inr (11, [.ref q1, .ref q3, .ref q5, .ref q7, .int (-1), .int 0, .null, .null, .null, .int 0, .int 0, .null, .null, .null, .null, .null])) :: (q7, .inl (C 0, 16, .inl (fun _ => 0))) :: r4) := hD
  refine va_putF (ci := 11) (v := .ref q8) (ty := .object "EightOars$Tape") (C := RX11) (T := TX11) (N := 16) hx hb hts clX11.ws tyX11 tyX11_ok nmX11 hown hK hP hD hS 0 rfl rfl 6 (by decide) (hts _ lf_X11_37) (fun _ h9 => h9) rfl hin rfl (by decide +kernel) rfl rfl (Nat.le_of_ble_eq_true rfl) dX11_init_58 (fun H locs hP hD hS => ?_)
  have hP : va_P D classes ((h0, .inr (11, [.ref q1, .ref q3, .ref q5, .ref q7, .int (-1), .int 0, .ref q8, .null, .null, .int 0, .int 0, .null, .null, .null, .null, .null])) :: (q7, .inl (C 0, 16, .inl (fun _ => 0))) :: r4) H := hP
  have hD : va_D A ((h0, .inr (11, [.ref q1, .ref q3, .ref q5, .ref q7, .int (-1), .int 0, .ref q8, .null, .null, .int 0, .int 0, .null, .null, .null, .null, .null])) :: (q7, .inl (C 0, 16, .inl (fun _ => 0))) :: r4) := hD
  refine lv_aload_n hx hb dX11_init_61 rfl (lv_at hl 0 rfl) ?_
  refine va_new (ci := 9) (fs := [.null, .null, .int 0, .int 0, .int 0, .int 0, .int 0]) (C := RX9) (T := TX9) (N := 7) hx hb hts clX9.ws tyX9 tyX9_ok hown (hts _ lk_X11_41) (hts _ li_X9) (hts _ lini_X9) hK hP hD hS hA rfl (fun j hj => by match j, hj with | 0, _ => exact rfl | 1, _ => exact rfl | 2, _ => exact rfl | 3, _ => exact rfl | 4, _ => exact rfl | 5, _ => exact rfl | 6, _ => exact rfl | n + 7, h9 => exact absurd h9 (by omega)) (Nat.le_of_ble_eq_true rfl) (Nat.le_of_ble_eq_true rfl) dX11_init_62 (fun q10 H hP hD hS => ?_)
  have hP : va_P D classes (((h0, .inr (11, [.ref q1, .ref q3, .ref q5, .ref q7, .int (-1), .int 0, .ref q8, .null, .null, .int 0, .int 0, .null, .null, .null, .null, .null])) :: (q7, .inl (C 0, 16, .inl (fun _ => 0))) :: r4) ++ [(q10, .inr (9, [.null, .null, .int 0, .int 0, .int 0, .int 0, .int 0]))]) H := hP
  have hD : va_D A (((h0, .inr (11, [.ref q1, .ref q3, .ref q5, .ref q7, .int (-1), .int 0, .ref q8, .null, .null, .int 0, .int 0, .null, .null, .null, .null, .null])) :: (q7, .inl (C 0, 16, .inl (fun _ => 0))) :: r4) ++ [(q10, .inr (9, [.null, .null, .int 0, .int 0, .int 0, .int 0, .int 0]))]) := hD
  refine lv_dup hx hb dX11_init_65 rfl ?_
  refine lv_aload_n hx hb dX11_init_66 rfl (lv_at hl 0 rfl) ?_
  refine va_get (D := D) (ci := 11) (v := .ref q8) (C := RX11) (T := TX11) (N := 16) hx hb hts clX11.ws hown hK hP 0 rfl rfl 6 (by decide) (hts _ lf_X11_37) (fun _ h9 => h9) rfl dX11_init_67 ?_
  refine e_callI (ws := ((h0, .inr (11, [.ref q1, .ref q3, .ref q5, .ref q7, .int (-1), .int 0, .ref q8, .null, .null, .int 0, .int 0, .null, .null, .null, .null, .null])) :: (q7, .inl (C 0, 16, .inl (fun _ => 0))) :: r4)) (rest := [.ref q10, .ref h0]) ⟨hx, hb, hml, hown, hts⟩ hK hP hD hS hA hE hX hl [.ref q8] (i_X9_init (KV := KV) q10 q8) yi_X9_init lm_X11_43 rfl ⟨(Nat.le_of_ble_eq_true rfl), (Nat.le_of_ble_eq_true rfl)⟩ rfl ⟨(Nat.le_of_ble_eq_true rfl), (Nat.le_of_ble_eq_true rfl)⟩ dX11_init_70 (fun u11 H locs hP hD hS => ?_)
  have hP : va_P D classes ((h0, .inr (11, [.ref q1, .ref q3, .ref q5, .ref q7, .int (-1), .int 0, .ref q8, .null, .null, .int 0, .int 0, .null, .null, .null, .null, .null])) :: (q7, .inl (C 0, 16, .inl (fun _ => 0))) :: (r4 ++ cw_X9_init C q10 q8 u11)) H := hP
  have hD : va_D A ((h0, .inr (11, [.ref q1, .ref q3, .ref q5, .ref q7, .int (-1), .int 0, .ref q8, .null, .null, .int 0, .int 0, .null, .null, .null, .null, .null])) :: (q7, .inl (C 0, 16, .inl (fun _ => 0))) :: (r4 ++ cw_X9_init C q10 q8 u11)) := hD
  obtain ⟨r5, er5⟩ : ∃ z9 : va_W, z9 = r4 ++ cw_X9_init C q10 q8 u11 := ⟨_, rfl⟩
  rw [← er5] at hP hD
  have hP : va_P D classes ((h0, .inr (11, [.ref q1, .ref q3, .ref q5, .ref q7, .int (-1), .int 0, .ref q8, .null, .null, .int 0, .int 0, .null, .null, .null, .null, .null])) :: (q7, .inl (C 0, 16, .inl (fun _ => 0))) :: r5) H := hP
  have hD : va_D A ((h0, .inr (11, [.ref q1, .ref q3, .ref q5, .ref q7, .int (-1), .int 0, .ref q8, .null, .null, .int 0, .int 0, .null, .null, .null, .null, .null])) :: (q7, .inl (C 0, 16, .inl (fun _ => 0))) :: r5) := hD
  refine va_putF (ci := 11) (v := .ref q10) (ty := .object "EightOars$TextReader") (C := RX11) (T := TX11) (N := 16) hx hb hts clX11.ws tyX11 tyX11_ok nmX11 hown hK hP hD hS 0 rfl rfl 7 (by decide) (hts _ lf_X11_46) (fun _ h9 => h9) rfl hin rfl (by decide +kernel) rfl rfl (Nat.le_of_ble_eq_true rfl) dX11_init_73 (fun H locs hP hD hS => ?_)
  have hP : va_P D classes ((h0, .inr (11, [.ref q1, .ref q3, .ref q5, .ref q7, .int (-1), .int 0, .ref q8, .ref q10, .null, .int 0, .int 0, .null, .null, .null, .null, .null])) :: (q7, .inl (C 0, 16, .inl (fun _ => 0))) :: r5) H := hP
  have hD : va_D A ((h0, .inr (11, [.ref q1, .ref q3, .ref q5, .ref q7, .int (-1), .int 0, .ref q8, .ref q10, .null, .int 0, .int 0, .null, .null, .null, .null, .null])) :: (q7, .inl (C 0, 16, .inl (fun _ => 0))) :: r5) := hD
  refine lv_aload_n hx hb dX11_init_76 rfl (lv_at hl 0 rfl) ?_
  refine lv_bipush (v := 6) hx hb dX11_init_77 (by decide) ?_
  refine e_newQ (n := 6) (N' := 6) hx hb hown (hts _ lk_X11_50) hE.2.1 hK hP hD hS hA (by decide) (by decide) (by decide) (Nat.le_of_ble_eq_true rfl) (Nat.le_of_ble_eq_true rfl) dX11_init_79 (fun q12 H hP hD hS => ?_)
  have hP := va_mv hP
  have hD := vd_mv hD
  have hP : va_P D classes ((h0, .inr (11, [.ref q1, .ref q3, .ref q5, .ref q7, .int (-1), .int 0, .ref q8, .ref q10, .null, .int 0, .int 0, .null, .null, .null, .null, .null])) :: (q12, .inl (C 5, 6, .inr (.inr (.inr (.inr (fun _ => none)))))) :: (q7, .inl (C 0, 16, .inl (fun _ => 0))) :: r5) H := hP
  have hD : va_D A ((h0, .inr (11, [.ref q1, .ref q3, .ref q5, .ref q7, .int (-1), .int 0, .ref q8, .ref q10, .null, .int 0, .int 0, .null, .null, .null, .null, .null])) :: (q12, .inl (C 5, 6, .inr (.inr (.inr (.inr (fun _ => none)))))) :: (q7, .inl (C 0, 16, .inl (fun _ => 0))) :: r5) := hD
  refine va_putF (ci := 11) (v := .ref q12) (ty := .array (.object "EightOars$Rule")) (C := RX11) (T := TX11) (N := 16) hx hb hts clX11.ws tyX11 tyX11_ok nmX11 hown hK hP hD hS 0 rfl rfl 8 (by decide) (hts _ lf_X11_52) (fun _ h9 => h9) rfl hin rfl (by decide +kernel) rfl rfl (Nat.le_of_ble_eq_true rfl) dX11_init_82 (fun H locs hP hD hS => ?_)
  have hP : va_P D classes ((h0, .inr (11, [.ref q1, .ref q3, .ref q5, .ref q7, .int (-1), .int 0, .ref q8, .ref q10, .ref q12, .int 0, .int 0, .null, .null, .null, .null, .null])) :: (q12, .inl (C 5, 6, .inr (.inr (.inr (.inr (fun _ => none)))))) :: (q7, .inl (C 0, 16, .inl (fun _ => 0))) :: r5) H := hP
  have hD : va_D A ((h0, .inr (11, [.ref q1, .ref q3, .ref q5, .ref q7, .int (-1), .int 0, .ref q8, .ref q10, .ref q12, .int 0, .int 0, .null, .null, .null, .null, .null])) :: (q12, .inl (C 5, 6, .inr (.inr (.inr (.inr (fun _ => none)))))) :: (q7, .inl (C 0, 16, .inl (fun _ => 0))) :: r5) := hD
  refine lv_bipush (v := 6) hx hb dX11_init_85 (by decide) ?_
  refine e_newI (n := 6) (N' := 6) hx hb hts wa_int hK hP hD hS hA (by decide) (by decide) (by decide) (Nat.le_of_ble_eq_true rfl) (Nat.le_of_ble_eq_true rfl) dX11_init_87 (fun q13 H hP hD hS => ?_)
  have hP := va_mv hP
  have hD := vd_mv hD
  have hP : va_P D classes ((h0, .inr (11, [.ref q1, .ref q3, .ref q5, .ref q7, .int (-1), .int 0, .ref q8, .ref q10, .ref q12, .int 0, .int 0, .null, .null, .null, .null, .null])) :: (q13, .inl (C 0, 6, .inl (fun _ => 0))) :: (q12, .inl (C 5, 6, .inr (.inr (.inr (.inr (fun _ => none)))))) :: (q7, .inl (C 0, 16, .inl (fun _ => 0))) :: r5) H := hP
  have hD : va_D A ((h0, .inr (11, [.ref q1, .ref q3, .ref q5, .ref q7, .int (-1), .int 0, .ref q8, .ref q10, .ref q12, .int 0, .int 0, .null, .null, .null, .null, .null])) :: (q13, .inl (C 0, 6, .inl (fun _ => 0))) :: (q12, .inl (C 5, 6, .inr (.inr (.inr (.inr (fun _ => none)))))) :: (q7, .inl (C 0, 16, .inl (fun _ => 0))) :: r5) := hD
  refine lv_dup hx hb dX11_init_89 rfl ?_
  refine lv_iconst (v := 0) hx hb dX11_init_90 (by decide) ?_
  refine lv_sipush (v := 10000) hx hb dX11_init_91 (by decide) ?_
  refine va_iast hx hb hK hP hD hS 1 0 rfl rfl (i := 0) (x := 10000) (show ¬ ((0 : Int32) < 0 ∨ 6 ≤ (0 : Int32).toNatClampNeg) by decide) dX11_init_94 (fun H locs hP hD hS => ?_)
  have hP : va_P D classes ((h0, .inr (11, [.ref q1, .ref q3, .ref q5, .ref q7, .int (-1), .int 0, .ref q8, .ref q10, .ref q12, .int 0, .int 0, .null, .null, .null, .null, .null])) :: (q13, .inl (C 0, 6, .inl (upd (fun _ => 0) 0 10000))) :: (q12, .inl (C 5, 6, .inr (.inr (.inr (.inr (fun _ => none)))))) :: (q7, .inl (C 0, 16, .inl (fun _ => 0))) :: r5) H := hP
  have hD : va_D A ((h0, .inr (11, [.ref q1, .ref q3, .ref q5, .ref q7, .int (-1), .int 0, .ref q8, .ref q10, .ref q12, .int 0, .int 0, .null, .null, .null, .null, .null])) :: (q13, .inl (C 0, 6, .inl (upd (fun _ => 0) 0 10000))) :: (q12, .inl (C 5, 6, .inr (.inr (.inr (.inr (fun _ => none)))))) :: (q7, .inl (C 0, 16, .inl (fun _ => 0))) :: r5) := hD
  refine lv_dup hx hb dX11_init_95 rfl ?_
  refine lv_iconst (v := 1) hx hb dX11_init_96 (by decide) ?_
  refine lv_sipush (v := 10003) hx hb dX11_init_97 (by decide) ?_
  refine va_iast hx hb hK hP hD hS 1 0 rfl rfl (i := 1) (x := 10003) (show ¬ ((1 : Int32) < 0 ∨ 6 ≤ (1 : Int32).toNatClampNeg) by decide) dX11_init_100 (fun H locs hP hD hS => ?_)
  have hP : va_P D classes ((h0, .inr (11, [.ref q1, .ref q3, .ref q5, .ref q7, .int (-1), .int 0, .ref q8, .ref q10, .ref q12, .int 0, .int 0, .null, .null, .null, .null, .null])) :: (q13, .inl (C 0, 6, .inl (upd (upd (fun _ => 0) 0 10000) 1 10003))) :: (q12, .inl (C 5, 6, .inr (.inr (.inr (.inr (fun _ => none)))))) :: (q7, .inl (C 0, 16, .inl (fun _ => 0))) :: r5) H := hP
  have hD : va_D A ((h0, .inr (11, [.ref q1, .ref q3, .ref q5, .ref q7, .int (-1), .int 0, .ref q8, .ref q10, .ref q12, .int 0, .int 0, .null, .null, .null, .null, .null])) :: (q13, .inl (C 0, 6, .inl (upd (upd (fun _ => 0) 0 10000) 1 10003))) :: (q12, .inl (C 5, 6, .inr (.inr (.inr (.inr (fun _ => none)))))) :: (q7, .inl (C 0, 16, .inl (fun _ => 0))) :: r5) := hD
  refine lv_dup hx hb dX11_init_101 rfl ?_
  refine lv_iconst (v := 2) hx hb dX11_init_102 (by decide) ?_
  refine lv_sipush (v := 20043) hx hb dX11_init_103 (by decide) ?_
  refine va_iast hx hb hK hP hD hS 1 0 rfl rfl (i := 2) (x := 20043) (show ¬ ((2 : Int32) < 0 ∨ 6 ≤ (2 : Int32).toNatClampNeg) by decide) dX11_init_106 (fun H locs hP hD hS => ?_)
  have hP : va_P D classes ((h0, .inr (11, [.ref q1, .ref q3, .ref q5, .ref q7, .int (-1), .int 0, .ref q8, .ref q10, .ref q12, .int 0, .int 0, .null, .null, .null, .null, .null])) :: (q13, .inl (C 0, 6, .inl (upd (upd (upd (fun _ => 0) 0 10000) 1 10003) 2 20043))) :: (q12, .inl (C 5, 6, .inr (.inr (.inr (.inr (fun _ => none)))))) :: (q7, .inl (C 0, 16, .inl (fun _ => 0))) :: r5) H := hP
  have hD : va_D A ((h0, .inr (11, [.ref q1, .ref q3, .ref q5, .ref q7, .int (-1), .int 0, .ref q8, .ref q10, .ref q12, .int 0, .int 0, .null, .null, .null, .null, .null])) :: (q13, .inl (C 0, 6, .inl (upd (upd (upd (fun _ => 0) 0 10000) 1 10003) 2 20043))) :: (q12, .inl (C 5, 6, .inr (.inr (.inr (.inr (fun _ => none)))))) :: (q7, .inl (C 0, 16, .inl (fun _ => 0))) :: r5) := hD
  refine lv_dup hx hb dX11_init_107 rfl ?_
  refine lv_iconst (v := 3) hx hb dX11_init_108 (by decide) ?_
  refine lv_sipush (v := 10004) hx hb dX11_init_109 (by decide) ?_
  refine va_iast hx hb hK hP hD hS 1 0 rfl rfl (i := 3) (x := 10004) (show ¬ ((3 : Int32) < 0 ∨ 6 ≤ (3 : Int32).toNatClampNeg) by decide) dX11_init_112 (fun H locs hP hD hS => ?_)
  have hP : va_P D classes ((h0, .inr (11, [.ref q1, .ref q3, .ref q5, .ref q7, .int (-1), .int 0, .ref q8, .ref q10, .ref q12, .int 0, .int 0, .null, .null, .null, .null, .null])) :: (q13, .inl (C 0, 6, .inl (upd (upd (upd (upd (fun _ => 0) 0 10000) 1 10003) 2 20043) 3 10004))) :: (q12, .inl (C 5, 6, .inr (.inr (.inr (.inr (fun _ => none)))))) :: (q7, .inl (C 0, 16, .inl (fun _ => 0))) :: r5) H := hP
  have hD : va_D A ((h0, .inr (11, [.ref q1, .ref q3, .ref q5, .ref q7, .int (-1), .int 0, .ref q8, .ref q10, .ref q12, .int 0, .int 0, .null, .null, .null, .null, .null])) :: (q13, .inl (C 0, 6, .inl (upd (upd (upd (upd (fun _ => 0) 0 10000) 1 10003) 2 20043) 3 10004))) :: (q12, .inl (C 5, 6, .inr (.inr (.inr (.inr (fun _ => none)))))) :: (q7, .inl (C 0, 16, .inl (fun _ => 0))) :: r5) := hD
  refine lv_dup hx hb dX11_init_113 rfl ?_
  refine lv_iconst (v := 4) hx hb dX11_init_114 (by decide) ?_
  refine lv_iconst (v := 2) hx hb dX11_init_115 (by decide) ?_
  refine va_iast hx hb hK hP hD hS 1 0 rfl rfl (i := 4) (x := 2) (show ¬ ((4 : Int32) < 0 ∨ 6 ≤ (4 : Int32).toNatClampNeg) by decide) dX11_init_116 (fun H locs hP hD hS => ?_)
  have hP : va_P D classes ((h0, .inr (11, [.ref q1, .ref q3, .ref q5, .ref q7, .int (-1), .int 0, .ref q8, .ref q10, .ref q12, .int 0, .int 0, .null, .null, .null, .null, .null])) :: (q13, .inl (C 0, 6, .inl (upd (upd (upd (upd (upd (fun _ => 0) 0 10000) 1 10003) 2 20043) 3 10004) 4 2))) :: (q12, .inl (C 5, 6, .inr (.inr (.inr (.inr (fun _ => none)))))) :: (q7, .inl (C 0, 16, .inl (fun _ => 0))) :: r5) H := hP
  have hD : va_D A ((h0, .inr (11, [.ref q1, .ref q3, .ref q5, .ref q7, .int (-1), .int 0, .ref q8, .ref q10, .ref q12, .int 0, .int 0, .null, .null, .null, .null, .null])) :: (q13, .inl (C 0, 6, .inl (upd (upd (upd (upd (upd (fun _ => 0) 0 10000) 1 10003) 2 20043) 3 10004) 4 2))) :: (q12, .inl (C 5, 6, .inr (.inr (.inr (.inr (fun _ => none)))))) :: (q7, .inl (C 0, 16, .inl (fun _ => 0))) :: r5) := hD
  refine lv_dup hx hb dX11_init_117 rfl ?_
  refine lv_iconst (v := 5) hx hb dX11_init_118 (by decide) ?_
  refine lv_sipush (v := 20042) hx hb dX11_init_119 (by decide) ?_
  refine va_iast hx hb hK hP hD hS 1 0 rfl rfl (i := 5) (x := 20042) (show ¬ ((5 : Int32) < 0 ∨ 6 ≤ (5 : Int32).toNatClampNeg) by decide) dX11_init_122 (fun H locs hP hD hS => ?_)
  have hP : va_P D classes ((h0, .inr (11, [.ref q1, .ref q3, .ref q5, .ref q7, .int (-1), .int 0, .ref q8, .ref q10, .ref q12, .int 0, .int 0, .null, .null, .null, .null, .null])) :: (q13, .inl (C 0, 6, .inl (upd (upd (upd (upd (upd (upd (fun _ => 0) 0 10000) 1 10003) 2 20043) 3 10004) 4 2) 5 20042))) :: (q12, .inl (C 5, 6, .inr (.inr (.inr (.inr (fun _ => none)))))) :: (q7, .inl (C 0, 16, .inl (fun _ => 0))) :: r5) H := hP
  have hD : va_D A ((h0, .inr (11, [.ref q1, .ref q3, .ref q5, .ref q7, .int (-1), .int 0, .ref q8, .ref q10, .ref q12, .int 0, .int 0, .null, .null, .null, .null, .null])) :: (q13, .inl (C 0, 6, .inl (upd (upd (upd (upd (upd (upd (fun _ => 0) 0 10000) 1 10003) 2 20043) 3 10004) 4 2) 5 20042))) :: (q12, .inl (C 5, 6, .inr (.inr (.inr (.inr (fun _ => none)))))) :: (q7, .inl (C 0, 16, .inl (fun _ => 0))) :: r5) := hD
  refine lv_astore_n (lv' := [(1, .ref q13), (0, .ref h0)]) hx hb dX11_init_123 rfl hl (by decide) rfl (fun ls hl => ?_)
  refine lv_aload_n hx hb dX11_init_124 rfl (lv_at hl 1 rfl) ?_
  refine va_get (D := D) (ci := 11) (v := .ref q12) (C := RX11) (T := TX11) (N := 16) hx hb hts clX11.ws hown hK hP 0 rfl rfl 8 (by decide) (hts _ lf_X11_52) (fun _ h9 => h9) rfl dX11_init_125 ?_
  refine lv_iconst (v := 0) hx hb dX11_init_128 (by decide) ?_
  refine va_new (ci := 6) (fs := [.null, .int 0]) (C := RX6) (T := TX6) (N := 2) hx hb hts clX6.ws tyX6 tyX6_ok hown (hts _ lk_X11_50) (hts _ li_X6) (hts _ lini_X6) hK hP hD hS hA rfl (fun j hj => by match j, hj with | 0, _ => exact rfl | 1, _ => exact rfl | n + 2, h9 => exact absurd h9 (by omega)) (Nat.le_of_ble_eq_true rfl) (Nat.le_of_ble_eq_true rfl) dX11_init_129 (fun q14 H hP hD hS => ?_)
  have hP : va_P D classes (((h0, .inr (11, [.ref q1, .ref q3, .ref q5, .ref q7, .int (-1), .int 0, .ref q8, .ref q10, .ref q12, .int 0, .int 0, .null, .null, .null, .null, .null])) :: (q13, .inl (C 0, 6, .inl (upd (upd (upd (upd (upd (upd (fun _ => 0) 0 10000) 1 10003) 2 20043) 3 10004) 4 2) 5 20042))) :: (q12, .inl (C 5, 6, .inr (.inr (.inr (.inr (fun _ => none)))))) :: (q7, .inl (C 0, 16, .inl (fun _ => 0))) :: r5) ++ [(q14, .inr (6, [.null, .int 0]))]) H := hP
  have hD : va_D A (((h0, .inr (11, [.ref q1, .ref q3, .ref q5, .ref q7, .int (-1), .int 0, .ref q8, .ref q10, .ref q12, .int 0, .int 0, .null, .null, .null, .null, .null])) :: (q13, .inl (C 0, 6, .inl (upd (upd (upd (upd (upd (upd (fun _ => 0) 0 10000) 1 10003) 2 20043) 3 10004) 4 2) 5 20042))) :: (q12, .inl (C 5, 6, .inr (.inr (.inr (.inr (fun _ => none)))))) :: (q7, .inl (C 0, 16, .inl (fun _ => 0))) :: r5) ++ [(q14, .inr (6, [.null, .int 0]))]) := hD
  refine lv_dup hx hb dX11_init_132 rfl ?_
  refine lv_aload_n hx hb dX11_init_133 rfl (lv_at hl 0 rfl) ?_
  refine lv_iconst (v := 3) hx hb dX11_init_134 (by decide) ?_
  refine e_callI (ws := ((h0, .inr (11, [.ref q1, .ref q3, .ref q5, .ref q7, .int (-1), .int 0, .ref q8, .ref q10, .ref q12, .int 0, .int 0, .null, .null, .null, .null, .null])) :: (q13, .inl (C 0, 6, .inl (upd (upd (upd (upd (upd (upd (fun _ => 0) 0 10000) 1 10003) 2 20043) 3 10004) 4 2) 5 20042))) :: (q12, .inl (C 5, 6, .inr (.inr (.inr (.inr (fun _ => none)))))) :: (q7, .inl (C 0, 16, .inl (fun _ => 0))) :: r5)) (rest := [.ref q14, .int 0, .ref q12]) ⟨hx, hb, hml, hown, hts⟩ hK hP hD hS hA hE hX hl [.ref q13, .int 3] (i_X6_init (KV := KV) q14 q13 3) yi_X6_init lm_X11_56 rfl ⟨(Nat.le_of_ble_eq_true rfl), (Nat.le_of_ble_eq_true rfl)⟩ rfl ⟨(Nat.le_of_ble_eq_true rfl), (Nat.le_of_ble_eq_true rfl)⟩ dX11_init_135 (fun u15 H locs hP hD hS => ?_)
  have hP := va_mv (ws := (q13, .inl (C 0, 6, .inl (upd (upd (upd (upd (upd (upd (fun _ => 0) 0 10000) 1 10003) 2 20043) 3 10004) 4 2) 5 20042))) :: (q12, .inl (C 5, 6, .inr (.inr (.inr (.inr (fun _ => none)))))) :: (q7, .inl (C 0, 16, .inl (fun _ => 0))) :: r5) (c := (q14, .inr (6, [.ref q13, .int 3]))) hP
  have hD := vd_mv (ws := (q13, .inl (C 0, 6, .inl (upd (upd (upd (upd (upd (upd (fun _ => 0) 0 10000) 1 10003) 2 20043) 3 10004) 4 2) 5 20042))) :: (q12, .inl (C 5, 6, .inr (.inr (.inr (.inr (fun _ => none)))))) :: (q7, .inl (C 0, 16, .inl (fun _ => 0))) :: r5) (c := (q14, .inr (6, [.ref q13, .int 3]))) hD
  have hP : va_P D classes ((h0, .inr (11, [.ref q1, .ref q3, .ref q5, .ref q7, .int (-1), .int 0, .ref q8, .ref q10, .ref q12, .int 0, .int 0, .null, .null, .null, .null, .null])) :: (q14, .inr (6, [.ref q13, .int 3])) :: (q13, .inl (C 0, 6, .inl (upd (upd (upd (upd (upd (upd (fun _ => 0) 0 10000) 1 10003) 2 20043) 3 10004) 4 2) 5 20042))) :: (q12, .inl (C 5, 6, .inr (.inr (.inr (.inr (fun _ => none)))))) :: (q7, .inl (C 0, 16, .inl (fun _ => 0))) :: r5) H := hP
  have hD : va_D A ((h0, .inr (11, [.ref q1, .ref q3, .ref q5, .ref q7, .int (-1), .int 0, .ref q8, .ref q10, .ref q12, .int 0, .int 0, .null, .null, .null, .null, .null])) :: (q14, .inr (6, [.ref q13, .int 3])) :: (q13, .inl (C 0, 6, .inl (upd (upd (upd (upd (upd (upd (fun _ => 0) 0 10000) 1 10003) 2 20043) 3 10004) 4 2) 5 20042))) :: (q12, .inl (C 5, 6, .inr (.inr (.inr (.inr (fun _ => none)))))) :: (q7, .inl (C 0, 16, .inl (fun _ => 0))) :: r5) := hD
  refine va_astq hx hb hK hP hD hS 3 5 1 6 rfl rfl rfl rfl (i := 0) (show ¬ ((0 : Int32) < 0 ∨ 6 ≤ (0 : Int32).toNatClampNeg) by decide) dX11_init_138 (fun H locs hP hD hS => ?_)
  have hP : va_P D classes ((h0, .inr (11, [.ref q1, .ref q3, .ref q5, .ref q7, .int (-1), .int 0, .ref q8, .ref q10, .ref q12, .int 0, .int 0, .null, .null, .null, .null, .null])) :: (q14, .inr (6, [.ref q13, .int 3])) :: (q13, .inl (C 0, 6, .inl (upd (upd (upd (upd (upd (upd (fun _ => 0) 0 10000) 1 10003) 2 20043) 3 10004) 4 2) 5 20042))) :: (q12, .inl (C 5, 6, .inr (.inr (.inr (.inr (va_up (fun _ => none) 0 (some q14))))))) :: (q7, .inl (C 0, 16, .inl (fun _ => 0))) :: r5) H := hP
  have hD : va_D A ((h0, .inr (11, [.ref q1, .ref q3, .ref q5, .ref q7, .int (-1), .int 0, .ref q8, .ref q10, .ref q12, .int 0, .int 0, .null, .null, .null, .null, .null])) :: (q14, .inr (6, [.ref q13, .int 3])) :: (q13, .inl (C 0, 6, .inl (upd (upd (upd (upd (upd (upd (fun _ => 0) 0 10000) 1 10003) 2 20043) 3 10004) 4 2) 5 20042))) :: (q12, .inl (C 5, 6, .inr (.inr (.inr (.inr (va_up (fun _ => none) 0 (some q14))))))) :: (q7, .inl (C 0, 16, .inl (fun _ => 0))) :: r5) := hD
  refine lv_aload_n hx hb dX11_init_139 rfl (lv_at hl 1 rfl) ?_
  refine lv_iconst (v := 1) hx hb dX11_init_140 (by decide) ?_
  refine va_put (ci := 11) (v := .int 1) (ty := .int) (C := RX11) (T := TX11) (N := 16) hx hb hts clX11.ws tyX11 tyX11_ok nmX11 hown hK hP hD hS 0 rfl rfl 9 (by decide) (hts _ lf_X11_59) (fun _ h9 => h9) rfl (by decide +kernel) rfl rfl (Nat.le_of_ble_eq_true rfl) dX11_init_141 (fun H locs hP hD hS => ?_)
  have hP : va_P D classes ((h0, .inr (11, [.ref q1, .ref q3, .ref q5, .ref q7, .int (-1), .int 0, .ref q8, .ref q10, .ref q12, .int 1, .int 0, .null, .null, .null, .null, .null])) :: (q14, .inr (6, [.ref q13, .int 3])) :: (q13, .inl (C 0, 6, .inl (upd (upd (upd (upd (upd (upd (fun _ => 0) 0 10000) 1 10003) 2 20043) 3 10004) 4 2) 5 20042))) :: (q12, .inl (C 5, 6, .inr (.inr (.inr (.inr (va_up (fun _ => none) 0 (some q14))))))) :: (q7, .inl (C 0, 16, .inl (fun _ => 0))) :: r5) H := hP
  have hD : va_D A ((h0, .inr (11, [.ref q1, .ref q3, .ref q5, .ref q7, .int (-1), .int 0, .ref q8, .ref q10, .ref q12, .int 1, .int 0, .null, .null, .null, .null, .null])) :: (q14, .inr (6, [.ref q13, .int 3])) :: (q13, .inl (C 0, 6, .inl (upd (upd (upd (upd (upd (upd (fun _ => 0) 0 10000) 1 10003) 2 20043) 3 10004) 4 2) 5 20042))) :: (q12, .inl (C 5, 6, .inr (.inr (.inr (.inr (va_up (fun _ => none) 0 (some q14))))))) :: (q7, .inl (C 0, 16, .inl (fun _ => 0))) :: r5) := hD
  refine lv_aload_n hx hb dX11_init_144 rfl (lv_at hl 1 rfl) ?_
  refine va_new (ci := 4) (fs := [.null, .null, .null, .int 0]) (C := RX4) (T := TX4) (N := 4) hx hb hts clX4.ws tyX4 tyX4_ok hown (hts _ lk_X11_62) (hts _ li_X4) (hts _ lini_X4) hK hP hD hS hA rfl (fun j hj => by match j, hj with | 0, _ => exact rfl | 1, _ => exact rfl | 2, _ => exact rfl | 3, _ => exact rfl | n + 4, h9 => exact absurd h9 (by omega)) (Nat.le_of_ble_eq_true rfl) (Nat.le_of_ble_eq_true rfl) dX11_init_145 (fun q16 H hP hD hS => ?_)
  have hP : va_P D classes (((h0, .inr (11, [.ref q1, .ref q3, .ref q5, .ref q7, .int (-1), .int 0, .ref q8, .ref q10, .ref q12, .int 1, .int 0, .null, .null, .null, .null, .null])) :: (q14, .inr (6, [.ref q13, .int 3])) :: (q13, .inl (C 0, 6, .inl (upd (upd (upd (upd (upd (upd (fun _ => 0) 0 10000) 1 10003) 2 20043) 3 10004) 4 2) 5 20042))) :: (q12, .inl (C 5, 6, .inr (.inr (.inr (.inr (va_up (fun _ => none) 0 (some q14))))))) :: (q7, .inl (C 0, 16, .inl (fun _ => 0))) :: r5) ++ [(q16, .inr (4, [.null, .null, .null, .int 0]))]) H := hP
  have hD : va_D A (((h0, .inr (11, [.ref q1, .ref q3, .ref q5, .ref q7, .int (-1), .int 0, .ref q8, .ref q10, .ref q12, .int 1, .int 0, .null, .null, .null, .null, .null])) :: (q14, .inr (6, [.ref q13, .int 3])) :: (q13, .inl (C 0, 6, .inl (upd (upd (upd (upd (upd (upd (fun _ => 0) 0 10000) 1 10003) 2 20043) 3 10004) 4 2) 5 20042))) :: (q12, .inl (C 5, 6, .inr (.inr (.inr (.inr (va_up (fun _ => none) 0 (some q14))))))) :: (q7, .inl (C 0, 16, .inl (fun _ => 0))) :: r5) ++ [(q16, .inr (4, [.null, .null, .null, .int 0]))]) := hD
  refine lv_dup hx hb dX11_init_148 rfl ?_
  refine lv_aload_n hx hb dX11_init_149 rfl (lv_at hl 1 rfl) ?_
  refine va_get (D := D) (ci := 11) (v := .ref q8) (C := RX11) (T := TX11) (N := 16) hx hb hts clX11.ws hown hK hP 0 rfl rfl 6 (by decide) (hts _ lf_X11_37) (fun _ h9 => h9) rfl dX11_init_150 ?_
  refine e_callI (ws := ((h0, .inr (11, [.ref q1, .ref q3, .ref q5, .ref q7, .int (-1), .int 0, .ref q8, .ref q10, .ref q12, .int 1, .int 0, .null, .null, .null, .null, .null])) :: (q14, .inr (6, [.ref q13, .int 3])) :: (q13, .inl (C 0, 6, .inl (upd (upd (upd (upd (upd (upd (fun _ => 0) 0 10000) 1 10003) 2 20043) 3 10004) 4 2) 5 20042))) :: (q12, .inl (C 5, 6, .inr (.inr (.inr (.inr (va_up (fun _ => none) 0 (some q14))))))) :: (q7, .inl (C 0, 16, .inl (fun _ => 0))) :: r5)) (rest := [.ref q16, .ref h0]) ⟨hx, hb, hml, hown, hts⟩ hK hP hD hS hA hE hX hl [.ref q8] (i_X4_init (KV := KV) q16 q8) yi_X4_init lm_X11_64 rfl ⟨(Nat.le_of_ble_eq_true rfl), (Nat.le_of_ble_eq_true rfl)⟩ rfl ⟨(Nat.le_of_ble_eq_true rfl), (Nat.le_of_ble_eq_true rfl)⟩ dX11_init_153 (fun u17 H locs hP hD hS => ?_)
  have hP : va_P D classes ((h0, .inr (11, [.ref q1, .ref q3, .ref q5, .ref q7, .int (-1), .int 0, .ref q8, .ref q10, .ref q12, .int 1, .int 0, .null, .null, .null, .null, .null])) :: (q14, .inr (6, [.ref q13, .int 3])) :: (q13, .inl (C 0, 6, .inl (upd (upd (upd (upd (upd (upd (fun _ => 0) 0 10000) 1 10003) 2 20043) 3 10004) 4 2) 5 20042))) :: (q12, .inl (C 5, 6, .inr (.inr (.inr (.inr (va_up (fun _ => none) 0 (some q14))))))) :: (q7, .inl (C 0, 16, .inl (fun _ => 0))) :: (r5 ++ cw_X4_init C q16 q8 u17)) H := hP
  have hD : va_D A ((h0, .inr (11, [.ref q1, .ref q3, .ref q5, .ref q7, .int (-1), .int 0, .ref q8, .ref q10, .ref q12, .int 1, .int 0, .null, .null, .null, .null, .null])) :: (q14, .inr (6, [.ref q13, .int 3])) :: (q13, .inl (C 0, 6, .inl (upd (upd (upd (upd (upd (upd (fun _ => 0) 0 10000) 1 10003) 2 20043) 3 10004) 4 2) 5 20042))) :: (q12, .inl (C 5, 6, .inr (.inr (.inr (.inr (va_up (fun _ => none) 0 (some q14))))))) :: (q7, .inl (C 0, 16, .inl (fun _ => 0))) :: (r5 ++ cw_X4_init C q16 q8 u17)) := hD
  obtain ⟨r6, er6⟩ : ∃ z9 : va_W, z9 = r5 ++ cw_X4_init C q16 q8 u17 := ⟨_, rfl⟩
  rw [← er6] at hP hD
  have hP : va_P D classes ((h0, .inr (11, [.ref q1, .ref q3, .ref q5, .ref q7, .int (-1), .int 0, .ref q8, .ref q10, .ref q12, .int 1, .int 0, .null, .null, .null, .null, .null])) :: (q14, .inr (6, [.ref q13, .int 3])) :: (q13, .inl (C 0, 6, .inl (upd (upd (upd (upd (upd (upd (fun _ => 0) 0 10000) 1 10003) 2 20043) 3 10004) 4 2) 5 20042))) :: (q12, .inl (C 5, 6, .inr (.inr (.inr (.inr (va_up (fun _ => none) 0 (some q14))))))) :: (q7, .inl (C 0, 16, .inl (fun _ => 0))) :: r6) H := hP
  have hD : va_D A ((h0, .inr (11, [.ref q1, .ref q3, .ref q5, .ref q7, .int (-1), .int 0, .ref q8, .ref q10, .ref q12, .int 1, .int 0, .null, .null, .null, .null, .null])) :: (q14, .inr (6, [.ref q13, .int 3])) :: (q13, .inl (C 0, 6, .inl (upd (upd (upd (upd (upd (upd (fun _ => 0) 0 10000) 1 10003) 2 20043) 3 10004) 4 2) 5 20042))) :: (q12, .inl (C 5, 6, .inr (.inr (.inr (.inr (va_up (fun _ => none) 0 (some q14))))))) :: (q7, .inl (C 0, 16, .inl (fun _ => 0))) :: r6) := hD
  refine va_putF (ci := 11) (v := .ref q16) (ty := .object "EightOars$Plans") (C := RX11) (T := TX11) (N := 16) hx hb hts clX11.ws tyX11 tyX11_ok nmX11 hown hK hP hD hS 0 rfl rfl 11 (by decide) (hts _ lf_X11_65) (fun _ h9 => h9) rfl hin rfl (by decide +kernel) rfl rfl (Nat.le_of_ble_eq_true rfl) dX11_init_156 (fun H locs hP hD hS => ?_)
  have hP : va_P D classes ((h0, .inr (11, [.ref q1, .ref q3, .ref q5, .ref q7, .int (-1), .int 0, .ref q8, .ref q10, .ref q12, .int 1, .int 0, .ref q16, .null, .null, .null, .null])) :: (q14, .inr (6, [.ref q13, .int 3])) :: (q13, .inl (C 0, 6, .inl (upd (upd (upd (upd (upd (upd (fun _ => 0) 0 10000) 1 10003) 2 20043) 3 10004) 4 2) 5 20042))) :: (q12, .inl (C 5, 6, .inr (.inr (.inr (.inr (va_up (fun _ => none) 0 (some q14))))))) :: (q7, .inl (C 0, 16, .inl (fun _ => 0))) :: r6) H := hP
  have hD : va_D A ((h0, .inr (11, [.ref q1, .ref q3, .ref q5, .ref q7, .int (-1), .int 0, .ref q8, .ref q10, .ref q12, .int 1, .int 0, .ref q16, .null, .null, .null, .null])) :: (q14, .inr (6, [.ref q13, .int 3])) :: (q13, .inl (C 0, 6, .inl (upd (upd (upd (upd (upd (upd (fun _ => 0) 0 10000) 1 10003) 2 20043) 3 10004) 4 2) 5 20042))) :: (q12, .inl (C 5, 6, .inr (.inr (.inr (.inr (va_up (fun _ => none) 0 (some q14))))))) :: (q7, .inl (C 0, 16, .inl (fun _ => 0))) :: r6) := hD
  refine lv_aload_n hx hb dX11_init_159 rfl (lv_at hl 1 rfl) ?_
  refine va_new (ci := 1) (fs := [.null, .null, .null, .null, .null, .null, .null, .int 0, .int 0, .null, .int 0, .long 0, .long 0, .long 0, .long 0]) (C := RX1) (T := TX1) (N := 15) hx hb hts clX1.ws tyX1 tyX1_ok hown (hts _ lk_X11_69) (hts _ li_X1) (hts _ lini_X1) hK hP hD hS hA rfl (fun j hj => by match j, hj with | 0, _ => exact rfl | 1, _ => exact rfl | 2, _ => exact rfl | 3, _ => exact rfl | 4, _ => exact rfl | 5, _ => exact rfl | 6, _ => exact rfl | 7, _ => exact rfl | 8, _ => exact rfl | 9, _ => exact rfl | 10, _ => exact rfl | 11, _ => exact rfl | 12, _ => exact rfl | 13, _ => exact rfl | 14, _ => exact rfl | n + 15, h9 => exact absurd h9 (by omega)) (Nat.le_of_ble_eq_true rfl) (Nat.le_of_ble_eq_true rfl) dX11_init_160 (fun q18 H hP hD hS => ?_)
  have hP : va_P D classes (((h0, .inr (11, [.ref q1, .ref q3, .ref q5, .ref q7, .int (-1), .int 0, .ref q8, .ref q10, .ref q12, .int 1, .int 0, .ref q16, .null, .null, .null, .null])) :: (q14, .inr (6, [.ref q13, .int 3])) :: (q13, .inl (C 0, 6, .inl (upd (upd (upd (upd (upd (upd (fun _ => 0) 0 10000) 1 10003) 2 20043) 3 10004) 4 2) 5 20042))) :: (q12, .inl (C 5, 6, .inr (.inr (.inr (.inr (va_up (fun _ => none) 0 (some q14))))))) :: (q7, .inl (C 0, 16, .inl (fun _ => 0))) :: r6) ++ [(q18, .inr (1, [.null, .null, .null, .null, .null, .null, .null, .int 0, .int 0, .null, .int 0, .long 0, .long 0, .long 0, .long 0]))]) H := hP
  have hD : va_D A (((h0, .inr (11, [.ref q1, .ref q3, .ref q5, .ref q7, .int (-1), .int 0, .ref q8, .ref q10, .ref q12, .int 1, .int 0, .ref q16, .null, .null, .null, .null])) :: (q14, .inr (6, [.ref q13, .int 3])) :: (q13, .inl (C 0, 6, .inl (upd (upd (upd (upd (upd (upd (fun _ => 0) 0 10000) 1 10003) 2 20043) 3 10004) 4 2) 5 20042))) :: (q12, .inl (C 5, 6, .inr (.inr (.inr (.inr (va_up (fun _ => none) 0 (some q14))))))) :: (q7, .inl (C 0, 16, .inl (fun _ => 0))) :: r6) ++ [(q18, .inr (1, [.null, .null, .null, .null, .null, .null, .null, .int 0, .int 0, .null, .int 0, .long 0, .long 0, .long 0, .long 0]))]) := hD
  refine lv_dup hx hb dX11_init_163 rfl ?_
  refine lv_aload_n hx hb dX11_init_164 rfl (lv_at hl 1 rfl) ?_
  refine va_get (D := D) (ci := 11) (v := .ref q1) (C := RX11) (T := TX11) (N := 16) hx hb hts clX11.ws hown hK hP 0 rfl rfl 0 (by decide) (hts _ lf_X11_10) (fun _ h9 => h9) rfl dX11_init_165 ?_
  refine lv_aload_n hx hb dX11_init_168 rfl (lv_at hl 1 rfl) ?_
  refine va_get (D := D) (ci := 11) (v := .ref q3) (C := RX11) (T := TX11) (N := 16) hx hb hts clX11.ws hown hK hP 0 rfl rfl 1 (by decide) (hts _ lf_X11_19) (fun _ h9 => h9) rfl dX11_init_169 ?_
  refine e_callI (ws := ((h0, .inr (11, [.ref q1, .ref q3, .ref q5, .ref q7, .int (-1), .int 0, .ref q8, .ref q10, .ref q12, .int 1, .int 0, .ref q16, .null, .null, .null, .null])) :: (q14, .inr (6, [.ref q13, .int 3])) :: (q13, .inl (C 0, 6, .inl (upd (upd (upd (upd (upd (upd (fun _ => 0) 0 10000) 1 10003) 2 20043) 3 10004) 4 2) 5 20042))) :: (q12, .inl (C 5, 6, .inr (.inr (.inr (.inr (va_up (fun _ => none) 0 (some q14))))))) :: (q7, .inl (C 0, 16, .inl (fun _ => 0))) :: r6)) (rest := [.ref q18, .ref h0]) ⟨hx, hb, hml, hown, hts⟩ hK hP hD hS hA hE hX hl [.ref q1, .ref q3] (i_X1_init (KV := KV) q18 q1 q3) yi_X1_init lm_X11_71 rfl ⟨(Nat.le_of_ble_eq_true rfl), (Nat.le_of_ble_eq_true rfl)⟩ rfl ⟨(Nat.le_of_ble_eq_true rfl), (Nat.le_of_ble_eq_true rfl)⟩ dX11_init_172 (fun u19 H locs hP hD hS => ?_)
  have hP : va_P D classes ((h0, .inr (11, [.ref q1, .ref q3, .ref q5, .ref q7, .int (-1), .int 0, .ref q8, .ref q10, .ref q12, .int 1, .int 0, .ref q16, .null, .null, .null, .null])) :: (q14, .inr (6, [.ref q13, .int 3])) :: (q13, .inl (C 0, 6, .inl (upd (upd (upd (upd (upd (upd (fun _ => 0) 0 10000) 1 10003) 2 20043) 3 10004) 4 2) 5 20042))) :: (q12, .inl (C 5, 6, .inr (.inr (.inr (.inr (va_up (fun _ => none) 0 (some q14))))))) :: (q7, .inl (C 0, 16, .inl (fun _ => 0))) :: (r6 ++ cw_X1_init C q18 q1 q3 u19)) H := hP
  have hD : va_D A ((h0, .inr (11, [.ref q1, .ref q3, .ref q5, .ref q7, .int (-1), .int 0, .ref q8, .ref q10, .ref q12, .int 1, .int 0, .ref q16, .null, .null, .null, .null])) :: (q14, .inr (6, [.ref q13, .int 3])) :: (q13, .inl (C 0, 6, .inl (upd (upd (upd (upd (upd (upd (fun _ => 0) 0 10000) 1 10003) 2 20043) 3 10004) 4 2) 5 20042))) :: (q12, .inl (C 5, 6, .inr (.inr (.inr (.inr (va_up (fun _ => none) 0 (some q14))))))) :: (q7, .inl (C 0, 16, .inl (fun _ => 0))) :: (r6 ++ cw_X1_init C q18 q1 q3 u19)) := hD
  obtain ⟨r7, er7⟩ : ∃ z9 : va_W, z9 = r6 ++ cw_X1_init C q18 q1 q3 u19 := ⟨_, rfl⟩
  rw [← er7] at hP hD
  have hP : va_P D classes ((h0, .inr (11, [.ref q1, .ref q3, .ref q5, .ref q7, .int (-1), .int 0, .ref q8, .ref q10, .ref q12, .int 1, .int 0, .ref q16, .null, .null, .null, .null])) :: (q14, .inr (6, [.ref q13, .int 3])) :: (q13, .inl (C 0, 6, .inl (upd (upd (upd (upd (upd (upd (fun _ => 0) 0 10000) 1 10003) 2 20043) 3 10004) 4 2) 5 20042))) :: (q12, .inl (C 5, 6, .inr (.inr (.inr (.inr (va_up (fun _ => none) 0 (some q14))))))) :: (q7, .inl (C 0, 16, .inl (fun _ => 0))) :: r7) H := hP
  have hD : va_D A ((h0, .inr (11, [.ref q1, .ref q3, .ref q5, .ref q7, .int (-1), .int 0, .ref q8, .ref q10, .ref q12, .int 1, .int 0, .ref q16, .null, .null, .null, .null])) :: (q14, .inr (6, [.ref q13, .int 3])) :: (q13, .inl (C 0, 6, .inl (upd (upd (upd (upd (upd (upd (fun _ => 0) 0 10000) 1 10003) 2 20043) 3 10004) 4 2) 5 20042))) :: (q12, .inl (C 5, 6, .inr (.inr (.inr (.inr (va_up (fun _ => none) 0 (some q14))))))) :: (q7, .inl (C 0, 16, .inl (fun _ => 0))) :: r7) := hD
  refine va_putF (ci := 11) (v := .ref q18) (ty := .object "EightOars$Course") (C := RX11) (T := TX11) (N := 16) hx hb hts clX11.ws tyX11 tyX11_ok nmX11 hown hK hP hD hS 0 rfl rfl 12 (by decide) (hts _ lf_X11_74) (fun _ h9 => h9) rfl hin rfl (by decide +kernel) rfl rfl (Nat.le_of_ble_eq_true rfl) dX11_init_175 (fun H locs hP hD hS => ?_)
  have hP : va_P D classes ((h0, .inr (11, [.ref q1, .ref q3, .ref q5, .ref q7, .int (-1), .int 0, .ref q8, .ref q10, .ref q12, .int 1, .int 0, .ref q16, .ref q18, .null, .null, .null])) :: (q14, .inr (6, [.ref q13, .int 3])) :: (q13, .inl (C 0, 6, .inl (upd (upd (upd (upd (upd (upd (fun _ => 0) 0 10000) 1 10003) 2 20043) 3 10004) 4 2) 5 20042))) :: (q12, .inl (C 5, 6, .inr (.inr (.inr (.inr (va_up (fun _ => none) 0 (some q14))))))) :: (q7, .inl (C 0, 16, .inl (fun _ => 0))) :: r7) H := hP
  have hD : va_D A ((h0, .inr (11, [.ref q1, .ref q3, .ref q5, .ref q7, .int (-1), .int 0, .ref q8, .ref q10, .ref q12, .int 1, .int 0, .ref q16, .ref q18, .null, .null, .null])) :: (q14, .inr (6, [.ref q13, .int 3])) :: (q13, .inl (C 0, 6, .inl (upd (upd (upd (upd (upd (upd (fun _ => 0) 0 10000) 1 10003) 2 20043) 3 10004) 4 2) 5 20042))) :: (q12, .inl (C 5, 6, .inr (.inr (.inr (.inr (va_up (fun _ => none) 0 (some q14))))))) :: (q7, .inl (C 0, 16, .inl (fun _ => 0))) :: r7) := hD
  refine lv_aload_n hx hb dX11_init_178 rfl (lv_at hl 1 rfl) ?_
  refine va_new (ci := 10) (fs := [.null, .null, .null, .null, .int 0, .null, .int 0, .int 0]) (C := RX10) (T := TX10) (N := 8) hx hb hts clX10.ws tyX10 tyX10_ok hown (hts _ lk_X11_78) (hts _ li_X10) (hts _ lini_X10) hK hP hD hS hA rfl (fun j hj => by match j, hj with | 0, _ => exact rfl | 1, _ => exact rfl | 2, _ => exact rfl | 3, _ => exact rfl | 4, _ => exact rfl | 5, _ => exact rfl | 6, _ => exact rfl | 7, _ => exact rfl | n + 8, h9 => exact absurd h9 (by omega)) (Nat.le_of_ble_eq_true rfl) (Nat.le_of_ble_eq_true rfl) dX11_init_179 (fun q20 H hP hD hS => ?_)
  have hP : va_P D classes (((h0, .inr (11, [.ref q1, .ref q3, .ref q5, .ref q7, .int (-1), .int 0, .ref q8, .ref q10, .ref q12, .int 1, .int 0, .ref q16, .ref q18, .null, .null, .null])) :: (q14, .inr (6, [.ref q13, .int 3])) :: (q13, .inl (C 0, 6, .inl (upd (upd (upd (upd (upd (upd (fun _ => 0) 0 10000) 1 10003) 2 20043) 3 10004) 4 2) 5 20042))) :: (q12, .inl (C 5, 6, .inr (.inr (.inr (.inr (va_up (fun _ => none) 0 (some q14))))))) :: (q7, .inl (C 0, 16, .inl (fun _ => 0))) :: r7) ++ [(q20, .inr (10, [.null, .null, .null, .null, .int 0, .null, .int 0, .int 0]))]) H := hP
  have hD : va_D A (((h0, .inr (11, [.ref q1, .ref q3, .ref q5, .ref q7, .int (-1), .int 0, .ref q8, .ref q10, .ref q12, .int 1, .int 0, .ref q16, .ref q18, .null, .null, .null])) :: (q14, .inr (6, [.ref q13, .int 3])) :: (q13, .inl (C 0, 6, .inl (upd (upd (upd (upd (upd (upd (fun _ => 0) 0 10000) 1 10003) 2 20043) 3 10004) 4 2) 5 20042))) :: (q12, .inl (C 5, 6, .inr (.inr (.inr (.inr (va_up (fun _ => none) 0 (some q14))))))) :: (q7, .inl (C 0, 16, .inl (fun _ => 0))) :: r7) ++ [(q20, .inr (10, [.null, .null, .null, .null, .int 0, .null, .int 0, .int 0]))]) := hD
  refine lv_dup hx hb dX11_init_182 rfl ?_
  refine e_callN (ws := ((h0, .inr (11, [.ref q1, .ref q3, .ref q5, .ref q7, .int (-1), .int 0, .ref q8, .ref q10, .ref q12, .int 1, .int 0, .ref q16, .ref q18, .null, .null, .null])) :: (q14, .inr (6, [.ref q13, .int 3])) :: (q13, .inl (C 0, 6, .inl (upd (upd (upd (upd (upd (upd (fun _ => 0) 0 10000) 1 10003) 2 20043) 3 10004) 4 2) 5 20042))) :: (q12, .inl (C 5, 6, .inr (.inr (.inr (.inr (va_up (fun _ => none) 0 (some q14))))))) :: (q7, .inl (C 0, 16, .inl (fun _ => 0))) :: r7)) (rest := [.ref q20, .ref h0]) ⟨hx, hb, hml, hown, hts⟩ hK hP hD hS hA hE hX hl [] (i_X10_init (KV := KV) q20) yi_X10_init hE.2.2.2.2.1 rfl ⟨(Nat.le_of_ble_eq_true rfl), (Nat.le_of_ble_eq_true rfl)⟩ rfl ⟨(Nat.le_of_ble_eq_true rfl), (Nat.le_of_ble_eq_true rfl)⟩ dX11_init_183 (fun u21 H locs hP hD hS => ?_)
  have hP : va_P D classes ((h0, .inr (11, [.ref q1, .ref q3, .ref q5, .ref q7, .int (-1), .int 0, .ref q8, .ref q10, .ref q12, .int 1, .int 0, .ref q16, .ref q18, .null, .null, .null])) :: (q14, .inr (6, [.ref q13, .int 3])) :: (q13, .inl (C 0, 6, .inl (upd (upd (upd (upd (upd (upd (fun _ => 0) 0 10000) 1 10003) 2 20043) 3 10004) 4 2) 5 20042))) :: (q12, .inl (C 5, 6, .inr (.inr (.inr (.inr (va_up (fun _ => none) 0 (some q14))))))) :: (q7, .inl (C 0, 16, .inl (fun _ => 0))) :: (r7 ++ cw_X10_init C q20 u21)) H := hP
  have hD : va_D A ((h0, .inr (11, [.ref q1, .ref q3, .ref q5, .ref q7, .int (-1), .int 0, .ref q8, .ref q10, .ref q12, .int 1, .int 0, .ref q16, .ref q18, .null, .null, .null])) :: (q14, .inr (6, [.ref q13, .int 3])) :: (q13, .inl (C 0, 6, .inl (upd (upd (upd (upd (upd (upd (fun _ => 0) 0 10000) 1 10003) 2 20043) 3 10004) 4 2) 5 20042))) :: (q12, .inl (C 5, 6, .inr (.inr (.inr (.inr (va_up (fun _ => none) 0 (some q14))))))) :: (q7, .inl (C 0, 16, .inl (fun _ => 0))) :: (r7 ++ cw_X10_init C q20 u21)) := hD
  obtain ⟨r8, er8⟩ : ∃ z9 : va_W, z9 = r7 ++ cw_X10_init C q20 u21 := ⟨_, rfl⟩
  rw [← er8] at hP hD
  have hP : va_P D classes ((h0, .inr (11, [.ref q1, .ref q3, .ref q5, .ref q7, .int (-1), .int 0, .ref q8, .ref q10, .ref q12, .int 1, .int 0, .ref q16, .ref q18, .null, .null, .null])) :: (q14, .inr (6, [.ref q13, .int 3])) :: (q13, .inl (C 0, 6, .inl (upd (upd (upd (upd (upd (upd (fun _ => 0) 0 10000) 1 10003) 2 20043) 3 10004) 4 2) 5 20042))) :: (q12, .inl (C 5, 6, .inr (.inr (.inr (.inr (va_up (fun _ => none) 0 (some q14))))))) :: (q7, .inl (C 0, 16, .inl (fun _ => 0))) :: r8) H := hP
  have hD : va_D A ((h0, .inr (11, [.ref q1, .ref q3, .ref q5, .ref q7, .int (-1), .int 0, .ref q8, .ref q10, .ref q12, .int 1, .int 0, .ref q16, .ref q18, .null, .null, .null])) :: (q14, .inr (6, [.ref q13, .int 3])) :: (q13, .inl (C 0, 6, .inl (upd (upd (upd (upd (upd (upd (fun _ => 0) 0 10000) 1 10003) 2 20043) 3 10004) 4 2) 5 20042))) :: (q12, .inl (C 5, 6, .inr (.inr (.inr (.inr (va_up (fun _ => none) 0 (some q14))))))) :: (q7, .inl (C 0, 16, .inl (fun _ => 0))) :: r8) := hD
  refine va_putF (ci := 11) (v := .ref q20) (ty := .object "EightOars$Trials") (C := RX11) (T := TX11) (N := 16) hx hb hts clX11.ws tyX11 tyX11_ok nmX11 hown hK hP hD hS 0 rfl rfl 13 (by decide) (hts _ lf_X11_81) (fun _ h9 => h9) rfl hin rfl (by decide +kernel) rfl rfl (Nat.le_of_ble_eq_true rfl) dX11_init_186 (fun H locs hP hD hS => ?_)
  have hP : va_P D classes ((h0, .inr (11, [.ref q1, .ref q3, .ref q5, .ref q7, .int (-1), .int 0, .ref q8, .ref q10, .ref q12, .int 1, .int 0, .ref q16, .ref q18, .ref q20, .null, .null])) :: (q14, .inr (6, [.ref q13, .int 3])) :: (q13, .inl (C 0, 6, .inl (upd (upd (upd (upd (upd (upd (fun _ => 0) 0 10000) 1 10003) 2 20043) 3 10004) 4 2) 5 20042))) :: (q12, .inl (C 5, 6, .inr (.inr (.inr (.inr (va_up (fun _ => none) 0 (some q14))))))) :: (q7, .inl (C 0, 16, .inl (fun _ => 0))) :: r8) H := hP
  have hD : va_D A ((h0, .inr (11, [.ref q1, .ref q3, .ref q5, .ref q7, .int (-1), .int 0, .ref q8, .ref q10, .ref q12, .int 1, .int 0, .ref q16, .ref q18, .ref q20, .null, .null])) :: (q14, .inr (6, [.ref q13, .int 3])) :: (q13, .inl (C 0, 6, .inl (upd (upd (upd (upd (upd (upd (fun _ => 0) 0 10000) 1 10003) 2 20043) 3 10004) 4 2) 5 20042))) :: (q12, .inl (C 5, 6, .inr (.inr (.inr (.inr (va_up (fun _ => none) 0 (some q14))))))) :: (q7, .inl (C 0, 16, .inl (fun _ => 0))) :: r8) := hD
  refine lv_aload_n hx hb dX11_init_189 rfl (lv_at hl 1 rfl) ?_
  refine va_new (ci := 5) (fs := [.null, .int 0]) (C := RX5) (T := TX5) (N := 2) hx hb hts clX5.ws tyX5 tyX5_ok hown (hts _ lk_X11_85) (hts _ li_X5) (hts _ lini_X5) hK hP hD hS hA rfl (fun j hj => by match j, hj with | 0, _ => exact rfl | 1, _ => exact rfl | n + 2, h9 => exact absurd h9 (by omega)) (Nat.le_of_ble_eq_true rfl) (Nat.le_of_ble_eq_true rfl) dX11_init_190 (fun q22 H hP hD hS => ?_)
  have hP : va_P D classes (((h0, .inr (11, [.ref q1, .ref q3, .ref q5, .ref q7, .int (-1), .int 0, .ref q8, .ref q10, .ref q12, .int 1, .int 0, .ref q16, .ref q18, .ref q20, .null, .null])) :: (q14, .inr (6, [.ref q13, .int 3])) :: (q13, .inl (C 0, 6, .inl (upd (upd (upd (upd (upd (upd (fun _ => 0) 0 10000) 1 10003) 2 20043) 3 10004) 4 2) 5 20042))) :: (q12, .inl (C 5, 6, .inr (.inr (.inr (.inr (va_up (fun _ => none) 0 (some q14))))))) :: (q7, .inl (C 0, 16, .inl (fun _ => 0))) :: r8) ++ [(q22, .inr (5, [.null, .int 0]))]) H := hP
  have hD : va_D A (((h0, .inr (11, [.ref q1, .ref q3, .ref q5, .ref q7, .int (-1), .int 0, .ref q8, .ref q10, .ref q12, .int 1, .int 0, .ref q16, .ref q18, .ref q20, .null, .null])) :: (q14, .inr (6, [.ref q13, .int 3])) :: (q13, .inl (C 0, 6, .inl (upd (upd (upd (upd (upd (upd (fun _ => 0) 0 10000) 1 10003) 2 20043) 3 10004) 4 2) 5 20042))) :: (q12, .inl (C 5, 6, .inr (.inr (.inr (.inr (va_up (fun _ => none) 0 (some q14))))))) :: (q7, .inl (C 0, 16, .inl (fun _ => 0))) :: r8) ++ [(q22, .inr (5, [.null, .int 0]))]) := hD
  refine lv_dup hx hb dX11_init_193 rfl ?_
  refine e_callN (ws := ((h0, .inr (11, [.ref q1, .ref q3, .ref q5, .ref q7, .int (-1), .int 0, .ref q8, .ref q10, .ref q12, .int 1, .int 0, .ref q16, .ref q18, .ref q20, .null, .null])) :: (q14, .inr (6, [.ref q13, .int 3])) :: (q13, .inl (C 0, 6, .inl (upd (upd (upd (upd (upd (upd (fun _ => 0) 0 10000) 1 10003) 2 20043) 3 10004) 4 2) 5 20042))) :: (q12, .inl (C 5, 6, .inr (.inr (.inr (.inr (va_up (fun _ => none) 0 (some q14))))))) :: (q7, .inl (C 0, 16, .inl (fun _ => 0))) :: r8)) (rest := [.ref q22, .ref h0]) ⟨hx, hb, hml, hown, hts⟩ hK hP hD hS hA hE hX hl [] (i_X5_init (KV := KV) q22) yi_X5_init hE.2.2.2.2.2.1 rfl ⟨(Nat.le_of_ble_eq_true rfl), (Nat.le_of_ble_eq_true rfl)⟩ rfl ⟨(Nat.le_of_ble_eq_true rfl), (Nat.le_of_ble_eq_true rfl)⟩ dX11_init_194 (fun u23 H locs hP hD hS => ?_)
  have hP : va_P D classes ((h0, .inr (11, [.ref q1, .ref q3, .ref q5, .ref q7, .int (-1), .int 0, .ref q8, .ref q10, .ref q12, .int 1, .int 0, .ref q16, .ref q18, .ref q20, .null, .null])) :: (q14, .inr (6, [.ref q13, .int 3])) :: (q13, .inl (C 0, 6, .inl (upd (upd (upd (upd (upd (upd (fun _ => 0) 0 10000) 1 10003) 2 20043) 3 10004) 4 2) 5 20042))) :: (q12, .inl (C 5, 6, .inr (.inr (.inr (.inr (va_up (fun _ => none) 0 (some q14))))))) :: (q7, .inl (C 0, 16, .inl (fun _ => 0))) :: (r8 ++ cw_X5_init C q22 u23)) H := hP
  have hD : va_D A ((h0, .inr (11, [.ref q1, .ref q3, .ref q5, .ref q7, .int (-1), .int 0, .ref q8, .ref q10, .ref q12, .int 1, .int 0, .ref q16, .ref q18, .ref q20, .null, .null])) :: (q14, .inr (6, [.ref q13, .int 3])) :: (q13, .inl (C 0, 6, .inl (upd (upd (upd (upd (upd (upd (fun _ => 0) 0 10000) 1 10003) 2 20043) 3 10004) 4 2) 5 20042))) :: (q12, .inl (C 5, 6, .inr (.inr (.inr (.inr (va_up (fun _ => none) 0 (some q14))))))) :: (q7, .inl (C 0, 16, .inl (fun _ => 0))) :: (r8 ++ cw_X5_init C q22 u23)) := hD
  obtain ⟨r9, er9⟩ : ∃ z9 : va_W, z9 = r8 ++ cw_X5_init C q22 u23 := ⟨_, rfl⟩
  rw [← er9] at hP hD
  have hP : va_P D classes ((h0, .inr (11, [.ref q1, .ref q3, .ref q5, .ref q7, .int (-1), .int 0, .ref q8, .ref q10, .ref q12, .int 1, .int 0, .ref q16, .ref q18, .ref q20, .null, .null])) :: (q14, .inr (6, [.ref q13, .int 3])) :: (q13, .inl (C 0, 6, .inl (upd (upd (upd (upd (upd (upd (fun _ => 0) 0 10000) 1 10003) 2 20043) 3 10004) 4 2) 5 20042))) :: (q12, .inl (C 5, 6, .inr (.inr (.inr (.inr (va_up (fun _ => none) 0 (some q14))))))) :: (q7, .inl (C 0, 16, .inl (fun _ => 0))) :: r9) H := hP
  have hD : va_D A ((h0, .inr (11, [.ref q1, .ref q3, .ref q5, .ref q7, .int (-1), .int 0, .ref q8, .ref q10, .ref q12, .int 1, .int 0, .ref q16, .ref q18, .ref q20, .null, .null])) :: (q14, .inr (6, [.ref q13, .int 3])) :: (q13, .inl (C 0, 6, .inl (upd (upd (upd (upd (upd (upd (fun _ => 0) 0 10000) 1 10003) 2 20043) 3 10004) 4 2) 5 20042))) :: (q12, .inl (C 5, 6, .inr (.inr (.inr (.inr (va_up (fun _ => none) 0 (some q14))))))) :: (q7, .inl (C 0, 16, .inl (fun _ => 0))) :: r9) := hD
  refine va_putF (ci := 11) (v := .ref q22) (ty := .object "EightOars$Regatta") (C := RX11) (T := TX11) (N := 16) hx hb hts clX11.ws tyX11 tyX11_ok nmX11 hown hK hP hD hS 0 rfl rfl 14 (by decide) (hts _ lf_X11_88) (fun _ h9 => h9) rfl hin rfl (by decide +kernel) rfl rfl (Nat.le_of_ble_eq_true rfl) dX11_init_197 (fun H locs hP hD hS => ?_)
  have hP : va_P D classes ((h0, .inr (11, [.ref q1, .ref q3, .ref q5, .ref q7, .int (-1), .int 0, .ref q8, .ref q10, .ref q12, .int 1, .int 0, .ref q16, .ref q18, .ref q20, .ref q22, .null])) :: (q14, .inr (6, [.ref q13, .int 3])) :: (q13, .inl (C 0, 6, .inl (upd (upd (upd (upd (upd (upd (fun _ => 0) 0 10000) 1 10003) 2 20043) 3 10004) 4 2) 5 20042))) :: (q12, .inl (C 5, 6, .inr (.inr (.inr (.inr (va_up (fun _ => none) 0 (some q14))))))) :: (q7, .inl (C 0, 16, .inl (fun _ => 0))) :: r9) H := hP
  have hD : va_D A ((h0, .inr (11, [.ref q1, .ref q3, .ref q5, .ref q7, .int (-1), .int 0, .ref q8, .ref q10, .ref q12, .int 1, .int 0, .ref q16, .ref q18, .ref q20, .ref q22, .null])) :: (q14, .inr (6, [.ref q13, .int 3])) :: (q13, .inl (C 0, 6, .inl (upd (upd (upd (upd (upd (upd (fun _ => 0) 0 10000) 1 10003) 2 20043) 3 10004) 4 2) 5 20042))) :: (q12, .inl (C 5, 6, .inr (.inr (.inr (.inr (va_up (fun _ => none) 0 (some q14))))))) :: (q7, .inl (C 0, 16, .inl (fun _ => 0))) :: r9) := hD
  refine lv_aload_n hx hb dX11_init_200 rfl (lv_at hl 1 rfl) ?_
  refine va_new (ci := 7) (fs := [.null, .null, .null]) (C := RX7) (T := TX7) (N := 3) hx hb hts clX7.ws tyX7 tyX7_ok hown (hts _ lk_X11_92) (hts _ li_X7) (hts _ lini_X7) hK hP hD hS hA rfl (fun j hj => by match j, hj with | 0, _ => exact rfl | 1, _ => exact rfl | 2, _ => exact rfl | n + 3, h9 => exact absurd h9 (by omega)) (Nat.le_of_ble_eq_true rfl) (Nat.le_of_ble_eq_true rfl) dX11_init_201 (fun q24 H hP hD hS => ?_)
  have hP : va_P D classes (((h0, .inr (11, [.ref q1, .ref q3, .ref q5, .ref q7, .int (-1), .int 0, .ref q8, .ref q10, .ref q12, .int 1, .int 0, .ref q16, .ref q18, .ref q20, .ref q22, .null])) :: (q14, .inr (6, [.ref q13, .int 3])) :: (q13, .inl (C 0, 6, .inl (upd (upd (upd (upd (upd (upd (fun _ => 0) 0 10000) 1 10003) 2 20043) 3 10004) 4 2) 5 20042))) :: (q12, .inl (C 5, 6, .inr (.inr (.inr (.inr (va_up (fun _ => none) 0 (some q14))))))) :: (q7, .inl (C 0, 16, .inl (fun _ => 0))) :: r9) ++ [(q24, .inr (7, [.null, .null, .null]))]) H := hP
  have hD : va_D A (((h0, .inr (11, [.ref q1, .ref q3, .ref q5, .ref q7, .int (-1), .int 0, .ref q8, .ref q10, .ref q12, .int 1, .int 0, .ref q16, .ref q18, .ref q20, .ref q22, .null])) :: (q14, .inr (6, [.ref q13, .int 3])) :: (q13, .inl (C 0, 6, .inl (upd (upd (upd (upd (upd (upd (fun _ => 0) 0 10000) 1 10003) 2 20043) 3 10004) 4 2) 5 20042))) :: (q12, .inl (C 5, 6, .inr (.inr (.inr (.inr (va_up (fun _ => none) 0 (some q14))))))) :: (q7, .inl (C 0, 16, .inl (fun _ => 0))) :: r9) ++ [(q24, .inr (7, [.null, .null, .null]))]) := hD
  refine lv_dup hx hb dX11_init_204 rfl ?_
  refine e_callN (ws := ((h0, .inr (11, [.ref q1, .ref q3, .ref q5, .ref q7, .int (-1), .int 0, .ref q8, .ref q10, .ref q12, .int 1, .int 0, .ref q16, .ref q18, .ref q20, .ref q22, .null])) :: (q14, .inr (6, [.ref q13, .int 3])) :: (q13, .inl (C 0, 6, .inl (upd (upd (upd (upd (upd (upd (fun _ => 0) 0 10000) 1 10003) 2 20043) 3 10004) 4 2) 5 20042))) :: (q12, .inl (C 5, 6, .inr (.inr (.inr (.inr (va_up (fun _ => none) 0 (some q14))))))) :: (q7, .inl (C 0, 16, .inl (fun _ => 0))) :: r9)) (rest := [.ref q24, .ref h0]) ⟨hx, hb, hml, hown, hts⟩ hK hP hD hS hA hE hX hl [] (i_X7_init (KV := KV) q24) yi_X7_init hE.2.2.2.2.2.2 rfl ⟨(Nat.le_of_ble_eq_true rfl), (Nat.le_of_ble_eq_true rfl)⟩ rfl ⟨(Nat.le_of_ble_eq_true rfl), (Nat.le_of_ble_eq_true rfl)⟩ dX11_init_205 (fun u25 H locs hP hD hS => ?_)
  have hP : va_P D classes ((h0, .inr (11, [.ref q1, .ref q3, .ref q5, .ref q7, .int (-1), .int 0, .ref q8, .ref q10, .ref q12, .int 1, .int 0, .ref q16, .ref q18, .ref q20, .ref q22, .null])) :: (q14, .inr (6, [.ref q13, .int 3])) :: (q13, .inl (C 0, 6, .inl (upd (upd (upd (upd (upd (upd (fun _ => 0) 0 10000) 1 10003) 2 20043) 3 10004) 4 2) 5 20042))) :: (q12, .inl (C 5, 6, .inr (.inr (.inr (.inr (va_up (fun _ => none) 0 (some q14))))))) :: (q7, .inl (C 0, 16, .inl (fun _ => 0))) :: (r9 ++ cw_X7_init C q24 u25)) H := hP
  have hD : va_D A ((h0, .inr (11, [.ref q1, .ref q3, .ref q5, .ref q7, .int (-1), .int 0, .ref q8, .ref q10, .ref q12, .int 1, .int 0, .ref q16, .ref q18, .ref q20, .ref q22, .null])) :: (q14, .inr (6, [.ref q13, .int 3])) :: (q13, .inl (C 0, 6, .inl (upd (upd (upd (upd (upd (upd (fun _ => 0) 0 10000) 1 10003) 2 20043) 3 10004) 4 2) 5 20042))) :: (q12, .inl (C 5, 6, .inr (.inr (.inr (.inr (va_up (fun _ => none) 0 (some q14))))))) :: (q7, .inl (C 0, 16, .inl (fun _ => 0))) :: (r9 ++ cw_X7_init C q24 u25)) := hD
  obtain ⟨r10, er10⟩ : ∃ z9 : va_W, z9 = r9 ++ cw_X7_init C q24 u25 := ⟨_, rfl⟩
  rw [← er10] at hP hD
  have hP : va_P D classes ((h0, .inr (11, [.ref q1, .ref q3, .ref q5, .ref q7, .int (-1), .int 0, .ref q8, .ref q10, .ref q12, .int 1, .int 0, .ref q16, .ref q18, .ref q20, .ref q22, .null])) :: (q14, .inr (6, [.ref q13, .int 3])) :: (q13, .inl (C 0, 6, .inl (upd (upd (upd (upd (upd (upd (fun _ => 0) 0 10000) 1 10003) 2 20043) 3 10004) 4 2) 5 20042))) :: (q12, .inl (C 5, 6, .inr (.inr (.inr (.inr (va_up (fun _ => none) 0 (some q14))))))) :: (q7, .inl (C 0, 16, .inl (fun _ => 0))) :: r10) H := hP
  have hD : va_D A ((h0, .inr (11, [.ref q1, .ref q3, .ref q5, .ref q7, .int (-1), .int 0, .ref q8, .ref q10, .ref q12, .int 1, .int 0, .ref q16, .ref q18, .ref q20, .ref q22, .null])) :: (q14, .inr (6, [.ref q13, .int 3])) :: (q13, .inl (C 0, 6, .inl (upd (upd (upd (upd (upd (upd (fun _ => 0) 0 10000) 1 10003) 2 20043) 3 10004) 4 2) 5 20042))) :: (q12, .inl (C 5, 6, .inr (.inr (.inr (.inr (va_up (fun _ => none) 0 (some q14))))))) :: (q7, .inl (C 0, 16, .inl (fun _ => 0))) :: r10) := hD
  refine va_putF (ci := 11) (v := .ref q24) (ty := .object "EightOars$Sheets") (C := RX11) (T := TX11) (N := 16) hx hb hts clX11.ws tyX11 tyX11_ok nmX11 hown hK hP hD hS 0 rfl rfl 15 (by decide) (hts _ lf_X11_95) (fun _ h9 => h9) rfl hin rfl (by decide +kernel) rfl rfl (Nat.le_of_ble_eq_true rfl) dX11_init_208 (fun H locs hP hD hS => ?_)
  have hP : va_P D classes ((h0, .inr (11, [.ref q1, .ref q3, .ref q5, .ref q7, .int (-1), .int 0, .ref q8, .ref q10, .ref q12, .int 1, .int 0, .ref q16, .ref q18, .ref q20, .ref q22, .ref q24])) :: (q14, .inr (6, [.ref q13, .int 3])) :: (q13, .inl (C 0, 6, .inl (upd (upd (upd (upd (upd (upd (fun _ => 0) 0 10000) 1 10003) 2 20043) 3 10004) 4 2) 5 20042))) :: (q12, .inl (C 5, 6, .inr (.inr (.inr (.inr (va_up (fun _ => none) 0 (some q14))))))) :: (q7, .inl (C 0, 16, .inl (fun _ => 0))) :: r10) H := hP
  have hD : va_D A ((h0, .inr (11, [.ref q1, .ref q3, .ref q5, .ref q7, .int (-1), .int 0, .ref q8, .ref q10, .ref q12, .int 1, .int 0, .ref q16, .ref q18, .ref q20, .ref q22, .ref q24])) :: (q14, .inr (6, [.ref q13, .int 3])) :: (q13, .inl (C 0, 6, .inl (upd (upd (upd (upd (upd (upd (fun _ => 0) 0 10000) 1 10003) 2 20043) 3 10004) 4 2) 5 20042))) :: (q12, .inl (C 5, 6, .inr (.inr (.inr (.inr (va_up (fun _ => none) 0 (some q14))))))) :: (q7, .inl (C 0, 16, .inl (fun _ => 0))) :: r10) := hD
  have hR : va_P D classes r10 H := fun k q hk => hP (k + 5) q hk
  subst er10
  subst er9
  subst er8
  subst er7
  subst er6
  subst er5
  subst er4
  subst er3
  subst er2
  subst er1
  have g9 := va_app_r hR
  have f9 := va_app_l hR
  have g8 := va_app_r f9
  have f8 := va_app_l f9
  have g7 := va_app_r f8
  have f7 := va_app_l f8
  have g6 := va_app_r f7
  have f6 := va_app_l f7
  have g5 := va_app_r f6
  have f5 := va_app_l f6
  have g4 := va_app_r f5
  have f4 := va_app_l f5
  have g3 := va_app_r f4
  have f3 := va_app_l f4
  have g2 := va_app_r f3
  have f2 := va_app_l f3
  have g1 := va_app_r f2
  have f1 := va_app_l f2
  have g0 := va_app_r f1
  have hPf : va_P D classes (wls (mkW D C shX rX 68 (adh h0 (fun k => [h0, q1, (u2 0 0), (u2 0 1), (u2 0 2), (u2 0 3), q3, (u4 0 1), (u4 0 2), (u4 0 3), q5, (u6 0 1), (u6 0 2), (u6 0 3), q7, q8, (u9 0 0), q10, (u11 0 0), q12, q16, (u17 0 0), (u17 0 1), (u17 1 0), (u17 1 1), (u17 1 2), (u17 1 3), (u17 1 4), (u17 1 5), (u17 1 6), (u17 1 7), q18, (u19 0 0), (u19 0 1), (u19 0 2), (u19 0 3), (u19 0 4), q20, (u21 0 0), (u21 0 1), (u21 0 2), (u21 0 3), (u21 0 4), (u21 1 0), (u21 1 1), (u21 1 2), (u21 1 3), (u21 1 4), (u21 1 5), (u21 1 6), (u21 1 7), (u21 1 8), (u21 1 9), (u21 1 10), (u21 1 11), (u21 1 12), q22, (u23 0 0), q24, (u25 0 0), (u25 0 1), (u25 0 2), (u25 1 0), (u25 1 1), (u25 1 2), (u25 1 3), q14, q13].getD k 0)) KV) (sxF sb)) H := by
    intro k q hk
    have hk9 := (List.getElem?_eq_some_iff.mp hk).1
    rw [wls_len] at hk9
    have hk8 : k < 68 := hk9
    rw [wls_get hk9] at hk
    cases hk
    clear hk9
    match k, hk8 with
    | 0, _ => exact hP 0 _ rfl
    | 1, _ => exact g0 0 _ rfl
    | 2, _ => exact g0 1 _ rfl
    | 3, _ => exact g0 2 _ rfl
    | 4, _ => exact g0 3 _ rfl
    | 5, _ => exact g0 4 _ rfl
    | 6, _ => exact g1 0 _ rfl
    | 7, _ => exact g1 1 _ rfl
    | 8, _ => exact g1 2 _ rfl
    | 9, _ => exact g1 3 _ rfl
    | 10, _ => exact g2 0 _ rfl
    | 11, _ => exact g2 1 _ rfl
    | 12, _ => exact g2 2 _ rfl
    | 13, _ => exact g2 3 _ rfl
    | 14, _ => exact hP 4 _ rfl
    | 15, _ => exact g3 0 _ rfl
    | 16, _ => exact g3 1 _ rfl
    | 17, _ => exact g4 0 _ rfl
    | 18, _ => exact g4 1 _ rfl
    | 19, _ => exact at_rows (hP 3 _ rfl) (fun i => by match i with | 0 => rfl | n + 1 => rfl)
    | 20, _ => exact g5 0 _ rfl
    | 21, _ => exact at_rows (g5 1 _ rfl) (fun i => by match i with | 0 => rfl | 1 => rfl | 2 => rfl | 3 => rfl | 4 => rfl | 5 => rfl | 6 => rfl | 7 => rfl | n + 8 => exact if_neg (by omega))
    | 22, _ => exact g5 10 _ rfl
    | 23, _ => exact g5 2 _ rfl
    | 24, _ => exact g5 3 _ rfl
    | 25, _ => exact g5 4 _ rfl
    | 26, _ => exact g5 5 _ rfl
    | 27, _ => exact g5 6 _ rfl
    | 28, _ => exact g5 7 _ rfl
    | 29, _ => exact g5 8 _ rfl
    | 30, _ => exact g5 9 _ rfl
    | 31, _ => exact g6 0 _ rfl
    | 32, _ => exact g6 1 _ rfl
    | 33, _ => exact g6 2 _ rfl
    | 34, _ => exact g6 3 _ rfl
    | 35, _ => exact g6 4 _ rfl
    | 36, _ => exact g6 5 _ rfl
    | 37, _ => exact g7 0 _ rfl
    | 38, _ => exact g7 1 _ rfl
    | 39, _ => exact g7 2 _ rfl
    | 40, _ => exact g7 3 _ rfl
    | 41, _ => exact g7 4 _ rfl
    | 42, _ => exact at_rows (g7 5 _ rfl) (fun i => by match i with | 0 => rfl | 1 => rfl | 2 => rfl | 3 => rfl | 4 => rfl | 5 => rfl | 6 => rfl | 7 => rfl | 8 => rfl | 9 => rfl | 10 => rfl | 11 => rfl | 12 => rfl | n + 13 => exact if_neg (by omega))
    | 43, _ => exact g7 6 _ rfl
    | 44, _ => exact g7 7 _ rfl
    | 45, _ => exact g7 8 _ rfl
    | 46, _ => exact g7 9 _ rfl
    | 47, _ => exact g7 10 _ rfl
    | 48, _ => exact g7 11 _ rfl
    | 49, _ => exact g7 12 _ rfl
    | 50, _ => exact g7 13 _ rfl
    | 51, _ => exact g7 14 _ rfl
    | 52, _ => exact g7 15 _ rfl
    | 53, _ => exact g7 16 _ rfl
    | 54, _ => exact g7 17 _ rfl
    | 55, _ => exact g7 18 _ rfl
    | 56, _ => exact g8 0 _ rfl
    | 57, _ => exact g8 1 _ rfl
    | 58, _ => exact g9 0 _ rfl
    | 59, _ => exact g9 1 _ rfl
    | 60, _ => exact g9 2 _ rfl
    | 61, _ => exact at_rows (g9 3 _ rfl) (fun i => by match i with | 0 => rfl | 1 => rfl | 2 => rfl | 3 => rfl | n + 4 => exact if_neg (by omega))
    | 62, _ => exact g9 4 _ rfl
    | 63, _ => exact g9 5 _ rfl
    | 64, _ => exact g9 6 _ rfl
    | 65, _ => exact g9 7 _ rfl
    | 66, _ => exact hP 1 _ rfl
    | 67, _ => exact hP 2 _ rfl
    | n + 68, h9 => exact absurd h9 (by omega)
  have hDf : va_D A (wls (mkW D C shX rX 68 (adh h0 (fun k => [h0, q1, (u2 0 0), (u2 0 1), (u2 0 2), (u2 0 3), q3, (u4 0 1), (u4 0 2), (u4 0 3), q5, (u6 0 1), (u6 0 2), (u6 0 3), q7, q8, (u9 0 0), q10, (u11 0 0), q12, q16, (u17 0 0), (u17 0 1), (u17 1 0), (u17 1 1), (u17 1 2), (u17 1 3), (u17 1 4), (u17 1 5), (u17 1 6), (u17 1 7), q18, (u19 0 0), (u19 0 1), (u19 0 2), (u19 0 3), (u19 0 4), q20, (u21 0 0), (u21 0 1), (u21 0 2), (u21 0 3), (u21 0 4), (u21 1 0), (u21 1 1), (u21 1 2), (u21 1 3), (u21 1 4), (u21 1 5), (u21 1 6), (u21 1 7), (u21 1 8), (u21 1 9), (u21 1 10), (u21 1 11), (u21 1 12), q22, (u23 0 0), q24, (u25 0 0), (u25 0 1), (u25 0 2), (u25 1 0), (u25 1 1), (u25 1 2), (u25 1 3), q14, q13].getD k 0)) KV) (sxF sb)) := hD.subA [0, 5, 6, 7, 8, 9, 10, 11, 12, 13, 14, 15, 16, 17, 4, 18, 19, 20, 21, 3, 22, 23, 32, 24, 25, 26, 27, 28, 29, 30, 31, 33, 34, 35, 36, 37, 38, 39, 40, 41, 42, 43, 44, 45, 46, 47, 48, 49, 50, 51, 52, 53, 54, 55, 56, 57, 58, 59, 60, 61, 62, 63, 64, 65, 66, 67, 1, 2] (by decide) rfl
  subst hsb
  exact W.vret hx hb hr (fun t ht hW => ⟨⟨fun _ => (fun k => [h0, q1, (u2 0 0), (u2 0 1), (u2 0 2), (u2 0 3), q3, (u4 0 1), (u4 0 2), (u4 0 3), q5, (u6 0 1), (u6 0 2), (u6 0 3), q7, q8, (u9 0 0), q10, (u11 0 0), q12, q16, (u17 0 0), (u17 0 1), (u17 1 0), (u17 1 1), (u17 1 2), (u17 1 3), (u17 1 4), (u17 1 5), (u17 1 6), (u17 1 7), q18, (u19 0 0), (u19 0 1), (u19 0 2), (u19 0 3), (u19 0 4), q20, (u21 0 0), (u21 0 1), (u21 0 2), (u21 0 3), (u21 0 4), (u21 1 0), (u21 1 1), (u21 1 2), (u21 1 3), (u21 1 4), (u21 1 5), (u21 1 6), (u21 1 7), (u21 1 8), (u21 1 9), (u21 1 10), (u21 1 11), (u21 1 12), q22, (u23 0 0), q24, (u25 0 0), (u25 0 1), (u25 0 2), (u25 1 0), (u25 1 1), (u25 1 2), (u25 1 3), q14, q13].getD k 0), rfl, trivial, by rw [ht]; exact hPf, va_K.moved hW.alike hK, hDf⟩, hS.F ht⟩) hS.2.2 dX11_init_211
