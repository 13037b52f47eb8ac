section
-- ===== PART A: goes FIRST, ahead of the names: the tables' words, and 'selects' of the private methods out of them =====
/-- a private method of a class that the tables say can be made, by its rows of tables_1 -/
def lw_okq (q : MethodName × Nat) : Prop := (q.1.cls ≠ "java/lang/invoke/MethodHandle" ∧ q.1.cls ≠ "java/lang/invoke/VarHandle") ∧ Cond.instantiable q.1.cls q.2 ∈ tables_1 ∧ Cond.privateMethod q.1 ∈ tables_1 ∧ Cond.instanceMethod q.1 ∈ tables_1
theorem lw_p0 : lw_okq (⟨"EightOars$TextReader", "next", "()V"⟩, 7) := ⟨⟨by decide +kernel, by decide +kernel⟩, List.mem_of_getElem? (i := 113) (by decide +kernel), List.mem_of_getElem? (i := 434) (by decide +kernel), List.mem_of_getElem? (i := 435) (by decide +kernel)⟩
theorem lw_p1 : lw_okq (⟨"EightOars$TextReader", "wordToken", "()I"⟩, 7) := ⟨⟨by decide +kernel, by decide +kernel⟩, List.mem_of_getElem? (i := 113) (by decide +kernel), List.mem_of_getElem? (i := 448) (by decide +kernel), List.mem_of_getElem? (i := 449) (by decide +kernel)⟩
theorem lw_p2 : lw_okq (⟨"EightOars$TextReader", "numberToken", "()I"⟩, 7) := ⟨⟨by decide +kernel, by decide +kernel⟩, List.mem_of_getElem? (i := 113) (by decide +kernel), List.mem_of_getElem? (i := 504) (by decide +kernel), List.mem_of_getElem? (i := 505) (by decide +kernel)⟩
theorem lw_p3 : lw_okq (⟨"EightOars$TextReader", "take", "(I)Z"⟩, 7) := ⟨⟨by decide +kernel, by decide +kernel⟩, List.mem_of_getElem? (i := 113) (by decide +kernel), List.mem_of_getElem? (i := 566) (by decide +kernel), List.mem_of_getElem? (i := 567) (by decide +kernel)⟩
theorem lw_p4 : lw_okq (⟨"EightOars$TextReader", "readEither", "(I)Z"⟩, 7) := ⟨⟨by decide +kernel, by decide +kernel⟩, List.mem_of_getElem? (i := 113) (by decide +kernel), List.mem_of_getElem? (i := 570) (by decide +kernel), List.mem_of_getElem? (i := 571) (by decide +kernel)⟩
theorem lw_p5 : lw_okq (⟨"EightOars$TextReader", "readBoth", "(I)Z"⟩, 7) := ⟨⟨by decide +kernel, by decide +kernel⟩, List.mem_of_getElem? (i := 113) (by decide +kernel), List.mem_of_getElem? (i := 574) (by decide +kernel), List.mem_of_getElem? (i := 575) (by decide +kernel)⟩
theorem lw_p6 : lw_okq (⟨"EightOars$TextReader", "readNot", "(I)Z"⟩, 7) := ⟨⟨by decide +kernel, by decide +kernel⟩, List.mem_of_getElem? (i := 113) (by decide +kernel), List.mem_of_getElem? (i := 578) (by decide +kernel), List.mem_of_getElem? (i := 579) (by decide +kernel)⟩
theorem lw_p7 : lw_okq (⟨"EightOars$TextReader", "put", "(I)V"⟩, 7) := ⟨⟨by decide +kernel, by decide +kernel⟩, List.mem_of_getElem? (i := 113) (by decide +kernel), List.mem_of_getElem? (i := 582) (by decide +kernel), List.mem_of_getElem? (i := 583) (by decide +kernel)⟩
theorem lw_p8 : lw_okq (⟨"EightOars$TextReader", "readSum", "(I)Z"⟩, 7) := ⟨⟨by decide +kernel, by decide +kernel⟩, List.mem_of_getElem? (i := 113) (by decide +kernel), List.mem_of_getElem? (i := 586) (by decide +kernel), List.mem_of_getElem? (i := 587) (by decide +kernel)⟩
theorem lw_p9 : lw_okq (⟨"EightOars$TextReader", "readTerm", "(I)Z"⟩, 7) := ⟨⟨by decide +kernel, by decide +kernel⟩, List.mem_of_getElem? (i := 113) (by decide +kernel), List.mem_of_getElem? (i := 590) (by decide +kernel), List.mem_of_getElem? (i := 591) (by decide +kernel)⟩
theorem lw_p10 : lw_okq (⟨"EightOars$TextReader", "readOne", "(I)Z"⟩, 7) := ⟨⟨by decide +kernel, by decide +kernel⟩, List.mem_of_getElem? (i := 113) (by decide +kernel), List.mem_of_getElem? (i := 594) (by decide +kernel), List.mem_of_getElem? (i := 595) (by decide +kernel)⟩
theorem lw_p11 : lw_okq (⟨"EightOars$Plans", "kindAt", "(I)I"⟩, 4) := ⟨⟨by decide +kernel, by decide +kernel⟩, List.mem_of_getElem? (i := 155) (by decide +kernel), List.mem_of_getElem? (i := 638) (by decide +kernel), List.mem_of_getElem? (i := 639) (by decide +kernel)⟩
theorem lw_p12 : lw_okq (⟨"EightOars$Plans", "append", "(II)V"⟩, 4) := ⟨⟨by decide +kernel, by decide +kernel⟩, List.mem_of_getElem? (i := 155) (by decide +kernel), List.mem_of_getElem? (i := 647) (by decide +kernel), List.mem_of_getElem? (i := 648) (by decide +kernel)⟩
theorem lw_p13 : lw_okq (⟨"EightOars", "rowBy", "(I)V"⟩, 16) := ⟨⟨by decide +kernel, by decide +kernel⟩, List.mem_of_getElem? (i := 24) (by decide +kernel), List.mem_of_getElem? (i := 669) (by decide +kernel), List.mem_of_getElem? (i := 670) (by decide +kernel)⟩
theorem lw_p14 : lw_okq (⟨"EightOars$Course", "waterNow", "()I"⟩, 15) := ⟨⟨by decide +kernel, by decide +kernel⟩, List.mem_of_getElem? (i := 179) (by decide +kernel), List.mem_of_getElem? (i := 691) (by decide +kernel), List.mem_of_getElem? (i := 692) (by decide +kernel)⟩
theorem lw_p15 : lw_okq (⟨"EightOars$Course", "nameAll", "(II)V"⟩, 15) := ⟨⟨by decide +kernel, by decide +kernel⟩, List.mem_of_getElem? (i := 179) (by decide +kernel), List.mem_of_getElem? (i := 695) (by decide +kernel), List.mem_of_getElem? (i := 696) (by decide +kernel)⟩
def lw_privs_1 : List (MethodName × Nat) := [(⟨"EightOars$TextReader", "next", "()V"⟩, 7), (⟨"EightOars$TextReader", "wordToken", "()I"⟩, 7), (⟨"EightOars$TextReader", "numberToken", "()I"⟩, 7), (⟨"EightOars$TextReader", "take", "(I)Z"⟩, 7), (⟨"EightOars$TextReader", "readEither", "(I)Z"⟩, 7), (⟨"EightOars$TextReader", "readBoth", "(I)Z"⟩, 7), (⟨"EightOars$TextReader", "readNot", "(I)Z"⟩, 7), (⟨"EightOars$TextReader", "put", "(I)V"⟩, 7), (⟨"EightOars$TextReader", "readSum", "(I)Z"⟩, 7), (⟨"EightOars$TextReader", "readTerm", "(I)Z"⟩, 7), (⟨"EightOars$TextReader", "readOne", "(I)Z"⟩, 7), (⟨"EightOars$Plans", "kindAt", "(I)I"⟩, 4), (⟨"EightOars$Plans", "append", "(II)V"⟩, 4), (⟨"EightOars", "rowBy", "(I)V"⟩, 16), (⟨"EightOars$Course", "waterNow", "()I"⟩, 15), (⟨"EightOars$Course", "nameAll", "(II)V"⟩, 15)]
theorem lw_r1 : ∀ q ∈ lw_privs_1, lw_okq q := List.forall_mem_cons.mpr ⟨lw_p0, List.forall_mem_cons.mpr ⟨lw_p1, List.forall_mem_cons.mpr ⟨lw_p2, List.forall_mem_cons.mpr ⟨lw_p3, List.forall_mem_cons.mpr ⟨lw_p4, List.forall_mem_cons.mpr ⟨lw_p5, List.forall_mem_cons.mpr ⟨lw_p6, List.forall_mem_cons.mpr ⟨lw_p7, List.forall_mem_cons.mpr ⟨lw_p8, List.forall_mem_cons.mpr ⟨lw_p9, List.forall_mem_cons.mpr ⟨lw_p10, List.forall_mem_cons.mpr ⟨lw_p11, List.forall_mem_cons.mpr ⟨lw_p12, List.forall_mem_cons.mpr ⟨lw_p13, List.forall_mem_cons.mpr ⟨lw_p14, List.forall_mem_cons.mpr ⟨lw_p15, fun _ h => absurd h List.not_mem_nil⟩⟩⟩⟩⟩⟩⟩⟩⟩⟩⟩⟩⟩⟩⟩⟩
theorem lw_p16 : lw_okq (⟨"EightOars$Course", "driveOf", "(III)I"⟩, 15) := ⟨⟨by decide +kernel, by decide +kernel⟩, List.mem_of_getElem? (i := 179) (by decide +kernel), List.mem_of_getElem? (i := 711) (by decide +kernel), List.mem_of_getElem? (i := 712) (by decide +kernel)⟩
theorem lw_p17 : lw_okq (⟨"EightOars", "wayIfChanged", "(III)J"⟩, 16) := ⟨⟨by decide +kernel, by decide +kernel⟩, List.mem_of_getElem? (i := 24) (by decide +kernel), List.mem_of_getElem? (i := 731) (by decide +kernel), List.mem_of_getElem? (i := 732) (by decide +kernel)⟩
theorem lw_p18 : lw_okq (⟨"EightOars$Trials", "keepOne", "([II)Z"⟩, 8) := ⟨⟨by decide +kernel, by decide +kernel⟩, List.mem_of_getElem? (i := 237) (by decide +kernel), List.mem_of_getElem? (i := 803) (by decide +kernel), List.mem_of_getElem? (i := 804) (by decide +kernel)⟩
theorem lw_p19 : lw_okq (⟨"EightOars$Trials", "seek", "(III)V"⟩, 8) := ⟨⟨by decide +kernel, by decide +kernel⟩, List.mem_of_getElem? (i := 237) (by decide +kernel), List.mem_of_getElem? (i := 826) (by decide +kernel), List.mem_of_getElem? (i := 827) (by decide +kernel)⟩
theorem lw_p20 : lw_okq (⟨"EightOars$Trials", "takeOver", "(I)V"⟩, 8) := ⟨⟨by decide +kernel, by decide +kernel⟩, List.mem_of_getElem? (i := 237) (by decide +kernel), List.mem_of_getElem? (i := 831) (by decide +kernel), List.mem_of_getElem? (i := 832) (by decide +kernel)⟩
theorem lw_p21 : lw_okq (⟨"EightOars$Regatta", "met", "(III)Z"⟩, 2) := ⟨⟨by decide +kernel, by decide +kernel⟩, List.mem_of_getElem? (i := 270) (by decide +kernel), List.mem_of_getElem? (i := 864) (by decide +kernel), List.mem_of_getElem? (i := 865) (by decide +kernel)⟩
theorem lw_p22 : lw_okq (⟨"EightOars$Regatta", "timeOf", "(II)I"⟩, 2) := ⟨⟨by decide +kernel, by decide +kernel⟩, List.mem_of_getElem? (i := 270) (by decide +kernel), List.mem_of_getElem? (i := 868) (by decide +kernel), List.mem_of_getElem? (i := 869) (by decide +kernel)⟩
theorem lw_p23 : lw_okq (⟨"EightOars$Regatta", "isFirst", "(II)Z"⟩, 2) := ⟨⟨by decide +kernel, by decide +kernel⟩, List.mem_of_getElem? (i := 270) (by decide +kernel), List.mem_of_getElem? (i := 890) (by decide +kernel), List.mem_of_getElem? (i := 891) (by decide +kernel)⟩
theorem lw_p24 : lw_okq (⟨"EightOarsModel", "spell", "(IJ)V"⟩, 63) := ⟨⟨by decide +kernel, by decide +kernel⟩, List.mem_of_getElem? (i := 956) (by decide +kernel), List.mem_of_getElem? (i := 963) (by decide +kernel), List.mem_of_getElem? (i := 964) (by decide +kernel)⟩
theorem lw_p25 : lw_okq (⟨"EightOarsModel", "isRower", "(I)Z"⟩, 63) := ⟨⟨by decide +kernel, by decide +kernel⟩, List.mem_of_getElem? (i := 956) (by decide +kernel), List.mem_of_getElem? (i := 1178) (by decide +kernel), List.mem_of_getElem? (i := 1179) (by decide +kernel)⟩
theorem lw_p26 : lw_okq (⟨"EightOarsModel", "seatOf", "(I)I"⟩, 63) := ⟨⟨by decide +kernel, by decide +kernel⟩, List.mem_of_getElem? (i := 956) (by decide +kernel), List.mem_of_getElem? (i := 1182) (by decide +kernel), List.mem_of_getElem? (i := 1183) (by decide +kernel)⟩
theorem lw_p27 : lw_okq (⟨"EightOarsModel", "read", "(IIIIII)I"⟩, 63) := ⟨⟨by decide +kernel, by decide +kernel⟩, List.mem_of_getElem? (i := 956) (by decide +kernel), List.mem_of_getElem? (i := 1229) (by decide +kernel), List.mem_of_getElem? (i := 1230) (by decide +kernel)⟩
theorem lw_p28 : lw_okq (⟨"EightOarsModel", "next", "()V"⟩, 63) := ⟨⟨by decide +kernel, by decide +kernel⟩, List.mem_of_getElem? (i := 956) (by decide +kernel), List.mem_of_getElem? (i := 1233) (by decide +kernel), List.mem_of_getElem? (i := 1234) (by decide +kernel)⟩
theorem lw_p29 : lw_okq (⟨"EightOarsModel", "byteAt", "(I)I"⟩, 63) := ⟨⟨by decide +kernel, by decide +kernel⟩, List.mem_of_getElem? (i := 956) (by decide +kernel), List.mem_of_getElem? (i := 1237) (by decide +kernel), List.mem_of_getElem? (i := 1238) (by decide +kernel)⟩
theorem lw_p30 : lw_okq (⟨"EightOarsModel", "part", "(J)I"⟩, 63) := ⟨⟨by decide +kernel, by decide +kernel⟩, List.mem_of_getElem? (i := 956) (by decide +kernel), List.mem_of_getElem? (i := 1250) (by decide +kernel), List.mem_of_getElem? (i := 1251) (by decide +kernel)⟩
theorem lw_p31 : lw_okq (⟨"EightOarsModel", "isWord", "(J)Z"⟩, 63) := ⟨⟨by decide +kernel, by decide +kernel⟩, List.mem_of_getElem? (i := 956) (by decide +kernel), List.mem_of_getElem? (i := 1254) (by decide +kernel), List.mem_of_getElem? (i := 1255) (by decide +kernel)⟩
def lw_privs_2 : List (MethodName × Nat) := [(⟨"EightOars$Course", "driveOf", "(III)I"⟩, 15), (⟨"EightOars", "wayIfChanged", "(III)J"⟩, 16), (⟨"EightOars$Trials", "keepOne", "([II)Z"⟩, 8), (⟨"EightOars$Trials", "seek", "(III)V"⟩, 8), (⟨"EightOars$Trials", "takeOver", "(I)V"⟩, 8), (⟨"EightOars$Regatta", "met", "(III)Z"⟩, 2), (⟨"EightOars$Regatta", "timeOf", "(II)I"⟩, 2), (⟨"EightOars$Regatta", "isFirst", "(II)Z"⟩, 2), (⟨"EightOarsModel", "spell", "(IJ)V"⟩, 63), (⟨"EightOarsModel", "isRower", "(I)Z"⟩, 63), (⟨"EightOarsModel", "seatOf", "(I)I"⟩, 63), (⟨"EightOarsModel", "read", "(IIIIII)I"⟩, 63), (⟨"EightOarsModel", "next", "()V"⟩, 63), (⟨"EightOarsModel", "byteAt", "(I)I"⟩, 63), (⟨"EightOarsModel", "part", "(J)I"⟩, 63), (⟨"EightOarsModel", "isWord", "(J)Z"⟩, 63)]
theorem lw_r2 : ∀ q ∈ lw_privs_2, lw_okq q := List.forall_mem_cons.mpr ⟨lw_p16, List.forall_mem_cons.mpr ⟨lw_p17, List.forall_mem_cons.mpr ⟨lw_p18, List.forall_mem_cons.mpr ⟨lw_p19, List.forall_mem_cons.mpr ⟨lw_p20, List.forall_mem_cons.mpr ⟨lw_p21, List.forall_mem_cons.mpr ⟨lw_p22, List.forall_mem_cons.mpr ⟨lw_p23, List.forall_mem_cons.mpr ⟨lw_p24, List.forall_mem_cons.mpr ⟨lw_p25, List.forall_mem_cons.mpr ⟨lw_p26, List.forall_mem_cons.mpr ⟨lw_p27, List.forall_mem_cons.mpr ⟨lw_p28, List.forall_mem_cons.mpr ⟨lw_p29, List.forall_mem_cons.mpr ⟨lw_p30, List.forall_mem_cons.mpr ⟨lw_p31, fun _ h => absurd h List.not_mem_nil⟩⟩⟩⟩⟩⟩⟩⟩⟩⟩⟩⟩⟩⟩⟩⟩
theorem lw_p32 : lw_okq (⟨"EightOarsModel", "fail", "()V"⟩, 63) := ⟨⟨by decide +kernel, by decide +kernel⟩, List.mem_of_getElem? (i := 956) (by decide +kernel), List.mem_of_getElem? (i := 1258) (by decide +kernel), List.mem_of_getElem? (i := 1259) (by decide +kernel)⟩
theorem lw_p33 : lw_okq (⟨"EightOarsModel", "either", "()I"⟩, 63) := ⟨⟨by decide +kernel, by decide +kernel⟩, List.mem_of_getElem? (i := 956) (by decide +kernel), List.mem_of_getElem? (i := 1262) (by decide +kernel), List.mem_of_getElem? (i := 1263) (by decide +kernel)⟩
theorem lw_p34 : lw_okq (⟨"EightOarsModel", "both", "()I"⟩, 63) := ⟨⟨by decide +kernel, by decide +kernel⟩, List.mem_of_getElem? (i := 956) (by decide +kernel), List.mem_of_getElem? (i := 1266) (by decide +kernel), List.mem_of_getElem? (i := 1267) (by decide +kernel)⟩
theorem lw_p35 : lw_okq (⟨"EightOarsModel", "not", "()I"⟩, 63) := ⟨⟨by decide +kernel, by decide +kernel⟩, List.mem_of_getElem? (i := 956) (by decide +kernel), List.mem_of_getElem? (i := 1270) (by decide +kernel), List.mem_of_getElem? (i := 1271) (by decide +kernel)⟩
theorem lw_p36 : lw_okq (⟨"EightOarsModel", "opens", "()Z"⟩, 63) := ⟨⟨by decide +kernel, by decide +kernel⟩, List.mem_of_getElem? (i := 956) (by decide +kernel), List.mem_of_getElem? (i := 1275) (by decide +kernel), List.mem_of_getElem? (i := 1276) (by decide +kernel)⟩
theorem lw_p37 : lw_okq (⟨"EightOarsModel", "added", "()I"⟩, 63) := ⟨⟨by decide +kernel, by decide +kernel⟩, List.mem_of_getElem? (i := 956) (by decide +kernel), List.mem_of_getElem? (i := 1279) (by decide +kernel), List.mem_of_getElem? (i := 1280) (by decide +kernel)⟩
theorem lw_p38 : lw_okq (⟨"EightOarsModel", "term", "()I"⟩, 63) := ⟨⟨by decide +kernel, by decide +kernel⟩, List.mem_of_getElem? (i := 956) (by decide +kernel), List.mem_of_getElem? (i := 1283) (by decide +kernel), List.mem_of_getElem? (i := 1284) (by decide +kernel)⟩
theorem lw_p39 : lw_okq (⟨"EightOarsModel", "one", "()I"⟩, 63) := ⟨⟨by decide +kernel, by decide +kernel⟩, List.mem_of_getElem? (i := 956) (by decide +kernel), List.mem_of_getElem? (i := 1287) (by decide +kernel), List.mem_of_getElem? (i := 1288) (by decide +kernel)⟩
theorem lw_p40 : lw_okq (⟨"EightOarsModel", "isSign", "(I)Z"⟩, 63) := ⟨⟨by decide +kernel, by decide +kernel⟩, List.mem_of_getElem? (i := 956) (by decide +kernel), List.mem_of_getElem? (i := 1291) (by decide +kernel), List.mem_of_getElem? (i := 1292) (by decide +kernel)⟩
theorem lw_p41 : lw_okq (⟨"EightOarsModel", "name", "()I"⟩, 63) := ⟨⟨by decide +kernel, by decide +kernel⟩, List.mem_of_getElem? (i := 956) (by decide +kernel), List.mem_of_getElem? (i := 1295) (by decide +kernel), List.mem_of_getElem? (i := 1296) (by decide +kernel)⟩
theorem lw_p42 : lw_okq (⟨"EightOarsModel", "byteHere", "(I)I"⟩, 63) := ⟨⟨by decide +kernel, by decide +kernel⟩, List.mem_of_getElem? (i := 956) (by decide +kernel), List.mem_of_getElem? (i := 1318) (by decide +kernel), List.mem_of_getElem? (i := 1319) (by decide +kernel)⟩
theorem lw_p43 : lw_okq (⟨"EightOarsModel", "isPlan", "(I)Z"⟩, 63) := ⟨⟨by decide +kernel, by decide +kernel⟩, List.mem_of_getElem? (i := 956) (by decide +kernel), List.mem_of_getElem? (i := 1332) (by decide +kernel), List.mem_of_getElem? (i := 1333) (by decide +kernel)⟩
theorem lw_p44 : lw_okq (⟨"EightOarsModel", "goes", "(I)V"⟩, 63) := ⟨⟨by decide +kernel, by decide +kernel⟩, List.mem_of_getElem? (i := 956) (by decide +kernel), List.mem_of_getElem? (i := 1342) (by decide +kernel), List.mem_of_getElem? (i := 1343) (by decide +kernel)⟩
theorem lw_p45 : lw_okq (⟨"EightOarsModel", "begins", "()V"⟩, 63) := ⟨⟨by decide +kernel, by decide +kernel⟩, List.mem_of_getElem? (i := 956) (by decide +kernel), List.mem_of_getElem? (i := 1346) (by decide +kernel), List.mem_of_getElem? (i := 1347) (by decide +kernel)⟩
theorem lw_p46 : lw_okq (⟨"EightOarsModel", "strokes", "(I)V"⟩, 63) := ⟨⟨by decide +kernel, by decide +kernel⟩, List.mem_of_getElem? (i := 956) (by decide +kernel), List.mem_of_getElem? (i := 1350) (by decide +kernel), List.mem_of_getElem? (i := 1351) (by decide +kernel)⟩
theorem lw_p47 : lw_okq (⟨"EightOarsModel", "givesOf", "(I)I"⟩, 63) := ⟨⟨by decide +kernel, by decide +kernel⟩, List.mem_of_getElem? (i := 956) (by decide +kernel), List.mem_of_getElem? (i := 1359) (by decide +kernel), List.mem_of_getElem? (i := 1360) (by decide +kernel)⟩
def lw_privs_3 : List (MethodName × Nat) := [(⟨"EightOarsModel", "fail", "()V"⟩, 63), (⟨"EightOarsModel", "either", "()I"⟩, 63), (⟨"EightOarsModel", "both", "()I"⟩, 63), (⟨"EightOarsModel", "not", "()I"⟩, 63), (⟨"EightOarsModel", "opens", "()Z"⟩, 63), (⟨"EightOarsModel", "added", "()I"⟩, 63), (⟨"EightOarsModel", "term", "()I"⟩, 63), (⟨"EightOarsModel", "one", "()I"⟩, 63), (⟨"EightOarsModel", "isSign", "(I)Z"⟩, 63), (⟨"EightOarsModel", "name", "()I"⟩, 63), (⟨"EightOarsModel", "byteHere", "(I)I"⟩, 63), (⟨"EightOarsModel", "isPlan", "(I)Z"⟩, 63), (⟨"EightOarsModel", "goes", "(I)V"⟩, 63), (⟨"EightOarsModel", "begins", "()V"⟩, 63), (⟨"EightOarsModel", "strokes", "(I)V"⟩, 63), (⟨"EightOarsModel", "givesOf", "(I)I"⟩, 63)]
theorem lw_r3 : ∀ q ∈ lw_privs_3, lw_okq q := List.forall_mem_cons.mpr ⟨lw_p32, List.forall_mem_cons.mpr ⟨lw_p33, List.forall_mem_cons.mpr ⟨lw_p34, List.forall_mem_cons.mpr ⟨lw_p35, List.forall_mem_cons.mpr ⟨lw_p36, List.forall_mem_cons.mpr ⟨lw_p37, List.forall_mem_cons.mpr ⟨lw_p38, List.forall_mem_cons.mpr ⟨lw_p39, List.forall_mem_cons.mpr ⟨lw_p40, List.forall_mem_cons.mpr ⟨lw_p41, List.forall_mem_cons.mpr ⟨lw_p42, List.forall_mem_cons.mpr ⟨lw_p43, List.forall_mem_cons.mpr ⟨lw_p44, List.forall_mem_cons.mpr ⟨lw_p45, List.forall_mem_cons.mpr ⟨lw_p46, List.forall_mem_cons.mpr ⟨lw_p47, fun _ h => absurd h List.not_mem_nil⟩⟩⟩⟩⟩⟩⟩⟩⟩⟩⟩⟩⟩⟩⟩⟩
theorem lw_p48 : lw_okq (⟨"EightOarsModel", "allWeights", "()I"⟩, 63) := ⟨⟨by decide +kernel, by decide +kernel⟩, List.mem_of_getElem? (i := 956) (by decide +kernel), List.mem_of_getElem? (i := 1363) (by decide +kernel), List.mem_of_getElem? (i := 1364) (by decide +kernel)⟩
theorem lw_p49 : lw_okq (⟨"EightOarsModel", "moreOf", "(IIIJ)J"⟩, 63) := ⟨⟨by decide +kernel, by decide +kernel⟩, List.mem_of_getElem? (i := 956) (by decide +kernel), List.mem_of_getElem? (i := 1380) (by decide +kernel), List.mem_of_getElem? (i := 1381) (by decide +kernel)⟩
theorem lw_p50 : lw_okq (⟨"EightOarsModel", "changes", "(II)V"⟩, 63) := ⟨⟨by decide +kernel, by decide +kernel⟩, List.mem_of_getElem? (i := 956) (by decide +kernel), List.mem_of_getElem? (i := 1384) (by decide +kernel), List.mem_of_getElem? (i := 1385) (by decide +kernel)⟩
theorem lw_p51 : lw_okq (⟨"EightOarsModel", "wagsBy", "(I)J"⟩, 63) := ⟨⟨by decide +kernel, by decide +kernel⟩, List.mem_of_getElem? (i := 956) (by decide +kernel), List.mem_of_getElem? (i := 1396) (by decide +kernel), List.mem_of_getElem? (i := 1397) (by decide +kernel)⟩
theorem lw_p52 : lw_okq (⟨"EightOarsModel", "quarrels", "(I)Z"⟩, 63) := ⟨⟨by decide +kernel, by decide +kernel⟩, List.mem_of_getElem? (i := 956) (by decide +kernel), List.mem_of_getElem? (i := 1416) (by decide +kernel), List.mem_of_getElem? (i := 1417) (by decide +kernel)⟩
theorem lw_p53 : lw_okq (⟨"EightOarsModel", "bounds", "(IIJ)V"⟩, 63) := ⟨⟨by decide +kernel, by decide +kernel⟩, List.mem_of_getElem? (i := 956) (by decide +kernel), List.mem_of_getElem? (i := 1421) (by decide +kernel), List.mem_of_getElem? (i := 1422) (by decide +kernel)⟩
theorem lw_p54 : lw_okq (⟨"EightOarsModel", "isFirst", "(II)Z"⟩, 63) := ⟨⟨by decide +kernel, by decide +kernel⟩, List.mem_of_getElem? (i := 956) (by decide +kernel), List.mem_of_getElem? (i := 1452) (by decide +kernel), List.mem_of_getElem? (i := 1453) (by decide +kernel)⟩
theorem lw_p55 : lw_okq (⟨"EightOarsModel", "sitting", "()I"⟩, 63) := ⟨⟨by decide +kernel, by decide +kernel⟩, List.mem_of_getElem? (i := 956) (by decide +kernel), List.mem_of_getElem? (i := 1460) (by decide +kernel), List.mem_of_getElem? (i := 1461) (by decide +kernel)⟩
def lw_privs_4 : List (MethodName × Nat) := [(⟨"EightOarsModel", "allWeights", "()I"⟩, 63), (⟨"EightOarsModel", "moreOf", "(IIIJ)J"⟩, 63), (⟨"EightOarsModel", "changes", "(II)V"⟩, 63), (⟨"EightOarsModel", "wagsBy", "(I)J"⟩, 63), (⟨"EightOarsModel", "quarrels", "(I)Z"⟩, 63), (⟨"EightOarsModel", "bounds", "(IIJ)V"⟩, 63), (⟨"EightOarsModel", "isFirst", "(II)Z"⟩, 63), (⟨"EightOarsModel", "sitting", "()I"⟩, 63)]
theorem lw_r4 : ∀ q ∈ lw_privs_4, lw_okq q := List.forall_mem_cons.mpr ⟨lw_p48, List.forall_mem_cons.mpr ⟨lw_p49, List.forall_mem_cons.mpr ⟨lw_p50, List.forall_mem_cons.mpr ⟨lw_p51, List.forall_mem_cons.mpr ⟨lw_p52, List.forall_mem_cons.mpr ⟨lw_p53, List.forall_mem_cons.mpr ⟨lw_p54, List.forall_mem_cons.mpr ⟨lw_p55, fun _ h => absurd h List.not_mem_nil⟩⟩⟩⟩⟩⟩⟩⟩
def lw_privs : List (MethodName × Nat) := lw_privs_1 ++ (lw_privs_2 ++ (lw_privs_3 ++ (lw_privs_4)))
def lw_tbl : List Cond := k2_sels lw_privs ++ tables_1
theorem lw_privs_ok : ∀ q ∈ lw_privs, lw_okq q := by
  show ∀ q ∈ lw_privs_1 ++ (lw_privs_2 ++ (lw_privs_3 ++ (lw_privs_4))), lw_okq q
  exact List.forall_mem_append.mpr ⟨lw_r1, List.forall_mem_append.mpr ⟨lw_r2, List.forall_mem_append.mpr ⟨lw_r3, lw_r4⟩⟩⟩
-- ===== end of PART A; then your names; then what follows =====
/-- the good words of the tables: every method's contract takes all of them -/
def gw : List Cond := lw_tbl.filter goodWord
theorem gw_in {w : Cond} (h : w ∈ lw_tbl) (g : goodWord w = true) : w ∈ gw := List.mem_filter.mpr ⟨h, g⟩
theorem gw_good {w : Cond} (h : w ∈ gw) : goodWord w = true := (List.mem_filter.mp h).2
theorem gw_sub {w : Cond} (h : w ∈ gw) : w ∈ lw_tbl := (List.mem_filter.mp h).1
theorem gw_t1 (i : Nat) {w : Cond} (h : tables_1_1[i]? = some w) (g : goodWord w = true) : w ∈ gw := gw_in (List.mem_append_right _ (List.mem_append_left _ (List.mem_of_getElem? h))) g
theorem gw_t2 (i : Nat) {w : Cond} (h : tables_1_2[i]? = some w) (g : goodWord w = true) : w ∈ gw := gw_in (List.mem_append_right _ (List.mem_append_right _ (List.mem_append_left _ (List.mem_of_getElem? h)))) g
theorem gw_t3 (i : Nat) {w : Cond} (h : tables_1_3[i]? = some w) (g : goodWord w = true) : w ∈ gw := gw_in (List.mem_append_right _ (List.mem_append_right _ (List.mem_append_right _ (List.mem_append_left _ (List.mem_of_getElem? h))))) g
theorem gw_t4 (i : Nat) {w : Cond} (h : tables_1_4[i]? = some w) (g : goodWord w = true) : w ∈ gw := gw_in (List.mem_append_right _ (List.mem_append_right _ (List.mem_append_right _ (List.mem_append_right _ (List.mem_append_left _ (List.mem_of_getElem? h)))))) g
theorem gw_t5 (i : Nat) {w : Cond} (h : tables_1_5[i]? = some w) (g : goodWord w = true) : w ∈ gw := gw_in (List.mem_append_right _ (List.mem_append_right _ (List.mem_append_right _ (List.mem_append_right _ (List.mem_append_right _ (List.mem_append_left _ (List.mem_of_getElem? h))))))) g
theorem gw_t6 (i : Nat) {w : Cond} (h : tables_1_6[i]? = some w) (g : goodWord w = true) : w ∈ gw := gw_in (List.mem_append_right _ (List.mem_append_right _ (List.mem_append_right _ (List.mem_append_right _ (List.mem_append_right _ (List.mem_append_right _ (List.mem_append_left _ (List.mem_of_getElem? h)))))))) g
theorem gw_t7 (i : Nat) {w : Cond} (h : tables_1_7[i]? = some w) (g : goodWord w = true) : w ∈ gw := gw_in (List.mem_append_right _ (List.mem_append_right _ (List.mem_append_right _ (List.mem_append_right _ (List.mem_append_right _ (List.mem_append_right _ (List.mem_append_right _ (List.mem_of_getElem? h)))))))) g
theorem gw_s (i : Nat) {q : MethodName × Nat} (h : lw_privs[i]? = some q) : Cond.selects q.1.cls q.1 q.1 ∈ gw := gw_in (List.mem_append_left _ (List.mem_map.mpr ⟨q, List.mem_of_getElem? h, rfl⟩)) rfl
theorem gw_all {a : Cond} : GoodIn (a :: gw) gw := fun w h => ⟨List.mem_cons_of_mem _ h, good_of_word (gw_good h)⟩
end
section
def RX0 : String := "EightOars$Boat"
def TX0 : u_T := fun k => match k with
  | 0 => ("EightOars$Boat", "seats", "[I", true)
  | 1 => ("EightOars$Boat", "sides", "[I", true)
  | 2 => ("EightOars$Boat", "gears", "[I", true)
  | 3 => ("EightOars$Boat", "drag", "I", false)
  | _ => ("EightOars$Boat", "wind", "I", false)
def tyX0 : Nat → FieldType := fun k => match k with
  | 0 => .array .int
  | 1 => .array .int
  | 2 => .array .int
  | 3 => .int
  | _ => .int
abbrev wsX00 : List Cond := u_ws RX0 TX0 5
theorem nmX0 : ∀ a, a < 5 → ∀ b, b < 5 → a ≠ b → (TX0 a).2.1 ≠ (TX0 b).2.1 := by decide +kernel
theorem tyX0_ok : ∀ k, k < 5 → parseFieldDescriptor (TX0 k).2.2.1 = some (tyX0 k) := by decide +kernel
abbrev cX0_init : ByteArray := prog_2_method_1_code
def yX0_init : MethodName := ⟨RX0, "<init>", "()V"⟩
abbrev cX0_become : ByteArray := prog_2_method_2_code
def yX0_become : MethodName := ⟨RX0, "become", "(LEightOars$Boat;)V"⟩
abbrev cX0_seatOf : ByteArray := prog_2_method_3_code
def yX0_seatOf : MethodName := ⟨RX0, "seatOf", "(I)I"⟩
abbrev cX0_place : ByteArray := prog_2_method_4_code
def yX0_place : MethodName := ⟨RX0, "place", "(II)I"⟩
abbrev cX0_sitters : ByteArray := prog_2_method_5_code
def yX0_sitters : MethodName := ⟨RX0, "sitters", "()I"⟩
abbrev cX0_weightOf : ByteArray := prog_2_method_6_code
def yX0_weightOf : MethodName := ⟨RX0, "weightOf", "(LEightOars$Crew;)I"⟩
def RX1 : String := "EightOars$Course"
def TX1 : u_T := fun k => match k with
  | 0 => ("EightOars$Course", "crew", "LEightOars$Crew;", true)
  | 1 => ("EightOars$Course", "boat", "LEightOars$Boat;", true)
  | 2 => ("EightOars$Course", "rule", "LEightOars$Rule;", false)
  | 3 => ("EightOars$Course", "seats", "[I", true)
  | 4 => ("EightOars$Course", "drives", "[I", true)
  | 5 => ("EightOars$Course", "names", "[I", true)
  | 6 => ("EightOars$Course", "stack", "[I", true)
  | 7 => ("EightOars$Course", "weight", "I", false)
  | 8 => ("EightOars$Course", "done", "I", false)
  | 9 => ("EightOars$Course", "stores", "[I", true)
  | 10 => ("EightOars$Course", "speed", "I", false)
  | 11 => ("EightOars$Course", "way", "J", false)
  | 12 => ("EightOars$Course", "turn", "J", false)
  | 13 => ("EightOars$Course", "lost", "J", false)
  | _ => ("EightOars$Course", "slipped", "J", false)
def tyX1 : Nat → FieldType := fun k => match k with
  | 0 => .object "EightOars$Crew"
  | 1 => .object "EightOars$Boat"
  | 2 => .object "EightOars$Rule"
  | 3 => .array .int
  | 4 => .array .int
  | 5 => .array .int
  | 6 => .array .int
  | 7 => .int
  | 8 => .int
  | 9 => .array .int
  | 10 => .int
  | 11 => .long
  | 12 => .long
  | 13 => .long
  | _ => .long
abbrev wsX10 : List Cond := u_ws RX1 TX1 15
theorem nmX1 : ∀ a, a < 15 → ∀ b, b < 15 → a ≠ b → (TX1 a).2.1 ≠ (TX1 b).2.1 := by decide +kernel
theorem tyX1_ok : ∀ k, k < 15 → parseFieldDescriptor (TX1 k).2.2.1 = some (tyX1 k) := by decide +kernel
abbrev cX1_init : ByteArray := prog_3_method_1_code
def yX1_init : MethodName := ⟨RX1, "<init>", "(LEightOars$Crew;LEightOars$Boat;)V"⟩
abbrev cX1_begin : ByteArray := prog_3_method_2_code
def yX1_begin : MethodName := ⟨RX1, "begin", "(LEightOars$Rule;)V"⟩
abbrev cX1_changeSeats : ByteArray := prog_3_method_3_code
def yX1_changeSeats : MethodName := ⟨RX1, "changeSeats", "(II)V"⟩
abbrev cX1_pullAll : ByteArray := prog_3_method_4_code
def yX1_pullAll : MethodName := ⟨RX1, "pullAll", "([II)V"⟩
abbrev cX1_pullMany : ByteArray := prog_3_method_5_code
def yX1_pullMany : MethodName := ⟨RX1, "pullMany", "(II)V"⟩
abbrev cX1_pullOnce : ByteArray := prog_3_method_6_code
def yX1_pullOnce : MethodName := ⟨RX1, "pullOnce", "(I)V"⟩
abbrev cX1_wagsBy : ByteArray := prog_3_method_7_code
def yX1_wagsBy : MethodName := ⟨RX1, "wagsBy", "(I)J"⟩
abbrev cX1_waterNow : ByteArray := prog_3_method_8_code
def yX1_waterNow : MethodName := ⟨RX1, "waterNow", "()I"⟩
abbrev cX1_driveOf : ByteArray := prog_3_method_9_code
def yX1_driveOf : MethodName := ⟨RX1, "driveOf", "(III)I"⟩
abbrev cX1_nameAll : ByteArray := prog_3_method_10_code
def yX1_nameAll : MethodName := ⟨RX1, "nameAll", "(II)V"⟩
def RX2 : String := "EightOars$Crew"
def TX2 : u_T := fun k => match k with
  | 0 => ("EightOars$Crew", "weights", "[I", true)
  | 1 => ("EightOars$Crew", "forces", "[I", true)
  | 2 => ("EightOars$Crew", "stores", "[I", true)
  | 3 => ("EightOars$Crew", "fills", "[I", true)
  | _ => ("EightOars$Crew", "size", "I", false)
def tyX2 : Nat → FieldType := fun k => match k with
  | 0 => .array .int
  | 1 => .array .int
  | 2 => .array .int
  | 3 => .array .int
  | _ => .int
abbrev wsX20 : List Cond := u_ws RX2 TX2 5
theorem nmX2 : ∀ a, a < 5 → ∀ b, b < 5 → a ≠ b → (TX2 a).2.1 ≠ (TX2 b).2.1 := by decide +kernel
theorem tyX2_ok : ∀ k, k < 5 → parseFieldDescriptor (TX2 k).2.2.1 = some (tyX2 k) := by decide +kernel
abbrev cX2_init : ByteArray := prog_4_method_1_code
def yX2_init : MethodName := ⟨RX2, "<init>", "()V"⟩
abbrev cX2_has : ByteArray := prog_4_method_2_code
def yX2_has : MethodName := ⟨RX2, "has", "(I)Z"⟩
abbrev cX2_add : ByteArray := prog_4_method_3_code
def yX2_add : MethodName := ⟨RX2, "add", "(IIII)I"⟩
def RX3 : String := "EightOars$Kinds"
def TX3 : u_T := fun k => match k with
  | _ => ("", "", "", false)
def tyX3 : Nat → FieldType := fun k => match k with
  | _ => .int
abbrev wsX30 : List Cond := u_ws RX3 TX3 0
theorem nmX3 : ∀ a, a < 0 → ∀ b, b < 0 → a ≠ b → (TX3 a).2.1 ≠ (TX3 b).2.1 := by decide +kernel
theorem tyX3_ok : ∀ k, k < 0 → parseFieldDescriptor (TX3 k).2.2.1 = some (tyX3 k) := by decide +kernel
abbrev cX3_has : ByteArray := prog_5_method_2_code
def yX3_has : MethodName := ⟨RX3, "has", "(I)Z"⟩
abbrev cX3_pull : ByteArray := prog_5_method_3_code
def yX3_pull : MethodName := ⟨RX3, "pull", "(III)I"⟩
abbrev cX3_latePull : ByteArray := prog_5_method_4_code
def yX3_latePull : MethodName := ⟨RX3, "latePull", "(II)I"⟩
abbrev cX3_cost : ByteArray := prog_5_method_5_code
def yX3_cost : MethodName := ⟨RX3, "cost", "(II)I"⟩
abbrev cX3_slips : ByteArray := prog_5_method_6_code
def yX3_slips : MethodName := ⟨RX3, "slips", "(I)I"⟩
abbrev cX3_isUnder : ByteArray := prog_5_method_7_code
def yX3_isUnder : MethodName := ⟨RX3, "isUnder", "(II)Z"⟩
def RX4 : String := "EightOars$Plans"
def TX4 : u_T := fun k => match k with
  | 0 => ("EightOars$Plans", "tape", "LEightOars$Tape;", true)
  | 1 => ("EightOars$Plans", "kinds", "[[I", true)
  | 2 => ("EightOars$Plans", "sizes", "[I", true)
  | _ => ("EightOars$Plans", "size", "I", false)
def tyX4 : Nat → FieldType := fun k => match k with
  | 0 => .object "EightOars$Tape"
  | 1 => .array (.array .int)
  | 2 => .array .int
  | _ => .int
abbrev wsX40 : List Cond := u_ws RX4 TX4 4
theorem nmX4 : ∀ a, a < 4 → ∀ b, b < 4 → a ≠ b → (TX4 a).2.1 ≠ (TX4 b).2.1 := by decide +kernel
theorem tyX4_ok : ∀ k, k < 4 → parseFieldDescriptor (TX4 k).2.2.1 = some (tyX4 k) := by decide +kernel
abbrev cX4_init : ByteArray := prog_6_method_1_code
def yX4_init : MethodName := ⟨RX4, "<init>", "(LEightOars$Tape;)V"⟩
abbrev cX4_has : ByteArray := prog_6_method_2_code
def yX4_has : MethodName := ⟨RX4, "has", "(I)Z"⟩
abbrev cX4_isFull : ByteArray := prog_6_method_3_code
def yX4_isFull : MethodName := ⟨RX4, "isFull", "()Z"⟩
abbrev cX4_kindOf : ByteArray := prog_6_method_4_code
def yX4_kindOf : MethodName := ⟨RX4, "kindOf", "(II)I"⟩
abbrev cX4_read : ByteArray := prog_6_method_5_code
def yX4_read : MethodName := ⟨RX4, "read", "()I"⟩
abbrev cX4_append : ByteArray := prog_6_method_6_code
def yX4_append : MethodName := ⟨RX4, "append", "(II)V"⟩
abbrev cX4_kindAt : ByteArray := prog_6_method_7_code
def yX4_kindAt : MethodName := ⟨RX4, "kindAt", "(I)I"⟩
def RX5 : String := "EightOars$Regatta"
def TX5 : u_T := fun k => match k with
  | 0 => ("EightOars$Regatta", "times", "[I", true)
  | _ => ("EightOars$Regatta", "size", "I", false)
def tyX5 : Nat → FieldType := fun k => match k with
  | 0 => .array .int
  | _ => .int
abbrev wsX50 : List Cond := u_ws RX5 TX5 2
theorem nmX5 : ∀ a, a < 2 → ∀ b, b < 2 → a ≠ b → (TX5 a).2.1 ≠ (TX5 b).2.1 := by decide +kernel
theorem tyX5_ok : ∀ k, k < 2 → parseFieldDescriptor (TX5 k).2.2.1 = some (tyX5 k) := by decide +kernel
abbrev cX5_init : ByteArray := prog_7_method_1_code
def yX5_init : MethodName := ⟨RX5, "<init>", "()V"⟩
abbrev cX5_isLane : ByteArray := prog_7_method_2_code
def yX5_isLane : MethodName := ⟨RX5, "isLane", "(I)Z"⟩
abbrev cX5_add : ByteArray := prog_7_method_3_code
def yX5_add : MethodName := ⟨RX5, "add", "([I)I"⟩
abbrev cX5_differences : ByteArray := prog_7_method_4_code
def yX5_differences : MethodName := ⟨RX5, "differences", "(II)I"⟩
abbrev cX5_meetings : ByteArray := prog_7_method_5_code
def yX5_meetings : MethodName := ⟨RX5, "meetings", "(II)I"⟩
abbrev cX5_isFair : ByteArray := prog_7_method_6_code
def yX5_isFair : MethodName := ⟨RX5, "isFair", "(I)Z"⟩
abbrev cX5_isFirst : ByteArray := prog_7_method_7_code
def yX5_isFirst : MethodName := ⟨RX5, "isFirst", "(II)Z"⟩
abbrev cX5_met : ByteArray := prog_7_method_8_code
def yX5_met : MethodName := ⟨RX5, "met", "(III)Z"⟩
abbrev cX5_timeOf : ByteArray := prog_7_method_9_code
def yX5_timeOf : MethodName := ⟨RX5, "timeOf", "(II)I"⟩
def RX6 : String := "EightOars$Rule"
def TX6 : u_T := fun k => match k with
  | 0 => ("EightOars$Rule", "steps", "[I", true)
  | _ => ("EightOars$Rule", "half", "I", true)
def tyX6 : Nat → FieldType := fun k => match k with
  | 0 => .array .int
  | _ => .int
abbrev wsX60 : List Cond := u_ws RX6 TX6 2
theorem nmX6 : ∀ a, a < 2 → ∀ b, b < 2 → a ≠ b → (TX6 a).2.1 ≠ (TX6 b).2.1 := by decide +kernel
theorem tyX6_ok : ∀ k, k < 2 → parseFieldDescriptor (TX6 k).2.2.1 = some (tyX6 k) := by decide +kernel
abbrev cX6_init : ByteArray := prog_8_method_1_code
def yX6_init : MethodName := ⟨RX6, "<init>", "([II)V"⟩
abbrev cX6_valueOf : ByteArray := prog_8_method_2_code
def yX6_valueOf : MethodName := ⟨RX6, "valueOf", "(Z[I[I)I"⟩
abbrev cX6_isOperand : ByteArray := prog_8_method_3_code
def yX6_isOperand : MethodName := ⟨RX6, "isOperand", "(I)Z"⟩
abbrev cX6_joined : ByteArray := prog_8_method_4_code
def yX6_joined : MethodName := ⟨RX6, "joined", "(III)I"⟩
def RX7 : String := "EightOars$Sheets"
def TX7 : u_T := fun k => match k with
  | 0 => ("EightOars$Sheets", "sorts", "[I", true)
  | 1 => ("EightOars$Sheets", "sizes", "[I", true)
  | _ => ("EightOars$Sheets", "items", "[[I", true)
def tyX7 : Nat → FieldType := fun k => match k with
  | 0 => .array .int
  | 1 => .array .int
  | _ => .array (.array .int)
abbrev wsX70 : List Cond := u_ws RX7 TX7 3
theorem nmX7 : ∀ a, a < 3 → ∀ b, b < 3 → a ≠ b → (TX7 a).2.1 ≠ (TX7 b).2.1 := by decide +kernel
theorem tyX7_ok : ∀ k, k < 3 → parseFieldDescriptor (TX7 k).2.2.1 = some (tyX7 k) := by decide +kernel
abbrev cX7_init : ByteArray := prog_9_method_1_code
def yX7_init : MethodName := ⟨RX7, "<init>", "()V"⟩
abbrev cX7_has : ByteArray := prog_9_method_2_code
def yX7_has : MethodName := ⟨RX7, "has", "(I)Z"⟩
abbrev cX7_isMissing : ByteArray := prog_9_method_3_code
def yX7_isMissing : MethodName := ⟨RX7, "isMissing", "(I)Z"⟩
abbrev cX7_isSort : ByteArray := prog_9_method_4_code
def yX7_isSort : MethodName := ⟨RX7, "isSort", "(I)Z"⟩
abbrev cX7_renew : ByteArray := prog_9_method_5_code
def yX7_renew : MethodName := ⟨RX7, "renew", "(III)V"⟩
abbrev cX7_holds : ByteArray := prog_9_method_6_code
def yX7_holds : MethodName := ⟨RX7, "holds", "(III)Z"⟩
abbrev cX7_put : ByteArray := prog_9_method_7_code
def yX7_put : MethodName := ⟨RX7, "put", "(III)V"⟩
def RX8 : String := "EightOars$Tape"
def TX8 : u_T := fun k => match k with
  | 0 => ("EightOars$Tape", "bytes", "[B", true)
  | _ => ("EightOars$Tape", "size", "I", false)
def tyX8 : Nat → FieldType := fun k => match k with
  | 0 => .array .byte
  | _ => .int
abbrev wsX80 : List Cond := u_ws RX8 TX8 2
theorem nmX8 : ∀ a, a < 2 → ∀ b, b < 2 → a ≠ b → (TX8 a).2.1 ≠ (TX8 b).2.1 := by decide +kernel
theorem tyX8_ok : ∀ k, k < 2 → parseFieldDescriptor (TX8 k).2.2.1 = some (tyX8 k) := by decide +kernel
abbrev cX8_init : ByteArray := prog_10_method_1_code
def yX8_init : MethodName := ⟨RX8, "<init>", "()V"⟩
abbrev cX8_add : ByteArray := prog_10_method_2_code
def yX8_add : MethodName := ⟨RX8, "add", "(IJ)I"⟩
abbrev cX8_at : ByteArray := prog_10_method_3_code
def yX8_at : MethodName := ⟨RX8, "at", "(I)I"⟩
abbrev cX8_digitOf : ByteArray := prog_10_method_4_code
def yX8_digitOf : MethodName := ⟨RX8, "digitOf", "(I)I"⟩
abbrev cX8_isLetter : ByteArray := prog_10_method_5_code
def yX8_isLetter : MethodName := ⟨RX8, "isLetter", "(I)Z"⟩
abbrev cX8_isBlank : ByteArray := prog_10_method_6_code
def yX8_isBlank : MethodName := ⟨RX8, "isBlank", "(I)Z"⟩
def RX9 : String := "EightOars$TextReader"
def TX9 : u_T := fun k => match k with
  | 0 => ("EightOars$TextReader", "tape", "LEightOars$Tape;", true)
  | 1 => ("EightOars$TextReader", "steps", "[I", true)
  | 2 => ("EightOars$TextReader", "size", "I", false)
  | 3 => ("EightOars$TextReader", "half", "I", false)
  | 4 => ("EightOars$TextReader", "token", "I", false)
  | 5 => ("EightOars$TextReader", "tokenFrom", "I", false)
  | _ => ("EightOars$TextReader", "tokenTo", "I", false)
def tyX9 : Nat → FieldType := fun k => match k with
  | 0 => .object "EightOars$Tape"
  | 1 => .array .int
  | 2 => .int
  | 3 => .int
  | 4 => .int
  | 5 => .int
  | _ => .int
abbrev wsX90 : List Cond := u_ws RX9 TX9 7
theorem nmX9 : ∀ a, a < 7 → ∀ b, b < 7 → a ≠ b → (TX9 a).2.1 ≠ (TX9 b).2.1 := by decide +kernel
theorem tyX9_ok : ∀ k, k < 7 → parseFieldDescriptor (TX9 k).2.2.1 = some (tyX9 k) := by decide +kernel
abbrev cX9_init : ByteArray := prog_11_method_1_code
def yX9_init : MethodName := ⟨RX9, "<init>", "(LEightOars$Tape;)V"⟩
abbrev cX9_findFault : ByteArray := prog_11_method_2_code
def yX9_findFault : MethodName := ⟨RX9, "findFault", "()I"⟩
abbrev cX9_ruleRead : ByteArray := prog_11_method_3_code
def yX9_ruleRead : MethodName := ⟨RX9, "ruleRead", "()LEightOars$Rule;"⟩
abbrev cX9_next : ByteArray := prog_11_method_4_code
def yX9_next : MethodName := ⟨RX9, "next", "()V"⟩
abbrev cX9_numberToken : ByteArray := prog_11_method_5_code
def yX9_numberToken : MethodName := ⟨RX9, "numberToken", "()I"⟩
abbrev cX9_wordToken : ByteArray := prog_11_method_6_code
def yX9_wordToken : MethodName := ⟨RX9, "wordToken", "()I"⟩
abbrev cX9_take : ByteArray := prog_11_method_7_code
def yX9_take : MethodName := ⟨RX9, "take", "(I)Z"⟩
abbrev cX9_put : ByteArray := prog_11_method_8_code
def yX9_put : MethodName := ⟨RX9, "put", "(I)V"⟩
abbrev cX9_readEither : ByteArray := prog_11_method_9_code
def yX9_readEither : MethodName := ⟨RX9, "readEither", "(I)Z"⟩
abbrev cX9_readBoth : ByteArray := prog_11_method_10_code
def yX9_readBoth : MethodName := ⟨RX9, "readBoth", "(I)Z"⟩
abbrev cX9_readNot : ByteArray := prog_11_method_11_code
def yX9_readNot : MethodName := ⟨RX9, "readNot", "(I)Z"⟩
abbrev cX9_readSum : ByteArray := prog_11_method_12_code
def yX9_readSum : MethodName := ⟨RX9, "readSum", "(I)Z"⟩
abbrev cX9_readTerm : ByteArray := prog_11_method_13_code
def yX9_readTerm : MethodName := ⟨RX9, "readTerm", "(I)Z"⟩
abbrev cX9_readOne : ByteArray := prog_11_method_14_code
def yX9_readOne : MethodName := ⟨RX9, "readOne", "(I)Z"⟩
def RX10 : String := "EightOars$Trials"
def TX10 : u_T := fun k => match k with
  | 0 => ("EightOars$Trials", "ones", "[I", true)
  | 1 => ("EightOars$Trials", "others", "[I", true)
  | 2 => ("EightOars$Trials", "farthers", "[I", true)
  | 3 => ("EightOars$Trials", "slips", "[I", true)
  | 4 => ("EightOars$Trials", "size", "I", false)
  | 5 => ("EightOars$Trials", "bounds", "[[I", true)
  | 6 => ("EightOars$Trials", "fewest", "I", false)
  | _ => ("EightOars$Trials", "gone", "I", false)
def tyX10 : Nat → FieldType := fun k => match k with
  | 0 => .array .int
  | 1 => .array .int
  | 2 => .array .int
  | 3 => .array .int
  | 4 => .int
  | 5 => .array (.array .int)
  | 6 => .int
  | _ => .int
abbrev wsX100 : List Cond := u_ws RX10 TX10 8
theorem nmX10 : ∀ a, a < 8 → ∀ b, b < 8 → a ≠ b → (TX10 a).2.1 ≠ (TX10 b).2.1 := by decide +kernel
theorem tyX10_ok : ∀ k, k < 8 → parseFieldDescriptor (TX10 k).2.2.1 = some (tyX10 k) := by decide +kernel
abbrev cX10_init : ByteArray := prog_12_method_1_code
def yX10_init : MethodName := ⟨RX10, "<init>", "()V"⟩
abbrev cX10_add : ByteArray := prog_12_method_2_code
def yX10_add : MethodName := ⟨RX10, "add", "(IIII)I"⟩
abbrev cX10_hasAll : ByteArray := prog_12_method_3_code
def yX10_hasAll : MethodName := ⟨RX10, "hasAll", "(I)Z"⟩
abbrev cX10_keepAll : ByteArray := prog_12_method_4_code
def yX10_keepAll : MethodName := ⟨RX10, "keepAll", "(I)Z"⟩
abbrev cX10_mostOf : ByteArray := prog_12_method_5_code
def yX10_mostOf : MethodName := ⟨RX10, "mostOf", "(II)I"⟩
abbrev cX10_fewestGone : ByteArray := prog_12_method_6_code
def yX10_fewestGone : MethodName := ⟨RX10, "fewestGone", "(I)I"⟩
abbrev cX10_seek : ByteArray := prog_12_method_7_code
def yX10_seek : MethodName := ⟨RX10, "seek", "(III)V"⟩
abbrev cX10_takeOver : ByteArray := prog_12_method_8_code
def yX10_takeOver : MethodName := ⟨RX10, "takeOver", "(I)V"⟩
abbrev cX10_keepOne : ByteArray := prog_12_method_9_code
def yX10_keepOne : MethodName := ⟨RX10, "keepOne", "([II)Z"⟩
abbrev cX10_isTold : ByteArray := prog_12_method_10_code
def yX10_isTold : MethodName := ⟨RX10, "isTold", "(II)Z"⟩
abbrev cX10_cellOf : ByteArray := prog_12_method_11_code
def yX10_cellOf : MethodName := ⟨RX10, "cellOf", "(II)I"⟩
abbrev cX10_unbind : ByteArray := prog_12_method_12_code
def yX10_unbind : MethodName := ⟨RX10, "unbind", "([I)V"⟩
abbrev cX10_keep : ByteArray := prog_12_method_13_code
def yX10_keep : MethodName := ⟨RX10, "keep", "([IIII)Z"⟩
abbrev cX10_tighten : ByteArray := prog_12_method_14_code
def yX10_tighten : MethodName := ⟨RX10, "tighten", "([IIII)V"⟩
def RX11 : String := "EightOars"
def TX11 : u_T := fun k => match k with
  | 0 => ("EightOars", "crew", "LEightOars$Crew;", true)
  | 1 => ("EightOars", "boat", "LEightOars$Boat;", true)
  | 2 => ("EightOars", "keptBoat", "LEightOars$Boat;", true)
  | 3 => ("EightOars", "keptStores", "[I", true)
  | 4 => ("EightOars", "keptRowers", "I", false)
  | 5 => ("EightOars", "keptRule", "I", false)
  | 6 => ("EightOars", "tape", "LEightOars$Tape;", true)
  | 7 => ("EightOars", "textReader", "LEightOars$TextReader;", true)
  | 8 => ("EightOars", "rules", "[LEightOars$Rule;", true)
  | 9 => ("EightOars", "textCount", "I", false)
  | 10 => ("EightOars", "ruleNow", "I", false)
  | 11 => ("EightOars", "plans", "LEightOars$Plans;", true)
  | 12 => ("EightOars", "course", "LEightOars$Course;", true)
  | 13 => ("EightOars", "trials", "LEightOars$Trials;", true)
  | 14 => ("EightOars", "regatta", "LEightOars$Regatta;", true)
  | _ => ("EightOars", "sheets", "LEightOars$Sheets;", true)
def tyX11 : Nat → FieldType := fun k => match k with
  | 0 => .object "EightOars$Crew"
  | 1 => .object "EightOars$Boat"
  | 2 => .object "EightOars$Boat"
  | 3 => .array .int
  | 4 => .int
  | 5 => .int
  | 6 => .object "EightOars$Tape"
  | 7 => .object "EightOars$TextReader"
  | 8 => .array (.object "EightOars$Rule")
  | 9 => .int
  | 10 => .int
  | 11 => .object "EightOars$Plans"
  | 12 => .object "EightOars$Course"
  | 13 => .object "EightOars$Trials"
  | 14 => .object "EightOars$Regatta"
  | _ => .object "EightOars$Sheets"
abbrev wsX110 : List Cond := u_ws RX11 TX11 16
theorem nmX11 : ∀ a, a < 16 → ∀ b, b < 16 → a ≠ b → (TX11 a).2.1 ≠ (TX11 b).2.1 := by decide +kernel
theorem tyX11_ok : ∀ k, k < 16 → parseFieldDescriptor (TX11 k).2.2.1 = some (tyX11 k) := by decide +kernel
abbrev cX11_init : ByteArray := prog_1_method_1_code
def yX11_init : MethodName := ⟨RX11, "<init>", "()V"⟩
abbrev cX11_rower : ByteArray := prog_1_method_2_code
def yX11_rower : MethodName := ⟨RX11, "rower", "(IIII)I"⟩
abbrev cX11_rowerTold : ByteArray := prog_1_method_3_code
def yX11_rowerTold : MethodName := ⟨RX11, "rowerTold", "(II)I"⟩
abbrev cX11_sit : ByteArray := prog_1_method_4_code
def yX11_sit : MethodName := ⟨RX11, "sit", "(II)I"⟩
abbrev cX11_rig : ByteArray := prog_1_method_5_code
def yX11_rig : MethodName := ⟨RX11, "rig", "(III)I"⟩
abbrev cX11_water : ByteArray := prog_1_method_6_code
def yX11_water : MethodName := ⟨RX11, "water", "(II)I"⟩
abbrev cX11_stroke : ByteArray := prog_1_method_7_code
def yX11_stroke : MethodName := ⟨RX11, "stroke", "(IIII)I"⟩
abbrev cX11_feed : ByteArray := prog_1_method_8_code
def yX11_feed : MethodName := ⟨RX11, "feed", "(IJ)I"⟩
abbrev cX11_text : ByteArray := prog_1_method_9_code
def yX11_text : MethodName := ⟨RX11, "text", "()I"⟩
abbrev cX11_force : ByteArray := prog_1_method_10_code
def yX11_force : MethodName := ⟨RX11, "force", "(I)I"⟩
abbrev cX11_plan : ByteArray := prog_1_method_11_code
def yX11_plan : MethodName := ⟨RX11, "plan", "()I"⟩
abbrev cX11_planned : ByteArray := prog_1_method_12_code
def yX11_planned : MethodName := ⟨RX11, "planned", "(II)I"⟩
abbrev cX11_row : ByteArray := prog_1_method_13_code
def yX11_row : MethodName := ⟨RX11, "row", "(II)J"⟩
abbrev cX11_left : ByteArray := prog_1_method_14_code
def yX11_left : MethodName := ⟨RX11, "left", "(II)I"⟩
abbrev cX11_rown : ByteArray := prog_1_method_15_code
def yX11_rown : MethodName := ⟨RX11, "rown", "(I)J"⟩
abbrev cX11_more : ByteArray := prog_1_method_16_code
def yX11_more : MethodName := ⟨RX11, "more", "(II)J"⟩
abbrev cX11_change : ByteArray := prog_1_method_17_code
def yX11_change : MethodName := ⟨RX11, "change", "(II)J"⟩
abbrev cX11_order : ByteArray := prog_1_method_18_code
def yX11_order : MethodName := ⟨RX11, "order", "(I)J"⟩
abbrev cX11_spurts : ByteArray := prog_1_method_19_code
def yX11_spurts : MethodName := ⟨RX11, "spurts", "(III)J"⟩
abbrev cX11_piece : ByteArray := prog_1_method_20_code
def yX11_piece : MethodName := ⟨RX11, "piece", "(IIII)I"⟩
abbrev cX11_worth : ByteArray := prog_1_method_21_code
def yX11_worth : MethodName := ⟨RX11, "worth", "(IIII)J"⟩
abbrev cX11_go : ByteArray := prog_1_method_22_code
def yX11_go : MethodName := ⟨RX11, "go", "(I)I"⟩
abbrev cX11_race : ByteArray := prog_1_method_23_code
def yX11_race : MethodName := ⟨RX11, "race", "(I)I"⟩
abbrev cX11_lanes : ByteArray := prog_1_method_24_code
def yX11_lanes : MethodName := ⟨RX11, "lanes", "(III)J"⟩
abbrev cX11_fair : ByteArray := prog_1_method_25_code
def yX11_fair : MethodName := ⟨RX11, "fair", "()I"⟩
abbrev cX11_image : ByteArray := prog_1_method_26_code
def yX11_image : MethodName := ⟨RX11, "image", "()I"⟩
abbrev cX11_back : ByteArray := prog_1_method_27_code
def yX11_back : MethodName := ⟨RX11, "back", "()I"⟩
abbrev cX11_count : ByteArray := prog_1_method_28_code
def yX11_count : MethodName := ⟨RX11, "count", "(I)I"⟩
abbrev cX11_sheet : ByteArray := prog_1_method_29_code
def yX11_sheet : MethodName := ⟨RX11, "sheet", "(III)I"⟩
abbrev cX11_cell : ByteArray := prog_1_method_30_code
def yX11_cell : MethodName := ⟨RX11, "cell", "(III)I"⟩
abbrev cX11_copy : ByteArray := prog_1_method_31_code
def yX11_copy : MethodName := ⟨RX11, "copy", "(IIIII)I"⟩
abbrev cX11_pieces : ByteArray := prog_1_method_32_code
def yX11_pieces : MethodName := ⟨RX11, "pieces", "(IIII)I"⟩
abbrev cX11_taken : ByteArray := prog_1_method_33_code
def yX11_taken : MethodName := ⟨RX11, "taken", "(III)I"⟩
abbrev cX11_within : ByteArray := prog_1_method_34_code
def yX11_within : MethodName := ⟨RX11, "within", "(III)Z"⟩
abbrev cX11_isSeat : ByteArray := prog_1_method_35_code
def yX11_isSeat : MethodName := ⟨RX11, "isSeat", "(I)Z"⟩
abbrev cX11_rowBy : ByteArray := prog_1_method_36_code
def yX11_rowBy : MethodName := ⟨RX11, "rowBy", "(I)V"⟩
abbrev cX11_wayIfChanged : ByteArray := prog_1_method_37_code
def yX11_wayIfChanged : MethodName := ⟨RX11, "wayIfChanged", "(III)J"⟩
abbrev cX11_commonDivisor : ByteArray := prog_1_method_38_code
def yX11_commonDivisor : MethodName := ⟨RX11, "commonDivisor", "(II)I"⟩
def RX12 : String := "EightOarsModel"
def TX12 : u_T := fun k => match k with
  | 0 => ("EightOarsModel", "thrown", "I", false)
  | 1 => ("EightOarsModel", "texts", "[I", true)
  | 2 => ("EightOarsModel", "textSize", "[I", true)
  | 3 => ("EightOarsModel", "textCount", "I", false)
  | 4 => ("EightOarsModel", "rule", "I", false)
  | 5 => ("EightOarsModel", "tape", "[I", true)
  | 6 => ("EightOarsModel", "taped", "I", false)
  | 7 => ("EightOarsModel", "weight", "[I", true)
  | 8 => ("EightOarsModel", "strong", "[I", true)
  | 9 => ("EightOarsModel", "store", "[I", true)
  | 10 => ("EightOarsModel", "fills", "[I", true)
  | 11 => ("EightOarsModel", "rowers", "I", false)
  | 12 => ("EightOarsModel", "sits", "[I", true)
  | 13 => ("EightOarsModel", "side", "[I", true)
  | 14 => ("EightOarsModel", "gear", "[I", true)
  | 15 => ("EightOarsModel", "drag", "I", false)
  | 16 => ("EightOarsModel", "wind", "I", false)
  | 17 => ("EightOarsModel", "from", "I", false)
  | 18 => ("EightOarsModel", "size", "I", false)
  | 19 => ("EightOarsModel", "token", "I", false)
  | 20 => ("EightOarsModel", "tokenAt", "I", false)
  | 21 => ("EightOarsModel", "tokenWorth", "J", false)
  | 22 => ("EightOarsModel", "here", "I", false)
  | 23 => ("EightOarsModel", "open", "I", false)
  | 24 => ("EightOarsModel", "bad", "Z", false)
  | 25 => ("EightOarsModel", "fault", "I", false)
  | 26 => ("EightOarsModel", "aboutForce", "I", false)
  | 27 => ("EightOarsModel", "aboutStore", "I", false)
  | 28 => ("EightOarsModel", "aboutSeat", "I", false)
  | 29 => ("EightOarsModel", "aboutSpeed", "I", false)
  | 30 => ("EightOarsModel", "aboutStroke", "I", false)
  | 31 => ("EightOarsModel", "planSize", "[I", true)
  | 32 => ("EightOarsModel", "planKind", "[I", true)
  | 33 => ("EightOarsModel", "plans", "I", false)
  | 34 => ("EightOarsModel", "rowStore", "[I", true)
  | 35 => ("EightOarsModel", "drives", "[J", true)
  | 36 => ("EightOarsModel", "rowSpeed", "I", false)
  | 37 => ("EightOarsModel", "rowWay", "J", false)
  | 38 => ("EightOarsModel", "rowTurn", "J", false)
  | 39 => ("EightOarsModel", "rowLost", "J", false)
  | 40 => ("EightOarsModel", "rowSlipped", "J", false)
  | 41 => ("EightOarsModel", "rowStroke", "I", false)
  | 42 => ("EightOarsModel", "pieceA", "[I", true)
  | 43 => ("EightOarsModel", "pieceB", "[I", true)
  | 44 => ("EightOarsModel", "farther", "[I", true)
  | 45 => ("EightOarsModel", "slip", "[I", true)
  | 46 => ("EightOarsModel", "pieceMany", "I", false)
  | 47 => ("EightOarsModel", "most", "[J", true)
  | 48 => ("EightOarsModel", "times", "[I", true)
  | 49 => ("EightOarsModel", "races", "I", false)
  | 50 => ("EightOarsModel", "imageSits", "[I", true)
  | 51 => ("EightOarsModel", "imageSide", "[I", true)
  | 52 => ("EightOarsModel", "imageGear", "[I", true)
  | 53 => ("EightOarsModel", "imageStore", "[I", true)
  | 54 => ("EightOarsModel", "hasImage", "Z", false)
  | 55 => ("EightOarsModel", "imageRowers", "I", false)
  | 56 => ("EightOarsModel", "imageDrag", "I", false)
  | 57 => ("EightOarsModel", "imageWind", "I", false)
  | 58 => ("EightOarsModel", "imageRule", "I", false)
  | 59 => ("EightOarsModel", "isThere", "[Z", true)
  | 60 => ("EightOarsModel", "sorts", "[I", true)
  | 61 => ("EightOarsModel", "sheetSize", "[I", true)
  | _ => ("EightOarsModel", "items", "[I", true)
def tyX12 : Nat → FieldType := fun k => match k with
  | 0 => .int
  | 1 => .array .int
  | 2 => .array .int
  | 3 => .int
  | 4 => .int
  | 5 => .array .int
  | 6 => .int
  | 7 => .array .int
  | 8 => .array .int
  | 9 => .array .int
  | 10 => .array .int
  | 11 => .int
  | 12 => .array .int
  | 13 => .array .int
  | 14 => .array .int
  | 15 => .int
  | 16 => .int
  | 17 => .int
  | 18 => .int
  | 19 => .int
  | 20 => .int
  | 21 => .long
  | 22 => .int
  | 23 => .int
  | 24 => .boolean
  | 25 => .int
  | 26 => .int
  | 27 => .int
  | 28 => .int
  | 29 => .int
  | 30 => .int
  | 31 => .array .int
  | 32 => .array .int
  | 33 => .int
  | 34 => .array .int
  | 35 => .array .long
  | 36 => .int
  | 37 => .long
  | 38 => .long
  | 39 => .long
  | 40 => .long
  | 41 => .int
  | 42 => .array .int
  | 43 => .array .int
  | 44 => .array .int
  | 45 => .array .int
  | 46 => .int
  | 47 => .array .long
  | 48 => .array .int
  | 49 => .int
  | 50 => .array .int
  | 51 => .array .int
  | 52 => .array .int
  | 53 => .array .int
  | 54 => .boolean
  | 55 => .int
  | 56 => .int
  | 57 => .int
  | 58 => .int
  | 59 => .array .boolean
  | 60 => .array .int
  | 61 => .array .int
  | _ => .array .int
abbrev wsX120 : List Cond := u_ws RX12 TX12 63
theorem nmX12 : ∀ a, a < 63 → ∀ b, b < 63 → a ≠ b → (TX12 a).2.1 ≠ (TX12 b).2.1 := by decide +kernel
theorem tyX12_ok : ∀ k, k < 63 → parseFieldDescriptor (TX12 k).2.2.1 = some (tyX12 k) := by decide +kernel
abbrev cX12_in : ByteArray := prog_14_method_2_code
def yX12_in : MethodName := ⟨RX12, "in", "(JJJ)Z"⟩
abbrev cX12_init : ByteArray := prog_14_method_3_code
def yX12_init : MethodName := ⟨RX12, "<init>", "()V"⟩
abbrev cX12_spell : ByteArray := prog_14_method_4_code
def yX12_spell : MethodName := ⟨RX12, "spell", "(IJ)V"⟩
abbrev cX12_isRower : ByteArray := prog_14_method_5_code
def yX12_isRower : MethodName := ⟨RX12, "isRower", "(I)Z"⟩
abbrev cX12_isSeat : ByteArray := prog_14_method_6_code
def yX12_isSeat : MethodName := ⟨RX12, "isSeat", "(I)Z"⟩
abbrev cX12_rower : ByteArray := prog_14_method_7_code
def yX12_rower : MethodName := ⟨RX12, "rower", "(IIII)I"⟩
abbrev cX12_seatOf : ByteArray := prog_14_method_8_code
def yX12_seatOf : MethodName := ⟨RX12, "seatOf", "(I)I"⟩
abbrev cX12_rowerTold : ByteArray := prog_14_method_9_code
def yX12_rowerTold : MethodName := ⟨RX12, "rowerTold", "(II)I"⟩
abbrev cX12_sit : ByteArray := prog_14_method_10_code
def yX12_sit : MethodName := ⟨RX12, "sit", "(II)I"⟩
abbrev cX12_rig : ByteArray := prog_14_method_11_code
def yX12_rig : MethodName := ⟨RX12, "rig", "(III)I"⟩
abbrev cX12_water : ByteArray := prog_14_method_12_code
def yX12_water : MethodName := ⟨RX12, "water", "(II)I"⟩
abbrev cX12_pullOf : ByteArray := prog_14_method_13_code
def yX12_pullOf : MethodName := ⟨RX12, "pullOf", "(III)I"⟩
abbrev cX12_costOf : ByteArray := prog_14_method_14_code
def yX12_costOf : MethodName := ⟨RX12, "costOf", "(II)I"⟩
abbrev cX12_slipsOf : ByteArray := prog_14_method_15_code
def yX12_slipsOf : MethodName := ⟨RX12, "slipsOf", "(I)I"⟩
abbrev cX12_stroke : ByteArray := prog_14_method_16_code
def yX12_stroke : MethodName := ⟨RX12, "stroke", "(IIII)I"⟩
abbrev cX12_feed : ByteArray := prog_14_method_17_code
def yX12_feed : MethodName := ⟨RX12, "feed", "(IJ)I"⟩
abbrev cX12_byteAt : ByteArray := prog_14_method_18_code
def yX12_byteAt : MethodName := ⟨RX12, "byteAt", "(I)I"⟩
abbrev cX12_next : ByteArray := prog_14_method_19_code
def yX12_next : MethodName := ⟨RX12, "next", "()V"⟩
abbrev cX12_fail : ByteArray := prog_14_method_20_code
def yX12_fail : MethodName := ⟨RX12, "fail", "()V"⟩
abbrev cX12_isWord : ByteArray := prog_14_method_21_code
def yX12_isWord : MethodName := ⟨RX12, "isWord", "(J)Z"⟩
abbrev cX12_isSign : ByteArray := prog_14_method_22_code
def yX12_isSign : MethodName := ⟨RX12, "isSign", "(I)Z"⟩
abbrev cX12_opens : ByteArray := prog_14_method_23_code
def yX12_opens : MethodName := ⟨RX12, "opens", "()Z"⟩
abbrev cX12_name : ByteArray := prog_14_method_24_code
def yX12_name : MethodName := ⟨RX12, "name", "()I"⟩
abbrev cX12_one : ByteArray := prog_14_method_25_code
def yX12_one : MethodName := ⟨RX12, "one", "()I"⟩
abbrev cX12_term : ByteArray := prog_14_method_26_code
def yX12_term : MethodName := ⟨RX12, "term", "()I"⟩
abbrev cX12_added : ByteArray := prog_14_method_27_code
def yX12_added : MethodName := ⟨RX12, "added", "()I"⟩
abbrev cX12_not : ByteArray := prog_14_method_28_code
def yX12_not : MethodName := ⟨RX12, "not", "()I"⟩
abbrev cX12_both : ByteArray := prog_14_method_29_code
def yX12_both : MethodName := ⟨RX12, "both", "()I"⟩
abbrev cX12_either : ByteArray := prog_14_method_30_code
def yX12_either : MethodName := ⟨RX12, "either", "()I"⟩
abbrev cX12_part : ByteArray := prog_14_method_31_code
def yX12_part : MethodName := ⟨RX12, "part", "(J)I"⟩
abbrev cX12_read : ByteArray := prog_14_method_32_code
def yX12_read : MethodName := ⟨RX12, "read", "(IIIIII)I"⟩
abbrev cX12_text : ByteArray := prog_14_method_33_code
def yX12_text : MethodName := ⟨RX12, "text", "()I"⟩
abbrev cX12_force : ByteArray := prog_14_method_34_code
def yX12_force : MethodName := ⟨RX12, "force", "(I)I"⟩
abbrev cX12_kindOf : ByteArray := prog_14_method_35_code
def yX12_kindOf : MethodName := ⟨RX12, "kindOf", "(I)I"⟩
abbrev cX12_byteHere : ByteArray := prog_14_method_36_code
def yX12_byteHere : MethodName := ⟨RX12, "byteHere", "(I)I"⟩
abbrev cX12_isDigit : ByteArray := prog_14_method_37_code
def yX12_isDigit : MethodName := ⟨RX12, "isDigit", "(I)Z"⟩
abbrev cX12_plan : ByteArray := prog_14_method_38_code
def yX12_plan : MethodName := ⟨RX12, "plan", "()I"⟩
abbrev cX12_isPlan : ByteArray := prog_14_method_39_code
def yX12_isPlan : MethodName := ⟨RX12, "isPlan", "(I)Z"⟩
abbrev cX12_planned : ByteArray := prog_14_method_40_code
def yX12_planned : MethodName := ⟨RX12, "planned", "(II)I"⟩
abbrev cX12_allWeights : ByteArray := prog_14_method_41_code
def yX12_allWeights : MethodName := ⟨RX12, "allWeights", "()I"⟩
abbrev cX12_begins : ByteArray := prog_14_method_42_code
def yX12_begins : MethodName := ⟨RX12, "begins", "()V"⟩
abbrev cX12_within : ByteArray := prog_14_method_43_code
def yX12_within : MethodName := ⟨RX12, "within", "(III)I"⟩
abbrev cX12_givesOf : ByteArray := prog_14_method_44_code
def yX12_givesOf : MethodName := ⟨RX12, "givesOf", "(I)I"⟩
abbrev cX12_strokes : ByteArray := prog_14_method_45_code
def yX12_strokes : MethodName := ⟨RX12, "strokes", "(I)V"⟩
abbrev cX12_goes : ByteArray := prog_14_method_46_code
def yX12_goes : MethodName := ⟨RX12, "goes", "(I)V"⟩
abbrev cX12_row : ByteArray := prog_14_method_47_code
def yX12_row : MethodName := ⟨RX12, "row", "(II)J"⟩
abbrev cX12_left : ByteArray := prog_14_method_48_code
def yX12_left : MethodName := ⟨RX12, "left", "(II)I"⟩
abbrev cX12_rown : ByteArray := prog_14_method_49_code
def yX12_rown : MethodName := ⟨RX12, "rown", "(I)J"⟩
abbrev cX12_changes : ByteArray := prog_14_method_50_code
def yX12_changes : MethodName := ⟨RX12, "changes", "(II)V"⟩
abbrev cX12_moreOf : ByteArray := prog_14_method_51_code
def yX12_moreOf : MethodName := ⟨RX12, "moreOf", "(IIIJ)J"⟩
abbrev cX12_more : ByteArray := prog_14_method_52_code
def yX12_more : MethodName := ⟨RX12, "more", "(II)J"⟩
abbrev cX12_change : ByteArray := prog_14_method_53_code
def yX12_change : MethodName := ⟨RX12, "change", "(II)J"⟩
abbrev cX12_bitsOf : ByteArray := prog_14_method_54_code
def yX12_bitsOf : MethodName := ⟨RX12, "bitsOf", "(I)I"⟩
abbrev cX12_wagsBy : ByteArray := prog_14_method_55_code
def yX12_wagsBy : MethodName := ⟨RX12, "wagsBy", "(I)J"⟩
abbrev cX12_order : ByteArray := prog_14_method_56_code
def yX12_order : MethodName := ⟨RX12, "order", "(I)J"⟩
abbrev cX12_spurts : ByteArray := prog_14_method_57_code
def yX12_spurts : MethodName := ⟨RX12, "spurts", "(III)J"⟩
abbrev cX12_piece : ByteArray := prog_14_method_58_code
def yX12_piece : MethodName := ⟨RX12, "piece", "(IIII)I"⟩
abbrev cX12_bounds : ByteArray := prog_14_method_59_code
def yX12_bounds : MethodName := ⟨RX12, "bounds", "(IIJ)V"⟩
abbrev cX12_quarrels : ByteArray := prog_14_method_60_code
def yX12_quarrels : MethodName := ⟨RX12, "quarrels", "(I)Z"⟩
abbrev cX12_worth : ByteArray := prog_14_method_61_code
def yX12_worth : MethodName := ⟨RX12, "worth", "(IIII)J"⟩
abbrev cX12_go : ByteArray := prog_14_method_62_code
def yX12_go : MethodName := ⟨RX12, "go", "(I)I"⟩
abbrev cX12_race : ByteArray := prog_14_method_63_code
def yX12_race : MethodName := ⟨RX12, "race", "(I)I"⟩
abbrev cX12_isLane : ByteArray := prog_14_method_64_code
def yX12_isLane : MethodName := ⟨RX12, "isLane", "(I)Z"⟩
abbrev cX12_common : ByteArray := prog_14_method_65_code
def yX12_common : MethodName := ⟨RX12, "common", "(JJ)J"⟩
abbrev cX12_lanes : ByteArray := prog_14_method_66_code
def yX12_lanes : MethodName := ⟨RX12, "lanes", "(III)J"⟩
abbrev cX12_isFirst : ByteArray := prog_14_method_67_code
def yX12_isFirst : MethodName := ⟨RX12, "isFirst", "(II)Z"⟩
abbrev cX12_fair : ByteArray := prog_14_method_68_code
def yX12_fair : MethodName := ⟨RX12, "fair", "()I"⟩
abbrev cX12_sitting : ByteArray := prog_14_method_69_code
def yX12_sitting : MethodName := ⟨RX12, "sitting", "()I"⟩
abbrev cX12_image : ByteArray := prog_14_method_70_code
def yX12_image : MethodName := ⟨RX12, "image", "()I"⟩
abbrev cX12_back : ByteArray := prog_14_method_71_code
def yX12_back : MethodName := ⟨RX12, "back", "()I"⟩
abbrev cX12_count : ByteArray := prog_14_method_72_code
def yX12_count : MethodName := ⟨RX12, "count", "(I)I"⟩
abbrev cX12_isSheet : ByteArray := prog_14_method_73_code
def yX12_isSheet : MethodName := ⟨RX12, "isSheet", "(I)Z"⟩
abbrev cX12_sheet : ByteArray := prog_14_method_74_code
def yX12_sheet : MethodName := ⟨RX12, "sheet", "(III)I"⟩
abbrev cX12_cell : ByteArray := prog_14_method_75_code
def yX12_cell : MethodName := ⟨RX12, "cell", "(III)I"⟩
abbrev cX12_copy : ByteArray := prog_14_method_76_code
def yX12_copy : MethodName := ⟨RX12, "copy", "(IIIII)I"⟩
abbrev cX12_pieces : ByteArray := prog_14_method_77_code
def yX12_pieces : MethodName := ⟨RX12, "pieces", "(IIII)I"⟩
abbrev cX12_over : ByteArray := prog_14_method_78_code
def yX12_over : MethodName := ⟨RX12, "over", "(I)I"⟩
abbrev cX12_taken : ByteArray := prog_14_method_79_code
def yX12_taken : MethodName := ⟨RX12, "taken", "(III)I"⟩
def RJx145de : String := "java/io/Serializable"
def TJx145de : u_T := fun k => match k with
  | _ => ("", "", "", false)
def tyJx145de : Nat → FieldType := fun k => match k with
  | _ => .int
abbrev wsJx145de0 : List Cond := u_ws RJx145de TJx145de 0
theorem nmJx145de : ∀ a, a < 0 → ∀ b, b < 0 → a ≠ b → (TJx145de a).2.1 ≠ (TJx145de b).2.1 := by decide +kernel
theorem tyJx145de_ok : ∀ k, k < 0 → parseFieldDescriptor (TJx145de k).2.2.1 = some (tyJx145de k) := by decide +kernel
def RJx9f9b0 : String := "java/lang/CharSequence"
def TJx9f9b0 : u_T := fun k => match k with
  | _ => ("", "", "", false)
def tyJx9f9b0 : Nat → FieldType := fun k => match k with
  | _ => .int
abbrev wsJx9f9b00 : List Cond := u_ws RJx9f9b0 TJx9f9b0 0
theorem nmJx9f9b0 : ∀ a, a < 0 → ∀ b, b < 0 → a ≠ b → (TJx9f9b0 a).2.1 ≠ (TJx9f9b0 b).2.1 := by decide +kernel
theorem tyJx9f9b0_ok : ∀ k, k < 0 → parseFieldDescriptor (TJx9f9b0 k).2.2.1 = some (tyJx9f9b0 k) := by decide +kernel
def RJ11 : String := "java/lang/Character"
def TJ11 : u_T := fun k => match k with
  | _ => ("", "", "", false)
def tyJ11 : Nat → FieldType := fun k => match k with
  | _ => .int
abbrev wsJ110 : List Cond := u_ws RJ11 TJ11 0
theorem nmJ11 : ∀ a, a < 0 → ∀ b, b < 0 → a ≠ b → (TJ11 a).2.1 ≠ (TJ11 b).2.1 := by decide +kernel
theorem tyJ11_ok : ∀ k, k < 0 → parseFieldDescriptor (TJ11 k).2.2.1 = some (tyJ11 k) := by decide +kernel
abbrev cJ11_isValidCodePoint_9a6ad : ByteArray := prog_15_method_11_code
def yJ11_isValidCodePoint_9a6ad : MethodName := ⟨RJ11, "isValidCodePoint", "(I)Z"⟩
abbrev cJ11_highSurrogate_5068e : ByteArray := prog_15_method_28_code
def yJ11_highSurrogate_5068e : MethodName := ⟨RJ11, "highSurrogate", "(I)C"⟩
abbrev cJ11_lowSurrogate_5068e : ByteArray := prog_15_method_29_code
def yJ11_lowSurrogate_5068e : MethodName := ⟨RJ11, "lowSurrogate", "(I)C"⟩
def RJx8e188 : String := "java/lang/Cloneable"
def TJx8e188 : u_T := fun k => match k with
  | _ => ("", "", "", false)
def tyJx8e188 : Nat → FieldType := fun k => match k with
  | _ => .int
abbrev wsJx8e1880 : List Cond := u_ws RJx8e188 TJx8e188 0
theorem nmJx8e188 : ∀ a, a < 0 → ∀ b, b < 0 → a ≠ b → (TJx8e188 a).2.1 ≠ (TJx8e188 b).2.1 := by decide +kernel
theorem tyJx8e188_ok : ∀ k, k < 0 → parseFieldDescriptor (TJx8e188 k).2.2.1 = some (tyJx8e188 k) := by decide +kernel
def RJxb160c : String := "java/lang/Comparable"
def TJxb160c : u_T := fun k => match k with
  | _ => ("", "", "", false)
def tyJxb160c : Nat → FieldType := fun k => match k with
  | _ => .int
abbrev wsJxb160c0 : List Cond := u_ws RJxb160c TJxb160c 0
theorem nmJxb160c : ∀ a, a < 0 → ∀ b, b < 0 → a ≠ b → (TJxb160c a).2.1 ≠ (TJxb160c b).2.1 := by decide +kernel
theorem tyJxb160c_ok : ∀ k, k < 0 → parseFieldDescriptor (TJxb160c k).2.2.1 = some (tyJxb160c k) := by decide +kernel
def RJ6 : String := "java/lang/Integer"
def TJ6 : u_T := fun k => match k with
  | _ => ("", "", "", false)
def tyJ6 : Nat → FieldType := fun k => match k with
  | _ => .int
abbrev wsJ60 : List Cond := u_ws RJ6 TJ6 0
theorem nmJ6 : ∀ a, a < 0 → ∀ b, b < 0 → a ≠ b → (TJ6 a).2.1 ≠ (TJ6 b).2.1 := by decide +kernel
theorem tyJ6_ok : ∀ k, k < 0 → parseFieldDescriptor (TJ6 k).2.2.1 = some (tyJ6 k) := by decide +kernel
abbrev cJ6_bitCount_0f7a4 : ByteArray := prog_17_method_49_code
def yJ6_bitCount_0f7a4 : MethodName := ⟨RJ6, "bitCount", "(I)I"⟩
def RJ9 : String := "java/lang/Math"
def TJ9 : u_T := fun k => match k with
  | _ => ("", "", "", false)
def tyJ9 : Nat → FieldType := fun k => match k with
  | _ => .int
abbrev wsJ90 : List Cond := u_ws RJ9 TJ9 0
theorem nmJ9 : ∀ a, a < 0 → ∀ b, b < 0 → a ≠ b → (TJ9 a).2.1 ≠ (TJ9 b).2.1 := by decide +kernel
theorem tyJ9_ok : ∀ k, k < 0 → parseFieldDescriptor (TJ9 k).2.2.1 = some (tyJ9 k) := by decide +kernel
abbrev cJ9_abs_0f7a4 : ByteArray := prog_18_method_59_code
def yJ9_abs_0f7a4 : MethodName := ⟨RJ9, "abs", "(I)I"⟩
abbrev cJ9_abs_067f4 : ByteArray := prog_18_method_61_code
def yJ9_abs_067f4 : MethodName := ⟨RJ9, "abs", "(J)J"⟩
abbrev cJ9_max_7cf53 : ByteArray := prog_18_method_65_code
def yJ9_max_7cf53 : MethodName := ⟨RJ9, "max", "(II)I"⟩
abbrev cJ9_min_7cf53 : ByteArray := prog_18_method_69_code
def yJ9_min_7cf53 : MethodName := ⟨RJ9, "min", "(II)I"⟩
def RJ0 : String := "java/lang/String"
def TJ0 : u_T := fun k => match k with
  | _ => ("", "", "", false)
def tyJ0 : Nat → FieldType := fun k => match k with
  | _ => .int
abbrev wsJ00 : List Cond := u_ws RJ0 TJ0 0
theorem nmJ0 : ∀ a, a < 0 → ∀ b, b < 0 → a ≠ b → (TJ0 a).2.1 ≠ (TJ0 b).2.1 := by decide +kernel
theorem tyJ0_ok : ∀ k, k < 0 → parseFieldDescriptor (TJ0 k).2.2.1 = some (tyJ0 k) := by decide +kernel
abbrev cJ0_length_8abf5 : ByteArray := prog_19_method_54_code
def yJ0_length_8abf5 : MethodName := ⟨RJ0, "length", "()I"⟩
abbrev cJ0_charAt_5068e : ByteArray := prog_19_method_56_code
def yJ0_charAt_5068e : MethodName := ⟨RJ0, "charAt", "(I)C"⟩
abbrev cJ0_indexOf_0f7a4 : ByteArray := prog_19_method_79_code
def yJ0_indexOf_0f7a4 : MethodName := ⟨RJ0, "indexOf", "(I)I"⟩
abbrev cJ0_indexOf_7cf53 : ByteArray := prog_19_method_80_code
def yJ0_indexOf_7cf53 : MethodName := ⟨RJ0, "indexOf", "(II)I"⟩
abbrev cJ0_coder_7d493 : ByteArray := prog_19_method_152_code
def yJ0_coder_7d493 : MethodName := ⟨RJ0, "coder", "()B"⟩
abbrev cJ0_isLatin1_aae02 : ByteArray := prog_19_method_154_code
def yJ0_isLatin1_aae02 : MethodName := ⟨RJ0, "isLatin1", "()Z"⟩
abbrev cJ0_checkIndex_df160 : ByteArray := prog_19_method_155_code
def yJ0_checkIndex_df160 : MethodName := ⟨RJ0, "checkIndex", "(II)V"⟩
abbrev cJ0_checkBoundsBeginEnd_23922 : ByteArray := prog_19_method_158_code
def yJ0_checkBoundsBeginEnd_23922 : MethodName := ⟨RJ0, "checkBoundsBeginEnd", "(III)V"⟩
def RJ1 : String := "java/lang/StringLatin1"
def TJ1 : u_T := fun k => match k with
  | _ => ("", "", "", false)
def tyJ1 : Nat → FieldType := fun k => match k with
  | _ => .int
abbrev wsJ10 : List Cond := u_ws RJ1 TJ1 0
theorem nmJ1 : ∀ a, a < 0 → ∀ b, b < 0 → a ≠ b → (TJ1 a).2.1 ≠ (TJ1 b).2.1 := by decide +kernel
theorem tyJ1_ok : ∀ k, k < 0 → parseFieldDescriptor (TJ1 k).2.2.1 = some (tyJ1 k) := by decide +kernel
abbrev cJ1_charAt_3b067 : ByteArray := prog_20_method_2_code
def yJ1_charAt_3b067 : MethodName := ⟨RJ1, "charAt", "([BI)C"⟩
abbrev cJ1_canEncode_9a6ad : ByteArray := prog_20_method_4_code
def yJ1_canEncode_9a6ad : MethodName := ⟨RJ1, "canEncode", "(I)Z"⟩
abbrev cJ1_indexOf_4cfef : ByteArray := prog_20_method_22_code
def yJ1_indexOf_4cfef : MethodName := ⟨RJ1, "indexOf", "([BIII)I"⟩
abbrev cJ1_indexOfChar_4cfef : ByteArray := prog_20_method_23_code
def yJ1_indexOfChar_4cfef : MethodName := ⟨RJ1, "indexOfChar", "([BIII)I"⟩
def RJ2 : String := "java/lang/StringUTF16"
def TJ2 : u_T := fun k => match k with
  | _ => ("", "", "", false)
def tyJ2 : Nat → FieldType := fun k => match k with
  | _ => .int
abbrev wsJ20 : List Cond := u_ws RJ2 TJ2 0
theorem nmJ2 : ∀ a, a < 0 → ∀ b, b < 0 → a ≠ b → (TJ2 a).2.1 ≠ (TJ2 b).2.1 := by decide +kernel
theorem tyJ2_ok : ∀ k, k < 0 → parseFieldDescriptor (TJ2 k).2.2.1 = some (tyJ2 k) := by decide +kernel
abbrev cJ2_getChar_3b067 : ByteArray := prog_21_method_5_code
def yJ2_getChar_3b067 : MethodName := ⟨RJ2, "getChar", "([BI)C"⟩
abbrev cJ2_length_9d52b : ByteArray := prog_21_method_6_code
def yJ2_length_9d52b : MethodName := ⟨RJ2, "length", "([B)I"⟩
abbrev cJ2_indexOf_4cfef : ByteArray := prog_21_method_40_code
def yJ2_indexOf_4cfef : MethodName := ⟨RJ2, "indexOf", "([BIII)I"⟩
abbrev cJ2_indexOfChar_4cfef : ByteArray := prog_21_method_47_code
def yJ2_indexOfChar_4cfef : MethodName := ⟨RJ2, "indexOfChar", "([BIII)I"⟩
abbrev cJ2_indexOfCharUnsafe_4cfef : ByteArray := prog_21_method_48_code
def yJ2_indexOfCharUnsafe_4cfef : MethodName := ⟨RJ2, "indexOfCharUnsafe", "([BIII)I"⟩
abbrev cJ2_indexOfSupplementary_4cfef : ByteArray := prog_21_method_49_code
def yJ2_indexOfSupplementary_4cfef : MethodName := ⟨RJ2, "indexOfSupplementary", "([BIII)I"⟩
abbrev cJ2_charAt_3b067 : ByteArray := prog_21_method_83_code
def yJ2_charAt_3b067 : MethodName := ⟨RJ2, "charAt", "([BI)C"⟩
abbrev cJ2_checkIndex_2214a : ByteArray := prog_21_method_91_code
def yJ2_checkIndex_2214a : MethodName := ⟨RJ2, "checkIndex", "(I[B)V"⟩
abbrev cJ2_checkBoundsBeginEnd_d044e : ByteArray := prog_21_method_93_code
def yJ2_checkBoundsBeginEnd_d044e : MethodName := ⟨RJ2, "checkBoundsBeginEnd", "(II[B)V"⟩
def RJ10 : String := "java/lang/System"
def TJ10 : u_T := fun k => match k with
  | _ => ("", "", "", false)
def tyJ10 : Nat → FieldType := fun k => match k with
  | _ => .int
abbrev wsJ100 : List Cond := u_ws RJ10 TJ10 0
theorem nmJ10 : ∀ a, a < 0 → ∀ b, b < 0 → a ≠ b → (TJ10 a).2.1 ≠ (TJ10 b).2.1 := by decide +kernel
theorem tyJ10_ok : ∀ k, k < 0 → parseFieldDescriptor (TJ10 k).2.2.1 = some (tyJ10 k) := by decide +kernel
def RJxfd54e : String := "java/lang/constant/Constable"
def TJxfd54e : u_T := fun k => match k with
  | _ => ("", "", "", false)
def tyJxfd54e : Nat → FieldType := fun k => match k with
  | _ => .int
abbrev wsJxfd54e0 : List Cond := u_ws RJxfd54e TJxfd54e 0
theorem nmJxfd54e : ∀ a, a < 0 → ∀ b, b < 0 → a ≠ b → (TJxfd54e a).2.1 ≠ (TJxfd54e b).2.1 := by decide +kernel
theorem tyJxfd54e_ok : ∀ k, k < 0 → parseFieldDescriptor (TJxfd54e k).2.2.1 = some (tyJxfd54e k) := by decide +kernel
def RJx3cf43 : String := "java/lang/constant/ConstantDesc"
def TJx3cf43 : u_T := fun k => match k with
  | _ => ("", "", "", false)
def tyJx3cf43 : Nat → FieldType := fun k => match k with
  | _ => .int
abbrev wsJx3cf430 : List Cond := u_ws RJx3cf43 TJx3cf43 0
theorem nmJx3cf43 : ∀ a, a < 0 → ∀ b, b < 0 → a ≠ b → (TJx3cf43 a).2.1 ≠ (TJx3cf43 b).2.1 := by decide +kernel
theorem tyJx3cf43_ok : ∀ k, k < 0 → parseFieldDescriptor (TJx3cf43 k).2.2.1 = some (tyJx3cf43 k) := by decide +kernel
def RJ7 : String := "java/util/Arrays"
def TJ7 : u_T := fun k => match k with
  | _ => ("", "", "", false)
def tyJ7 : Nat → FieldType := fun k => match k with
  | _ => .int
abbrev wsJ70 : List Cond := u_ws RJ7 TJ7 0
theorem nmJ7 : ∀ a, a < 0 → ∀ b, b < 0 → a ≠ b → (TJ7 a).2.1 ≠ (TJ7 b).2.1 := by decide +kernel
theorem tyJ7_ok : ∀ k, k < 0 → parseFieldDescriptor (TJ7 k).2.2.1 = some (tyJ7 k) := by decide +kernel
abbrev cJ7_fill_53178 : ByteArray := prog_23_method_103_code
def yJ7_fill_53178 : MethodName := ⟨RJ7, "fill", "([II)V"⟩
abbrev cJ7_copyOf_59c91 : ByteArray := prog_23_method_123_code
def yJ7_copyOf_59c91 : MethodName := ⟨RJ7, "copyOf", "([II)[I"⟩
def RJ3 : String := "jdk/internal/util/Preconditions"
def TJ3 : u_T := fun k => match k with
  | _ => ("", "", "", false)
def tyJ3 : Nat → FieldType := fun k => match k with
  | _ => .int
abbrev wsJ30 : List Cond := u_ws RJ3 TJ3 0
theorem nmJ3 : ∀ a, a < 0 → ∀ b, b < 0 → a ≠ b → (TJ3 a).2.1 ≠ (TJ3 b).2.1 := by decide +kernel
theorem tyJ3_ok : ∀ k, k < 0 → parseFieldDescriptor (TJ3 k).2.2.1 = some (tyJ3 k) := by decide +kernel
abbrev cJ3_checkIndex_8e157 : ByteArray := prog_24_method_11_code
def yJ3_checkIndex_8e157 : MethodName := ⟨RJ3, "checkIndex", "(IILjava/util/function/BiFunction;)I"⟩
abbrev cJ3_checkFromToIndex_8c36e : ByteArray := prog_24_method_12_code
def yJ3_checkFromToIndex_8c36e : MethodName := ⟨RJ3, "checkFromToIndex", "(IIILjava/util/function/BiFunction;)I"⟩
def RL : String := "EightOarsLaw"
abbrev cL_law : ByteArray := code
def yL_law : MethodName := ⟨RL, "law", "([I)Z"⟩
end
section
/-! THE STATE: ints, longs, changing references, lengths of arrays that were made later; by cell and place -/
abbrev St : Type := (Nat → Nat → Int32) × (Nat → Nat → Int64) × (Nat → Nat → Option Nat) × (Nat → Nat)
def sI (σ : St) (k j : Nat) (v : Int32) : St := (va_up σ.1 k (upd (σ.1 k) j v), σ.2)
def sL (σ : St) (k j : Nat) (v : Int64) : St := (σ.1, va_up σ.2.1 k (vp_updL (σ.2.1 k) j v), σ.2.2)
def sR (σ : St) (k j : Nat) (v : Option Nat) : St := (σ.1, σ.2.1, va_up σ.2.2.1 k (va_up (σ.2.2.1 k) j v), σ.2.2.2)
def sA (σ : St) (k : Nat) (f : Nat → Int32) : St := (va_up σ.1 k f, σ.2)
/-- programs: named values, guards, joins, calls -/
def nm {α ρ : Type} (e : α) (K : α → Option ρ) : Option ρ := K e
def gd {ρ : Type} (c : Prop) [Decidable c] (P : Option ρ) : Option ρ := if c then P else none
def jn {α ρ : Type} (J : α) (B : α → Option ρ) : Option ρ := B J
def bd {α ρ : Type} (f : Option (α × St)) (K : α → St → Option ρ) : Option ρ := match f with
  | none => none
  | some q => K q.1 q.2
def bdv {ρ : Type} (f : Option St) (K : St → Option ρ) : Option ρ := match f with
  | none => none
  | some q => K q
abbrev classes : List vw_C := [(RX0, TX0, 5), (RX1, TX1, 15), (RX2, TX2, 5), (RX3, TX3, 0), (RX4, TX4, 4), (RX5, TX5, 2), (RX6, TX6, 2), (RX7, TX7, 3), (RX8, TX8, 2), (RX9, TX9, 7), (RX10, TX10, 8), (RX11, TX11, 16), (RX12, TX12, 63)]
/-- how many fields an object of a class has -/
def nfd (ci : Nat) : Nat := ([5, 15, 5, 0, 4, 2, 2, 3, 2, 7, 8, 16, 63] : List Nat).getD ci 0
/-- a field's sort: 0 int, 1 long, 2 a reference that stays, 3 one that changes, 4 boolean -/
def fkd (ci j : Nat) : Nat := (([[2, 2, 2, 0, 0], [2, 2, 3, 2, 2, 2, 2, 0, 0, 2, 0, 1, 1, 1, 1], [2, 2, 2, 2, 0], [], [2, 2, 2, 0], [2, 0], [2, 0], [2, 2, 2], [2, 0], [2, 2, 0, 0, 0, 0, 0], [2, 2, 2, 2, 0, 2, 0, 0], [2, 2, 2, 2, 0, 0, 2, 2, 2, 0, 0, 2, 2, 2, 2, 2], [0, 2, 2, 0, 0, 2, 0, 2, 2, 2, 2, 0, 2, 2, 2, 0, 0, 0, 0, 0, 0, 1, 0, 0, 4, 0, 0, 0, 0, 0, 0, 2, 2, 0, 2, 2, 0, 1, 1, 1, 1, 0, 2, 2, 2, 2, 0, 2, 2, 0, 2, 2, 2, 2, 4, 0, 0, 0, 0, 2, 2, 2, 2]] : List (List Nat)).getD ci []).getD j 0
/-- tables, array classes, shapes, static references, how many cells, addresses -/
abbrev Wd : Type := va_G × (Nat → ClassId) × (Nat → Nat × Nat) × (Nat → Nat → Option Nat) × Nat × (Nat → Nat) × (Nat → Nat) × (Nat → Nat)
def wD (w : Wd) : va_G := w.1
def wC (w : Wd) : Nat → ClassId := w.2.1
def wH (w : Wd) : Nat → Nat × Nat := w.2.2.1
def wR (w : Wd) : Nat → Nat → Option Nat := w.2.2.2.1
def wN (w : Wd) : Nat := w.2.2.2.2.1
def wA (w : Wd) : Nat → Nat := w.2.2.2.2.2.1
/-- the three String constants: objects, and their rows of bytes -/
def wK (w : Wd) : Nat → Nat := w.2.2.2.2.2.2.1
def wV (w : Wd) : Nat → Nat := w.2.2.2.2.2.2.2
def fval (w : Wd) (σ : St) (ci k j : Nat) : Value := match fkd ci j with
  | 0 => .int (σ.1 k j)
  | 1 => .long (σ.2.1 k j)
  | 2 => va_rf ((wR w k j).map (wA w))
  | 3 => va_rf ((σ.2.2.1 k j).map (wA w))
  | _ => .int (σ.1 k j)
def went (w : Wd) (σ : St) (k : Nat) : va_E := match wH w k with
  | (0, ci) => .inr (ci, (List.range (nfd ci)).map (fval w σ ci k))
  | (1, n) => .inl (wC w 0, n, .inl (σ.1 k))
  | (2, n) => .inl (wC w 1, n, .inl (σ.1 k))
  | (3, n) => .inl (wC w 2, n, .inl (σ.1 k))
  | (4, n) => .inl (wC w 3, n, .inr (.inl (σ.2.1 k)))
  | (5, n) => .inl (wC w 4, n, .inr (.inr (.inr (.inr (fun i => (wR w k i).map (wA w))))))
  | (6, n) => .inl (wC w 5, n, .inr (.inr (.inr (.inr (fun i => (σ.2.2.1 k i).map (wA w))))))
  | (_, _) => .inl (wC w 0, σ.2.2.2 k, .inl (σ.1 k))
def wls (w : Wd) (σ : St) : va_W := (List.range (wN w)).map (fun k => (wA w k, went w σ k))
def wty (w : Wd) : List (ClassId × FieldType) := [(wC w 0, .int), (wC w 1, .byte), (wC w 2, .boolean), (wC w 3, .long), (wC w 4, .array .int), (wC w 5, .object RX6)]
theorem wls_get {w : Wd} {σ : St} {k : Nat} (h : k < wN w) : (wls w σ)[k]? = some (wA w k, went w σ k) := by simp [wls, h]
theorem map_set {α : Type} (f : Nat → α) (n k : Nat) (v : α) : ((List.range n).map f).set k v = (List.range n).map (fun i => if i = k then v else f i) := by
  apply List.ext_getElem?
  intro i
  rw [List.getElem?_set]
  by_cases h : k = i
  · subst h
    by_cases hn : k < n <;> simp [hn]
  · have h2 : ¬ i = k := fun z => h z.symm
    by_cases hn : i < n <;> simp [hn, h, h2]
theorem map_get {α : Type} (f : Nat → α) {n k : Nat} (h : k < n) : ((List.range n).map f)[k]? = some (f k) := by simp [h]
theorem wls_set {w : Wd} {σ σ' : St} {k : Nat} {x : va_E} (hx : went w σ' k = x) (h : ∀ i, i ≠ k → went w σ' i = went w σ i) : (wls w σ).set k (wA w k, x) = wls w σ' := by
  unfold wls
  rw [map_set]
  apply List.map_congr_left
  intro i _
  by_cases hi : i = k
  · subst hi; simp [hx]
  · simp [hi, h i hi]
theorem wls_len {w : Wd} {σ : St} : (wls w σ).length = wN w := by simp [wls]
theorem went_congr {w : Wd} {σ σ' : St} {i : Nat} (h1 : σ'.1 i = σ.1 i) (h2 : σ'.2.1 i = σ.2.1 i) (h3 : σ'.2.2.1 i = σ.2.2.1 i) (h4 : σ'.2.2.2 i = σ.2.2.2 i) : went w σ' i = went w σ i := by
  unfold went
  split <;> simp [h1, h2, h3, h4, fval]
theorem sI_ne {w : Wd} {σ : St} {k j : Nat} {v : Int32} (i : Nat) (h : i ≠ k) : went w (sI σ k j v) i = went w σ i := went_congr (by simp [sI, va_up, h]) rfl rfl rfl
theorem sA_ne {w : Wd} {σ : St} {k : Nat} {f : Nat → Int32} (i : Nat) (h : i ≠ k) : went w (sA σ k f) i = went w σ i := went_congr (by simp [sA, va_up, h]) rfl rfl rfl
theorem sL_ne {w : Wd} {σ : St} {k j : Nat} {v : Int64} (i : Nat) (h : i ≠ k) : went w (sL σ k j v) i = went w σ i := went_congr rfl (by simp [sL, va_up, h]) rfl rfl
theorem sR_ne {w : Wd} {σ : St} {k j : Nat} {v : Option Nat} (i : Nat) (h : i ≠ k) : went w (sR σ k j v) i = went w σ i := went_congr rfl rfl (by simp [sR, va_up, h]) rfl
theorem went_0 {w : Wd} {σ : St} {k ci : Nat} (h : wH w k = (0, ci)) : went w σ k = .inr (ci, (List.range (nfd ci)).map (fval w σ ci k)) := by simp [went, h]
theorem went_1 {w : Wd} {σ : St} {k n : Nat} (h : wH w k = (1, n)) : went w σ k = .inl (wC w 0, n, .inl (σ.1 k)) := by simp [went, h]
theorem went_2 {w : Wd} {σ : St} {k n : Nat} (h : wH w k = (2, n)) : went w σ k = .inl (wC w 1, n, .inl (σ.1 k)) := by simp [went, h]
theorem went_3 {w : Wd} {σ : St} {k n : Nat} (h : wH w k = (3, n)) : went w σ k = .inl (wC w 2, n, .inl (σ.1 k)) := by simp [went, h]
theorem went_4 {w : Wd} {σ : St} {k n : Nat} (h : wH w k = (4, n)) : went w σ k = .inl (wC w 3, n, .inr (.inl (σ.2.1 k))) := by simp [went, h]
theorem went_5 {w : Wd} {σ : St} {k n : Nat} (h : wH w k = (5, n)) : went w σ k = .inl (wC w 4, n, .inr (.inr (.inr (.inr (fun i => (wR w k i).map (wA w)))))) := by simp [went, h]
theorem went_6 {w : Wd} {σ : St} {k n : Nat} (h : wH w k = (6, n)) : went w σ k = .inl (wC w 5, n, .inr (.inr (.inr (.inr (fun i => (σ.2.2.1 k i).map (wA w)))))) := by simp [went, h]
theorem went_7 {w : Wd} {σ : St} {k n : Nat} (h : wH w k = (7, n)) : went w σ k = .inl (wC w 0, σ.2.2.2 k, .inl (σ.1 k)) := by simp [went, h]
/-- an object's put: its list of fields is that of the new state -/
theorem fput {w : Wd} {σ σ' : St} {ci k j : Nat} {v : Value} (hj : fval w σ' ci k j = v) (h : ∀ i, i ≠ j → fval w σ' ci k i = fval w σ ci k i) : ((List.range (nfd ci)).map (fval w σ ci k)).set j v = (List.range (nfd ci)).map (fval w σ' ci k) := by
  rw [map_set]
  apply List.map_congr_left
  intro i _
  by_cases hi : i = j
  · subst hi; simp [hj]
  · simp [hi, h i hi]
theorem sI_fv {w : Wd} {σ : St} {ci k j : Nat} {v : Int32} (i : Nat) (h : i ≠ j) : fval w (sI σ k j v) ci k i = fval w σ ci k i := by
  unfold fval; split <;> simp [sI, va_up, upd, h]
theorem sL_fv {w : Wd} {σ : St} {ci k j : Nat} {v : Int64} (i : Nat) (h : i ≠ j) : fval w (sL σ k j v) ci k i = fval w σ ci k i := by
  unfold fval; split <;> simp [sL, va_up, vp_updL, h]
theorem sR_fv {w : Wd} {σ : St} {ci k j : Nat} {v : Option Nat} (i : Nat) (h : i ≠ j) : fval w (sR σ k j v) ci k i = fval w σ ci k i := by
  unfold fval; split <;> simp [sR, va_up, h]
theorem fv_0 {w : Wd} {σ : St} {ci k j : Nat} (h : fkd ci j = 0) : fval w σ ci k j = .int (σ.1 k j) := by simp [fval, h]
theorem fv_4 {w : Wd} {σ : St} {ci k j : Nat} (h : fkd ci j = 4) : fval w σ ci k j = .int (σ.1 k j) := by simp [fval, h]
theorem fv_1 {w : Wd} {σ : St} {ci k j : Nat} (h : fkd ci j = 1) : fval w σ ci k j = .long (σ.2.1 k j) := by simp [fval, h]
theorem fv_2 {w : Wd} {σ : St} {ci k j : Nat} (h : fkd ci j = 2) : fval w σ ci k j = va_rf ((wR w k j).map (wA w)) := by simp [fval, h]
theorem fv_3 {w : Wd} {σ : St} {ci k j : Nat} (h : fkd ci j = 3) : fval w σ ci k j = va_rf ((σ.2.2.1 k j).map (wA w)) := by simp [fval, h]
theorem sI_at (σ : St) (k j : Nat) (v : Int32) : (sI σ k j v).1 k j = v := by simp [sI, va_up, upd]
theorem sL_at (σ : St) (k j : Nat) (v : Int64) : (sL σ k j v).2.1 k j = v := by simp [sL, va_up, vp_updL]
theorem sR_at (σ : St) (k j : Nat) (v : Option Nat) : (sR σ k j v).2.2.1 k j = v := by simp [sR, va_up]
theorem sI_row (σ : St) (k j : Nat) (v : Int32) : (sI σ k j v).1 k = upd (σ.1 k) j v := by simp [sI, va_up]
theorem sA_row (σ : St) (k : Nat) (f : Nat → Int32) : (sA σ k f).1 k = f := by simp [sA, va_up]
theorem sL_row (σ : St) (k j : Nat) (v : Int64) : (sL σ k j v).2.1 k = vp_updL (σ.2.1 k) j v := by simp [sL, va_up]
theorem sR_row (σ : St) (k j : Nat) (v : Option Nat) : (sR σ k j v).2.2.1 k = va_up (σ.2.2.1 k) j v := by simp [sR, va_up]
/-! THE JUDGEMENT: the machine at a frame does what the program says -/
abbrev Mc : Type := Program × Launch × Env × Room × State × MethodId × Array Value × List Frame × Method × Code × Nat × Nat
def xs_ (X : Mc) : State := X.2.2.2.2.1
def xm_ (X : Mc) : MethodId := X.2.2.2.2.2.1
def WM (X : Mc) (H : Heap) (locs : List Loc) (Q : State → Prop) (g : JFrame) : Prop := W X.1 X.2.1 X.2.2.1 X.2.2.2.1 X.2.2.2.2.1 X.2.2.2.2.2.1 X.2.2.2.2.2.2.1 X.2.2.2.2.2.2.2.1 X.2.2.2.2.2.2.2.2.1 X.2.2.2.2.2.2.2.2.2.1 H locs X.2.2.2.2.2.2.2.2.2.2.1 X.2.2.2.2.2.2.2.2.2.2.2 Q g
def HWd (w : Wd) (S : Nat → Nat × Nat) (Rf : Nat → Nat → Option Nat) (N : Nat) : Prop := wH w = S ∧ wR w = Rf ∧ N ≤ wN w
theorem HWd.sh {w : Wd} {S : Nat → Nat × Nat} {Rf : Nat → Nat → Option Nat} {N : Nat} (h : HWd w S Rf N) {k : Nat} {q : Nat × Nat} (e : S k = q) : wH w k = q := by rw [h.1]; exact e
theorem HWd.rf {w : Wd} {S : Nat → Nat × Nat} {Rf : Nat → Nat → Option Nat} {N : Nat} (h : HWd w S Rf N) : wR w = Rf := h.2.1
theorem HWd.n {w : Wd} {S : Nat → Nat × Nat} {Rf : Nat → Nat → Option Nat} {N : Nat} (h : HWd w S Rf N) {k : Nat} (e : Nat.blt k N = true) : k < wN w := Nat.lt_of_lt_of_le (Nat.le_of_ble_eq_true e) h.2.2
def ClsOk (ci : Nat) (C : String) (T : u_T) (n : Nat) (ty : Nat → FieldType) : Prop := classes[ci]? = some (C, T, n) ∧ (∀ w ∈ u_ws C T n, w ∈ gw) ∧ nfd ci = n ∧ (∀ k, k < n → parseFieldDescriptor (T k).2.2.1 = some (ty k)) ∧ (∀ a, a < n → ∀ b, b < n → a ≠ b → (T a).2.1 ≠ (T b).2.1)
theorem ClsOk.cl {ci : Nat} {C : String} {T : u_T} {n : Nat} {ty : Nat → FieldType} (h : ClsOk ci C T n ty) : classes[ci]? = some (C, T, n) := h.1
theorem ClsOk.ws {ci : Nat} {C : String} {T : u_T} {n : Nat} {ty : Nat → FieldType} (h : ClsOk ci C T n ty) : ∀ w ∈ u_ws C T n, w ∈ gw := h.2.1
theorem ClsOk.nf {ci : Nat} {C : String} {T : u_T} {n : Nat} {ty : Nat → FieldType} (h : ClsOk ci C T n ty) : nfd ci = n := h.2.2.1
theorem ClsOk.ty {ci : Nat} {C : String} {T : u_T} {n : Nat} {ty : Nat → FieldType} (h : ClsOk ci C T n ty) : ∀ k, k < n → parseFieldDescriptor (T k).2.2.1 = some (ty k) := h.2.2.2.1
theorem ClsOk.nm {ci : Nat} {C : String} {T : u_T} {n : Nat} {ty : Nat → FieldType} (h : ClsOk ci C T n ty) : ∀ a, a < n → ∀ b, b < n → a ≠ b → (T a).2.1 ≠ (T b).2.1 := h.2.2.2.2
def slen : List Nat := [56, 8, 6]
def sbyt : List (List Int32) := [[102, 111, 114, 99, 101, 32, 115, 116, 111, 114, 101, 32, 115, 101, 97, 116, 32, 103, 101, 97, 114, 32, 115, 112, 101, 101, 100, 32, 115, 116, 114, 111, 107, 101, 32, 103, 105, 118, 101, 32, 100, 114, 97, 103, 32, 111, 114, 32, 97, 110, 100, 32, 110, 111, 116, 32], [40, 41, 59, 43, 45, 42, 60, 61], [114, 115, 120, 108, 119, 101]]
/-- what stands outside the world and stays: the String constants, two statics of the JDK -/
def Sx (w : Wd) (A : Nat → Prop) (U : State) (H : Heap) : Prop := vk_S 3 slen sbyt (wK w) (wV w) A U H ∧ (vk_R RX9 86 "force store seat gear speed stroke give drag or and not " (wK w 0) U ∧ vk_R RX9 79 "();+-*<=" (wK w 1) U ∧ vk_R RX4 58 "rsxlwe" (wK w 2) U) ∧ va_Z "java/lang/String" "COMPACT_STRINGS" "Z" (.int 1) A U H ∧ va_Zq "jdk/internal/util/Preconditions" "SIOOBE_FORMATTER" "Ljava/util/function/BiFunction;" A U H
theorem Sx.next {w : Wd} {A B : Nat → Prop} {s U : State} {H : Heap} {locs : List Loc} (h : Sx w A s s.heap) (hS : va_S A s.heap H locs) (hU : U.heap = H) (hW : s.WarmedH U.vm) (hAB : ∀ q, B q → A q) : Sx w B U U.heap := by
  rw [hU]
  obtain ⟨h1, ⟨h2, h3, h4⟩, h5, h6⟩ := h
  exact ⟨((h1.kept hS.2.1).moved hW.alike).narrow hAB, ⟨h2.warm hW, h3.warm hW, h4.warm hW⟩, ((h5.kept hS.2.1).moved hW.alike).narrow hAB, ((h6.kept hS.2.1).moved hW.alike).narrow hAB⟩
theorem Sx.same {w : Wd} {A : Nat → Prop} {u U : State} (hv : U.vm = u.vm) (hh : U.heap = u.heap) (h : Sx w A u u.heap) : Sx w A U U.heap := by
  rw [hh]
  have ha : u.vm.Alike U.vm := by rw [hv]; exact Vm.Alike.refl u.vm
  obtain ⟨h1, ⟨h2, h3, h4⟩, h5, h6⟩ := h
  exact ⟨h1.moved ha, ⟨h2.same hv, h3.same hv, h4.same hv⟩, h5.moved ha, h6.moved ha⟩
def Cok (X : Mc) (w : Wd) (A : Nat → Prop) (own : String) (cc : ByteArray) (nL fr lo : Nat) (S : Nat → Nat × Nat) (Rf : Nat → Nat → Option Nat) (N : Nat) : Prop :=
  CallFix X.1 X.2.2.2.2.2.1 X.2.2.2.2.2.2.2.2.2.1 cc nL X.2.2.2.2.1 X.2.2.2.2.2.2.1 gw own ∧ va_K (wD w) classes (wty w) X.2.2.2.2.1 ∧ (∀ q : Nat, X.2.2.2.2.1.heap.size ≤ q → A q) ∧ X.2.2.2.2.2.2.2.2.1.locks = false ∧ (∀ σ, va_D A (wls w σ)) ∧ (fr ≤ X.2.2.2.1.frames ∧ lo ≤ X.2.2.2.1.locals ∧ X.2.2.2.2.2.2.2.2.2.2.1 ≤ X.2.2.2.1.cells ∧ X.2.2.2.2.2.2.2.2.2.2.2 ≤ X.2.2.2.1.slots) ∧ HWd w S Rf N ∧ Sx w A X.2.2.2.2.1 X.2.2.2.2.1.heap
theorem Cok.n {X : Mc} {w : Wd} {A : Nat → Prop} {own : String} {cc : ByteArray} {nL fr lo : Nat} {S : Nat → Nat × Nat} {Rf : Nat → Nat → Option Nat} {N : Nat} (h : Cok X w A own cc nL fr lo S Rf N) {k : Nat} (e : Nat.blt k N = true) : k < wN w := h.2.2.2.2.2.2.1.n e
theorem Cok.w {X : Mc} {w : Wd} {A : Nat → Prop} {own : String} {cc : ByteArray} {nL fr lo : Nat} {S : Nat → Nat × Nat} {Rf : Nat → Nat → Option Nat} {N : Nat} (h : Cok X w A own cc nL fr lo S Rf N) : HWd w S Rf N := h.2.2.2.2.2.2.1
def RF (X : Mc) (w : Wd) (A : Nat → Prop) (nL : Nat) {ρ : Type} (Qf : ρ → State → Prop) (P : Option ρ) (pc : Nat) (lv : List (Nat × Value)) (st : List Value) (σ : St) : Prop :=
  ∀ res, P = some res → ∀ (H : Heap) (locs : List Loc) (ls : Array Slot), va_P (wD w) classes (wls w σ) H → va_S A (xs_ X).heap H locs → lv_has ls nL lv → WM X H locs (Qf res) (F0 (xm_ X) pc ls st)
theorem r_none {X : Mc} {w : Wd} {A : Nat → Prop} {nL : Nat} {ρ : Type} {Qf : ρ → State → Prop} {pc : Nat} {lv : List (Nat × Value)} {st : List Value} {σ : St} : RF X w A nL Qf none pc lv st σ := fun _ h => by cases h
end
section
section RFROWS
variable {X : Mc} {w : Wd} {A : Nat → Prop} {own : String} {cc : ByteArray} {nL fr lo : Nat} {S : Nat → Nat × Nat} {Rf : Nat → Nat → Option Nat} {N : Nat} {ρ : Type} {Qf : ρ → State → Prop} {P P' : Option ρ} {pc : Nat} {lv lv' : List (Nat × Value)} {st : List Value} {σ : St}
theorem r_iconst (hC : Cok X w A own cc nL fr lo S Rf N) {n : Int} {v : Int32} (d : decode cc pc = .ok (.iconst n, 1)) (hv : Int32.ofInt n = v) (k : RF X w A nL Qf P (pc + 1) lv (.int v :: st) σ) : RF X w A nL Qf P pc lv st σ := by
  obtain ⟨p, l, e, R, s, m, args, below, meth, c, cells, slots⟩ := X
  obtain ⟨⟨hx, hb, hml, hown, hts⟩, hK, hA, hlk, hD, hR, hW, hX⟩ := hC
  dsimp only at hx hb hml hown hts hK hA hlk hR
  intro res hr H locs ls hP hS hl
  show W p l e R s m args below meth c H locs cells slots (Qf res) (F0 m pc ls _)
  exact lv_iconst hx hb d hv (k res hr H locs ls hP hS hl)

theorem r_bipush (hC : Cok X w A own cc nL fr lo S Rf N) {n : Int} {v : Int32} (d : decode cc pc = .ok (.bipush n, 2)) (hv : (Int8.ofInt n).toInt32 = v) (k : RF X w A nL Qf P (pc + 2) lv (.int v :: st) σ) : RF X w A nL Qf P pc lv st σ := by
  obtain ⟨p, l, e, R, s, m, args, below, meth, c, cells, slots⟩ := X
  obtain ⟨⟨hx, hb, hml, hown, hts⟩, hK, hA, hlk, hD, hR, hW, hX⟩ := hC
  dsimp only at hx hb hml hown hts hK hA hlk hR
  intro res hr H locs ls hP hS hl
  show W p l e R s m args below meth c H locs cells slots (Qf res) (F0 m pc ls _)
  exact lv_bipush hx hb d hv (k res hr H locs ls hP hS hl)

theorem r_sipush (hC : Cok X w A own cc nL fr lo S Rf N) {n : Int} {v : Int32} (d : decode cc pc = .ok (.sipush n, 3)) (hv : (Int16.ofInt n).toInt32 = v) (k : RF X w A nL Qf P (pc + 3) lv (.int v :: st) σ) : RF X w A nL Qf P pc lv st σ := by
  obtain ⟨p, l, e, R, s, m, args, below, meth, c, cells, slots⟩ := X
  obtain ⟨⟨hx, hb, hml, hown, hts⟩, hK, hA, hlk, hD, hR, hW, hX⟩ := hC
  dsimp only at hx hb hml hown hts hK hA hlk hR
  intro res hr H locs ls hP hS hl
  show W p l e R s m args below meth c H locs cells slots (Qf res) (F0 m pc ls _)
  exact lv_sipush hx hb d hv (k res hr H locs ls hP hS hl)

theorem r_lconst (hC : Cok X w A own cc nL fr lo S Rf N) {n : Fin 2} {v : Int64} (d : decode cc pc = .ok (.lconst n, 1)) (hv : Int64.ofNat (n : Nat) = v) (k : RF X w A nL Qf P (pc + 1) lv (.long v :: st) σ) : RF X w A nL Qf P pc lv st σ := by
  obtain ⟨p, l, e, R, s, m, args, below, meth, c, cells, slots⟩ := X
  obtain ⟨⟨hx, hb, hml, hown, hts⟩, hK, hA, hlk, hD, hR, hW, hX⟩ := hC
  dsimp only at hx hb hml hown hts hK hA hlk hR
  intro res hr H locs ls hP hS hl
  show W p l e R s m args below meth c H locs cells slots (Qf res) (F0 m pc ls _)
  exact lv_lconst hx hb d hv (k res hr H locs ls hP hS hl)

theorem r_ldc (hC : Cok X w A own cc nL fr lo S Rf N) {idx : Nat} {v : Int32} (lk : Cond.constant own idx v ∈ gw) (d : decode cc pc = .ok (.ldc idx, 2)) (k : RF X w A nL Qf P (pc + 2) lv (.int v :: st) σ) : RF X w A nL Qf P pc lv st σ := by
  obtain ⟨p, l, e, R, s, m, args, below, meth, c, cells, slots⟩ := X
  obtain ⟨⟨hx, hb, hml, hown, hts⟩, hK, hA, hlk, hD, hR, hW, hX⟩ := hC
  dsimp only at hx hb hml hown hts hK hA hlk hR
  intro res hr H locs ls hP hS hl
  show W p l e R s m args below meth c H locs cells slots (Qf res) (F0 m pc ls _)
  exact lv_ldc hx hb hown (hts _ lk) d (k res hr H locs ls hP hS hl)

theorem r_ldc2 (hC : Cok X w A own cc nL fr lo S Rf N) {idx : Nat} {v : Int64} (lk : Cond.constantLong own idx v ∈ gw) (d : decode cc pc = .ok (.ldc2_w idx, 3)) (k : RF X w A nL Qf P (pc + 3) lv (.long v :: st) σ) : RF X w A nL Qf P pc lv st σ := by
  obtain ⟨p, l, e, R, s, m, args, below, meth, c, cells, slots⟩ := X
  obtain ⟨⟨hx, hb, hml, hown, hts⟩, hK, hA, hlk, hD, hR, hW, hX⟩ := hC
  dsimp only at hx hb hml hown hts hK hA hlk hR
  intro res hr H locs ls hP hS hl
  show W p l e R s m args below meth c H locs cells slots (Qf res) (F0 m pc ls _)
  exact lv_ldc2 hx hb hown (hts _ lk) d (k res hr H locs ls hP hS hl)

theorem r_iload_n (hC : Cok X w A own cc nL fr lo S Rf N) {n : Fin 4} {i : Nat} {v : Int32} (d : decode cc pc = .ok (.iload_n n, 1)) (hi : (n : Nat) = i) (q : Nat) (hq : lv[q]? = some (i, .int v)) (k : RF X w A nL Qf P (pc + 1) lv (.int v :: st) σ) : RF X w A nL Qf P pc lv st σ := by
  obtain ⟨p, l, e, R, s, m, args, below, meth, c, cells, slots⟩ := X
  obtain ⟨⟨hx, hb, hml, hown, hts⟩, hK, hA, hlk, hD, hR, hW, hX⟩ := hC
  dsimp only at hx hb hml hown hts hK hA hlk hR
  intro res hr H locs ls hP hS hl
  show W p l e R s m args below meth c H locs cells slots (Qf res) (F0 m pc ls _)
  exact lv_iload_n hx hb d hi (lv_at hl q hq) (k res hr H locs ls hP hS hl)

theorem r_iload (hC : Cok X w A own cc nL fr lo S Rf N) {i : Nat} {v : Int32} (d : decode cc pc = .ok (.iload i, 2)) (q : Nat) (hq : lv[q]? = some (i, .int v)) (k : RF X w A nL Qf P (pc + 2) lv (.int v :: st) σ) : RF X w A nL Qf P pc lv st σ := by
  obtain ⟨p, l, e, R, s, m, args, below, meth, c, cells, slots⟩ := X
  obtain ⟨⟨hx, hb, hml, hown, hts⟩, hK, hA, hlk, hD, hR, hW, hX⟩ := hC
  dsimp only at hx hb hml hown hts hK hA hlk hR
  intro res hr H locs ls hP hS hl
  show W p l e R s m args below meth c H locs cells slots (Qf res) (F0 m pc ls _)
  exact lv_iload hx hb d (lv_at hl q hq) (k res hr H locs ls hP hS hl)

theorem r_istore_n (hC : Cok X w A own cc nL fr lo S Rf N) {n : Fin 4} {i : Nat} {v : Int32} (d : decode cc pc = .ok (.istore_n n, 1)) (hi : (n : Nat) = i) (hn : i < nL) (hq : (i, Value.int v) :: lv.filter (fun q => !(q.1 == i) && !(q.1 + 1 == i && q.2.category == 2)) = lv') (k : RF X w A nL Qf P (pc + 1) lv' st σ) : RF X w A nL Qf P pc lv (.int v :: st) σ := by
  obtain ⟨p, l, e, R, s, m, args, below, meth, c, cells, slots⟩ := X
  obtain ⟨⟨hx, hb, hml, hown, hts⟩, hK, hA, hlk, hD, hR, hW, hX⟩ := hC
  dsimp only at hx hb hml hown hts hK hA hlk hR
  intro res hr H locs ls hP hS hl
  show W p l e R s m args below meth c H locs cells slots (Qf res) (F0 m pc ls _)
  exact lv_istore_n hx hb d hi hl hn hq (fun ls hl => k res hr H locs ls hP hS hl)

theorem r_istore (hC : Cok X w A own cc nL fr lo S Rf N) {i : Nat} {v : Int32} (d : decode cc pc = .ok (.istore i, 2)) (hn : i < nL) (hq : (i, Value.int v) :: lv.filter (fun q => !(q.1 == i) && !(q.1 + 1 == i && q.2.category == 2)) = lv') (k : RF X w A nL Qf P (pc + 2) lv' st σ) : RF X w A nL Qf P pc lv (.int v :: st) σ := by
  obtain ⟨p, l, e, R, s, m, args, below, meth, c, cells, slots⟩ := X
  obtain ⟨⟨hx, hb, hml, hown, hts⟩, hK, hA, hlk, hD, hR, hW, hX⟩ := hC
  dsimp only at hx hb hml hown hts hK hA hlk hR
  intro res hr H locs ls hP hS hl
  show W p l e R s m args below meth c H locs cells slots (Qf res) (F0 m pc ls _)
  exact lv_istore hx hb d hl hn hq (fun ls hl => k res hr H locs ls hP hS hl)

theorem r_lload_n (hC : Cok X w A own cc nL fr lo S Rf N) {n : Fin 4} {i : Nat} {v : Int64} (d : decode cc pc = .ok (.lload_n n, 1)) (hi : (n : Nat) = i) (q : Nat) (hq : lv[q]? = some (i, .long v)) (k : RF X w A nL Qf P (pc + 1) lv (.long v :: st) σ) : RF X w A nL Qf P pc lv st σ := by
  obtain ⟨p, l, e, R, s, m, args, below, meth, c, cells, slots⟩ := X
  obtain ⟨⟨hx, hb, hml, hown, hts⟩, hK, hA, hlk, hD, hR, hW, hX⟩ := hC
  dsimp only at hx hb hml hown hts hK hA hlk hR
  intro res hr H locs ls hP hS hl
  show W p l e R s m args below meth c H locs cells slots (Qf res) (F0 m pc ls _)
  exact lv_lload_n hx hb d hi (lv_at hl q hq) (k res hr H locs ls hP hS hl)

theorem r_lload (hC : Cok X w A own cc nL fr lo S Rf N) {i : Nat} {v : Int64} (d : decode cc pc = .ok (.lload i, 2)) (q : Nat) (hq : lv[q]? = some (i, .long v)) (k : RF X w A nL Qf P (pc + 2) lv (.long v :: st) σ) : RF X w A nL Qf P pc lv st σ := by
  obtain ⟨p, l, e, R, s, m, args, below, meth, c, cells, slots⟩ := X
  obtain ⟨⟨hx, hb, hml, hown, hts⟩, hK, hA, hlk, hD, hR, hW, hX⟩ := hC
  dsimp only at hx hb hml hown hts hK hA hlk hR
  intro res hr H locs ls hP hS hl
  show W p l e R s m args below meth c H locs cells slots (Qf res) (F0 m pc ls _)
  exact lv_lload hx hb d (lv_at hl q hq) (k res hr H locs ls hP hS hl)

theorem r_lstore_n (hC : Cok X w A own cc nL fr lo S Rf N) {n : Fin 4} {i : Nat} {v : Int64} (d : decode cc pc = .ok (.lstore_n n, 1)) (hi : (n : Nat) = i) (hn : i + 1 < nL) (hq : (i, Value.long v) :: lv.filter (fun q => !(q.1 == i) && (!(q.1 == i + 1) && !(q.1 + 1 == i && q.2.category == 2))) = lv') (k : RF X w A nL Qf P (pc + 1) lv' st σ) : RF X w A nL Qf P pc lv (.long v :: st) σ := by
  obtain ⟨p, l, e, R, s, m, args, below, meth, c, cells, slots⟩ := X
  obtain ⟨⟨hx, hb, hml, hown, hts⟩, hK, hA, hlk, hD, hR, hW, hX⟩ := hC
  dsimp only at hx hb hml hown hts hK hA hlk hR
  intro res hr H locs ls hP hS hl
  show W p l e R s m args below meth c H locs cells slots (Qf res) (F0 m pc ls _)
  exact lv_lstore_n hx hb d hi hl hn hq (fun ls hl => k res hr H locs ls hP hS hl)

theorem r_lstore (hC : Cok X w A own cc nL fr lo S Rf N) {i : Nat} {v : Int64} (d : decode cc pc = .ok (.lstore i, 2)) (hn : i + 1 < nL) (hq : (i, Value.long v) :: lv.filter (fun q => !(q.1 == i) && (!(q.1 == i + 1) && !(q.1 + 1 == i && q.2.category == 2))) = lv') (k : RF X w A nL Qf P (pc + 2) lv' st σ) : RF X w A nL Qf P pc lv (.long v :: st) σ := by
  obtain ⟨p, l, e, R, s, m, args, below, meth, c, cells, slots⟩ := X
  obtain ⟨⟨hx, hb, hml, hown, hts⟩, hK, hA, hlk, hD, hR, hW, hX⟩ := hC
  dsimp only at hx hb hml hown hts hK hA hlk hR
  intro res hr H locs ls hP hS hl
  show W p l e R s m args below meth c H locs cells slots (Qf res) (F0 m pc ls _)
  exact lv_lstore hx hb d hl hn hq (fun ls hl => k res hr H locs ls hP hS hl)

theorem r_aload_n (hC : Cok X w A own cc nL fr lo S Rf N) {n : Fin 4} {i : Nat} {v : Nat} (d : decode cc pc = .ok (.aload_n n, 1)) (hi : (n : Nat) = i) (q : Nat) (hq : lv[q]? = some (i, .ref v)) (k : RF X w A nL Qf P (pc + 1) lv (.ref v :: st) σ) : RF X w A nL Qf P pc lv st σ := by
  obtain ⟨p, l, e, R, s, m, args, below, meth, c, cells, slots⟩ := X
  obtain ⟨⟨hx, hb, hml, hown, hts⟩, hK, hA, hlk, hD, hR, hW, hX⟩ := hC
  dsimp only at hx hb hml hown hts hK hA hlk hR
  intro res hr H locs ls hP hS hl
  show W p l e R s m args below meth c H locs cells slots (Qf res) (F0 m pc ls _)
  exact lv_aload_n hx hb d hi (lv_at hl q hq) (k res hr H locs ls hP hS hl)

theorem r_aload (hC : Cok X w A own cc nL fr lo S Rf N) {i : Nat} {v : Nat} (d : decode cc pc = .ok (.aload i, 2)) (q : Nat) (hq : lv[q]? = some (i, .ref v)) (k : RF X w A nL Qf P (pc + 2) lv (.ref v :: st) σ) : RF X w A nL Qf P pc lv st σ := by
  obtain ⟨p, l, e, R, s, m, args, below, meth, c, cells, slots⟩ := X
  obtain ⟨⟨hx, hb, hml, hown, hts⟩, hK, hA, hlk, hD, hR, hW, hX⟩ := hC
  dsimp only at hx hb hml hown hts hK hA hlk hR
  intro res hr H locs ls hP hS hl
  show W p l e R s m args below meth c H locs cells slots (Qf res) (F0 m pc ls _)
  exact lv_aload hx hb d (lv_at hl q hq) (k res hr H locs ls hP hS hl)

theorem r_astore_n (hC : Cok X w A own cc nL fr lo S Rf N) {n : Fin 4} {i : Nat} {v : Nat} (d : decode cc pc = .ok (.astore_n n, 1)) (hi : (n : Nat) = i) (hn : i < nL) (hq : (i, Value.ref v) :: lv.filter (fun q => !(q.1 == i) && !(q.1 + 1 == i && q.2.category == 2)) = lv') (k : RF X w A nL Qf P (pc + 1) lv' st σ) : RF X w A nL Qf P pc lv (.ref v :: st) σ := by
  obtain ⟨p, l, e, R, s, m, args, below, meth, c, cells, slots⟩ := X
  obtain ⟨⟨hx, hb, hml, hown, hts⟩, hK, hA, hlk, hD, hR, hW, hX⟩ := hC
  dsimp only at hx hb hml hown hts hK hA hlk hR
  intro res hr H locs ls hP hS hl
  show W p l e R s m args below meth c H locs cells slots (Qf res) (F0 m pc ls _)
  exact lv_astore_n hx hb d hi hl hn hq (fun ls hl => k res hr H locs ls hP hS hl)

theorem r_astore (hC : Cok X w A own cc nL fr lo S Rf N) {i : Nat} {v : Nat} (d : decode cc pc = .ok (.astore i, 2)) (hn : i < nL) (hq : (i, Value.ref v) :: lv.filter (fun q => !(q.1 == i) && !(q.1 + 1 == i && q.2.category == 2)) = lv') (k : RF X w A nL Qf P (pc + 2) lv' st σ) : RF X w A nL Qf P pc lv (.ref v :: st) σ := by
  obtain ⟨p, l, e, R, s, m, args, below, meth, c, cells, slots⟩ := X
  obtain ⟨⟨hx, hb, hml, hown, hts⟩, hK, hA, hlk, hD, hR, hW, hX⟩ := hC
  dsimp only at hx hb hml hown hts hK hA hlk hR
  intro res hr H locs ls hP hS hl
  show W p l e R s m args below meth c H locs cells slots (Qf res) (F0 m pc ls _)
  exact lv_astore hx hb d hl hn hq (fun ls hl => k res hr H locs ls hP hS hl)

theorem r_iinc (hC : Cok X w A own cc nL fr lo S Rf N) {i : Nat} {n : Int} {x v : Int32} (d : decode cc pc = .ok (.iinc i n, 3)) (q : Nat) (hq : lv[q]? = some (i, .int x)) (hv : x + Int32.ofInt n = v) (hn : i < nL) (hl' : (i, Value.int v) :: lv.filter (fun q => !(q.1 == i) && !(q.1 + 1 == i && q.2.category == 2)) = lv') (k : RF X w A nL Qf P (pc + 3) lv' st σ) : RF X w A nL Qf P pc lv st σ := by
  obtain ⟨p, l, e, R, s, m, args, below, meth, c, cells, slots⟩ := X
  obtain ⟨⟨hx, hb, hml, hown, hts⟩, hK, hA, hlk, hD, hR, hW, hX⟩ := hC
  dsimp only at hx hb hml hown hts hK hA hlk hR
  intro res hr H locs ls hP hS hl
  show W p l e R s m args below meth c H locs cells slots (Qf res) (F0 m pc ls _)
  exact lv_iinc hx hb d hl hq hv hn hl' (fun ls hl => k res hr H locs ls hP hS hl)

theorem r_iadd (hC : Cok X w A own cc nL fr lo S Rf N) {x y : Int32} (d : decode cc pc = .ok (.iadd, 1)) (k : RF X w A nL Qf P (pc + 1) lv (.int (x + y) :: st) σ) : RF X w A nL Qf P pc lv (.int y :: .int x :: st) σ := by
  obtain ⟨p, l, e, R, s, m, args, below, meth, c, cells, slots⟩ := X
  obtain ⟨⟨hx, hb, hml, hown, hts⟩, hK, hA, hlk, hD, hR, hW, hX⟩ := hC
  dsimp only at hx hb hml hown hts hK hA hlk hR
  intro res hr H locs ls hP hS hl
  show W p l e R s m args below meth c H locs cells slots (Qf res) (F0 m pc ls _)
  exact lv_iadd hx hb d (k res hr H locs ls hP hS hl)

theorem r_isub (hC : Cok X w A own cc nL fr lo S Rf N) {x y : Int32} (d : decode cc pc = .ok (.isub, 1)) (k : RF X w A nL Qf P (pc + 1) lv (.int (x - y) :: st) σ) : RF X w A nL Qf P pc lv (.int y :: .int x :: st) σ := by
  obtain ⟨p, l, e, R, s, m, args, below, meth, c, cells, slots⟩ := X
  obtain ⟨⟨hx, hb, hml, hown, hts⟩, hK, hA, hlk, hD, hR, hW, hX⟩ := hC
  dsimp only at hx hb hml hown hts hK hA hlk hR
  intro res hr H locs ls hP hS hl
  show W p l e R s m args below meth c H locs cells slots (Qf res) (F0 m pc ls _)
  exact lv_isub hx hb d (k res hr H locs ls hP hS hl)

theorem r_imul (hC : Cok X w A own cc nL fr lo S Rf N) {x y : Int32} (d : decode cc pc = .ok (.imul, 1)) (k : RF X w A nL Qf P (pc + 1) lv (.int (x * y) :: st) σ) : RF X w A nL Qf P pc lv (.int y :: .int x :: st) σ := by
  obtain ⟨p, l, e, R, s, m, args, below, meth, c, cells, slots⟩ := X
  obtain ⟨⟨hx, hb, hml, hown, hts⟩, hK, hA, hlk, hD, hR, hW, hX⟩ := hC
  dsimp only at hx hb hml hown hts hK hA hlk hR
  intro res hr H locs ls hP hS hl
  show W p l e R s m args below meth c H locs cells slots (Qf res) (F0 m pc ls _)
  exact lv_imul hx hb d (k res hr H locs ls hP hS hl)

theorem r_iand (hC : Cok X w A own cc nL fr lo S Rf N) {x y : Int32} (d : decode cc pc = .ok (.iand, 1)) (k : RF X w A nL Qf P (pc + 1) lv (.int (x &&& y) :: st) σ) : RF X w A nL Qf P pc lv (.int y :: .int x :: st) σ := by
  obtain ⟨p, l, e, R, s, m, args, below, meth, c, cells, slots⟩ := X
  obtain ⟨⟨hx, hb, hml, hown, hts⟩, hK, hA, hlk, hD, hR, hW, hX⟩ := hC
  dsimp only at hx hb hml hown hts hK hA hlk hR
  intro res hr H locs ls hP hS hl
  show W p l e R s m args below meth c H locs cells slots (Qf res) (F0 m pc ls _)
  exact lv_iand hx hb d (k res hr H locs ls hP hS hl)

theorem r_ior (hC : Cok X w A own cc nL fr lo S Rf N) {x y : Int32} (d : decode cc pc = .ok (.ior, 1)) (k : RF X w A nL Qf P (pc + 1) lv (.int (x ||| y) :: st) σ) : RF X w A nL Qf P pc lv (.int y :: .int x :: st) σ := by
  obtain ⟨p, l, e, R, s, m, args, below, meth, c, cells, slots⟩ := X
  obtain ⟨⟨hx, hb, hml, hown, hts⟩, hK, hA, hlk, hD, hR, hW, hX⟩ := hC
  dsimp only at hx hb hml hown hts hK hA hlk hR
  intro res hr H locs ls hP hS hl
  show W p l e R s m args below meth c H locs cells slots (Qf res) (F0 m pc ls _)
  exact lv_ior hx hb d (k res hr H locs ls hP hS hl)

theorem r_ixor (hC : Cok X w A own cc nL fr lo S Rf N) {x y : Int32} (d : decode cc pc = .ok (.ixor, 1)) (k : RF X w A nL Qf P (pc + 1) lv (.int (x ^^^ y) :: st) σ) : RF X w A nL Qf P pc lv (.int y :: .int x :: st) σ := by
  obtain ⟨p, l, e, R, s, m, args, below, meth, c, cells, slots⟩ := X
  obtain ⟨⟨hx, hb, hml, hown, hts⟩, hK, hA, hlk, hD, hR, hW, hX⟩ := hC
  dsimp only at hx hb hml hown hts hK hA hlk hR
  intro res hr H locs ls hP hS hl
  show W p l e R s m args below meth c H locs cells slots (Qf res) (F0 m pc ls _)
  exact lv_ixor hx hb d (k res hr H locs ls hP hS hl)

theorem r_ishl (hC : Cok X w A own cc nL fr lo S Rf N) {x y : Int32} (d : decode cc pc = .ok (.ishl, 1)) (k : RF X w A nL Qf P (pc + 1) lv (.int (x <<< (y &&& 31)) :: st) σ) : RF X w A nL Qf P pc lv (.int y :: .int x :: st) σ := by
  obtain ⟨p, l, e, R, s, m, args, below, meth, c, cells, slots⟩ := X
  obtain ⟨⟨hx, hb, hml, hown, hts⟩, hK, hA, hlk, hD, hR, hW, hX⟩ := hC
  dsimp only at hx hb hml hown hts hK hA hlk hR
  intro res hr H locs ls hP hS hl
  show W p l e R s m args below meth c H locs cells slots (Qf res) (F0 m pc ls _)
  exact lv_ishl hx hb d (k res hr H locs ls hP hS hl)

theorem r_ishr (hC : Cok X w A own cc nL fr lo S Rf N) {x y : Int32} (d : decode cc pc = .ok (.ishr, 1)) (k : RF X w A nL Qf P (pc + 1) lv (.int (x >>> (y &&& 31)) :: st) σ) : RF X w A nL Qf P pc lv (.int y :: .int x :: st) σ := by
  obtain ⟨p, l, e, R, s, m, args, below, meth, c, cells, slots⟩ := X
  obtain ⟨⟨hx, hb, hml, hown, hts⟩, hK, hA, hlk, hD, hR, hW, hX⟩ := hC
  dsimp only at hx hb hml hown hts hK hA hlk hR
  intro res hr H locs ls hP hS hl
  show W p l e R s m args below meth c H locs cells slots (Qf res) (F0 m pc ls _)
  exact lv_ishr hx hb d (k res hr H locs ls hP hS hl)

theorem r_ladd (hC : Cok X w A own cc nL fr lo S Rf N) {x y : Int64} (d : decode cc pc = .ok (.ladd, 1)) (k : RF X w A nL Qf P (pc + 1) lv (.long (x + y) :: st) σ) : RF X w A nL Qf P pc lv (.long y :: .long x :: st) σ := by
  obtain ⟨p, l, e, R, s, m, args, below, meth, c, cells, slots⟩ := X
  obtain ⟨⟨hx, hb, hml, hown, hts⟩, hK, hA, hlk, hD, hR, hW, hX⟩ := hC
  dsimp only at hx hb hml hown hts hK hA hlk hR
  intro res hr H locs ls hP hS hl
  show W p l e R s m args below meth c H locs cells slots (Qf res) (F0 m pc ls _)
  exact lv_ladd hx hb d (k res hr H locs ls hP hS hl)

theorem r_lsub (hC : Cok X w A own cc nL fr lo S Rf N) {x y : Int64} (d : decode cc pc = .ok (.lsub, 1)) (k : RF X w A nL Qf P (pc + 1) lv (.long (x - y) :: st) σ) : RF X w A nL Qf P pc lv (.long y :: .long x :: st) σ := by
  obtain ⟨p, l, e, R, s, m, args, below, meth, c, cells, slots⟩ := X
  obtain ⟨⟨hx, hb, hml, hown, hts⟩, hK, hA, hlk, hD, hR, hW, hX⟩ := hC
  dsimp only at hx hb hml hown hts hK hA hlk hR
  intro res hr H locs ls hP hS hl
  show W p l e R s m args below meth c H locs cells slots (Qf res) (F0 m pc ls _)
  exact lv_lsub hx hb d (k res hr H locs ls hP hS hl)

theorem r_lmul (hC : Cok X w A own cc nL fr lo S Rf N) {x y : Int64} (d : decode cc pc = .ok (.lmul, 1)) (k : RF X w A nL Qf P (pc + 1) lv (.long (x * y) :: st) σ) : RF X w A nL Qf P pc lv (.long y :: .long x :: st) σ := by
  obtain ⟨p, l, e, R, s, m, args, below, meth, c, cells, slots⟩ := X
  obtain ⟨⟨hx, hb, hml, hown, hts⟩, hK, hA, hlk, hD, hR, hW, hX⟩ := hC
  dsimp only at hx hb hml hown hts hK hA hlk hR
  intro res hr H locs ls hP hS hl
  show W p l e R s m args below meth c H locs cells slots (Qf res) (F0 m pc ls _)
  exact lv_lmul hx hb d (k res hr H locs ls hP hS hl)

theorem r_land (hC : Cok X w A own cc nL fr lo S Rf N) {x y : Int64} (d : decode cc pc = .ok (.land, 1)) (k : RF X w A nL Qf P (pc + 1) lv (.long (x &&& y) :: st) σ) : RF X w A nL Qf P pc lv (.long y :: .long x :: st) σ := by
  obtain ⟨p, l, e, R, s, m, args, below, meth, c, cells, slots⟩ := X
  obtain ⟨⟨hx, hb, hml, hown, hts⟩, hK, hA, hlk, hD, hR, hW, hX⟩ := hC
  dsimp only at hx hb hml hown hts hK hA hlk hR
  intro res hr H locs ls hP hS hl
  show W p l e R s m args below meth c H locs cells slots (Qf res) (F0 m pc ls _)
  exact lv_land hx hb d (k res hr H locs ls hP hS hl)

theorem r_lor (hC : Cok X w A own cc nL fr lo S Rf N) {x y : Int64} (d : decode cc pc = .ok (.lor, 1)) (k : RF X w A nL Qf P (pc + 1) lv (.long (x ||| y) :: st) σ) : RF X w A nL Qf P pc lv (.long y :: .long x :: st) σ := by
  obtain ⟨p, l, e, R, s, m, args, below, meth, c, cells, slots⟩ := X
  obtain ⟨⟨hx, hb, hml, hown, hts⟩, hK, hA, hlk, hD, hR, hW, hX⟩ := hC
  dsimp only at hx hb hml hown hts hK hA hlk hR
  intro res hr H locs ls hP hS hl
  show W p l e R s m args below meth c H locs cells slots (Qf res) (F0 m pc ls _)
  exact lv_lor hx hb d (k res hr H locs ls hP hS hl)

theorem r_iushr (hC : Cok X w A own cc nL fr lo S Rf N) {x y : Int32} (d : decode cc pc = .ok (.iushr, 1)) (k : RF X w A nL Qf P (pc + 1) lv (.int (x.toUInt32 >>> (y.toUInt32 &&& Int32.toUInt32 31)).toInt32 :: st) σ) : RF X w A nL Qf P pc lv (.int y :: .int x :: st) σ := by
  obtain ⟨p, l, e, R, s, m, args, below, meth, c, cells, slots⟩ := X
  obtain ⟨⟨hx, hb, hml, hown, hts⟩, hK, hA, hlk, hD, hR, hW, hX⟩ := hC
  dsimp only at hx hb hml hown hts hK hA hlk hR
  intro res hr H locs ls hP hS hl
  show W p l e R s m args below meth c H locs cells slots (Qf res) (F0 m pc ls _)
  exact lv_iushr hx hb d rfl (k res hr H locs ls hP hS hl)

theorem r_ldcw (hC : Cok X w A own cc nL fr lo S Rf N) {idx : Nat} {v : Int32} (lk : Cond.constant own idx v ∈ gw) (d : decode cc pc = .ok (.ldc_w idx, 3)) (k : RF X w A nL Qf P (pc + 3) lv (.int v :: st) σ) : RF X w A nL Qf P pc lv st σ := by
  obtain ⟨p, l, e, R, s, m, args, below, meth, c, cells, slots⟩ := X
  obtain ⟨⟨hx, hb, hml, hown, hts⟩, hK, hA, hlk, hD, hR, hW, hX⟩ := hC
  dsimp only at hx hb hml hown hts hK hA hlk hR
  intro res hr H locs ls hP hS hl
  show W p l e R s m args below meth c H locs cells slots (Qf res) (F0 m pc ls _)
  exact lv_ldcw hx hb hown (hts _ lk) d (k res hr H locs ls hP hS hl)

theorem r_lshl (hC : Cok X w A own cc nL fr lo S Rf N) {x : Int64} {y : Int32} (d : decode cc pc = .ok (.lshl, 1)) (k : RF X w A nL Qf P (pc + 1) lv (.long (x <<< (y.toInt64 &&& 63)) :: st) σ) : RF X w A nL Qf P pc lv (.int y :: .long x :: st) σ := by
  obtain ⟨p, l, e, R, s, m, args, below, meth, c, cells, slots⟩ := X
  obtain ⟨⟨hx, hb, hml, hown, hts⟩, hK, hA, hlk, hD, hR, hW, hX⟩ := hC
  dsimp only at hx hb hml hown hts hK hA hlk hR
  intro res hr H locs ls hP hS hl
  show W p l e R s m args below meth c H locs cells slots (Qf res) (F0 m pc ls _)
  exact lv_lshl hx hb d rfl (k res hr H locs ls hP hS hl)

theorem r_lshr (hC : Cok X w A own cc nL fr lo S Rf N) {x : Int64} {y : Int32} (d : decode cc pc = .ok (.lshr, 1)) (k : RF X w A nL Qf P (pc + 1) lv (.long (x >>> (y.toInt64 &&& 63)) :: st) σ) : RF X w A nL Qf P pc lv (.int y :: .long x :: st) σ := by
  obtain ⟨p, l, e, R, s, m, args, below, meth, c, cells, slots⟩ := X
  obtain ⟨⟨hx, hb, hml, hown, hts⟩, hK, hA, hlk, hD, hR, hW, hX⟩ := hC
  dsimp only at hx hb hml hown hts hK hA hlk hR
  intro res hr H locs ls hP hS hl
  show W p l e R s m args below meth c H locs cells slots (Qf res) (F0 m pc ls _)
  exact lv_lshr hx hb d rfl (k res hr H locs ls hP hS hl)

theorem r_idiv (hC : Cok X w A own cc nL fr lo S Rf N) {x y : Int32} (d : decode cc pc = .ok (.idiv, 1)) (hne : ¬ y = 0) (k : RF X w A nL Qf P (pc + 1) lv (.int (x / y) :: st) σ) : RF X w A nL Qf P pc lv (.int y :: .int x :: st) σ := by
  obtain ⟨p, l, e, R, s, m, args, below, meth, c, cells, slots⟩ := X
  obtain ⟨⟨hx, hb, hml, hown, hts⟩, hK, hA, hlk, hD, hR, hW, hX⟩ := hC
  dsimp only at hx hb hml hown hts hK hA hlk hR
  intro res hr H locs ls hP hS hl
  show W p l e R s m args below meth c H locs cells slots (Qf res) (F0 m pc ls _)
  exact lv_idiv hx hb d hne (k res hr H locs ls hP hS hl)

theorem r_irem (hC : Cok X w A own cc nL fr lo S Rf N) {x y : Int32} (d : decode cc pc = .ok (.irem, 1)) (hne : ¬ y = 0) (k : RF X w A nL Qf P (pc + 1) lv (.int (x - x / y * y) :: st) σ) : RF X w A nL Qf P pc lv (.int y :: .int x :: st) σ := by
  obtain ⟨p, l, e, R, s, m, args, below, meth, c, cells, slots⟩ := X
  obtain ⟨⟨hx, hb, hml, hown, hts⟩, hK, hA, hlk, hD, hR, hW, hX⟩ := hC
  dsimp only at hx hb hml hown hts hK hA hlk hR
  intro res hr H locs ls hP hS hl
  show W p l e R s m args below meth c H locs cells slots (Qf res) (F0 m pc ls _)
  exact lv_irem hx hb d hne (k res hr H locs ls hP hS hl)

theorem r_ldiv (hC : Cok X w A own cc nL fr lo S Rf N) {x y : Int64} (d : decode cc pc = .ok (.ldiv, 1)) (hne : ¬ y = 0) (k : RF X w A nL Qf P (pc + 1) lv (.long (x / y) :: st) σ) : RF X w A nL Qf P pc lv (.long y :: .long x :: st) σ := by
  obtain ⟨p, l, e, R, s, m, args, below, meth, c, cells, slots⟩ := X
  obtain ⟨⟨hx, hb, hml, hown, hts⟩, hK, hA, hlk, hD, hR, hW, hX⟩ := hC
  dsimp only at hx hb hml hown hts hK hA hlk hR
  intro res hr H locs ls hP hS hl
  show W p l e R s m args below meth c H locs cells slots (Qf res) (F0 m pc ls _)
  exact lv_ldiv hx hb d hne (k res hr H locs ls hP hS hl)

theorem r_lrem (hC : Cok X w A own cc nL fr lo S Rf N) {x y : Int64} (d : decode cc pc = .ok (.lrem, 1)) (hne : ¬ y = 0) (k : RF X w A nL Qf P (pc + 1) lv (.long (x - x / y * y) :: st) σ) : RF X w A nL Qf P pc lv (.long y :: .long x :: st) σ := by
  obtain ⟨p, l, e, R, s, m, args, below, meth, c, cells, slots⟩ := X
  obtain ⟨⟨hx, hb, hml, hown, hts⟩, hK, hA, hlk, hD, hR, hW, hX⟩ := hC
  dsimp only at hx hb hml hown hts hK hA hlk hR
  intro res hr H locs ls hP hS hl
  show W p l e R s m args below meth c H locs cells slots (Qf res) (F0 m pc ls _)
  exact lv_lrem hx hb d hne (k res hr H locs ls hP hS hl)

theorem r_ineg (hC : Cok X w A own cc nL fr lo S Rf N) {x : Int32} (d : decode cc pc = .ok (.ineg, 1)) (k : RF X w A nL Qf P (pc + 1) lv (.int (-x) :: st) σ) : RF X w A nL Qf P pc lv (.int x :: st) σ := by
  obtain ⟨p, l, e, R, s, m, args, below, meth, c, cells, slots⟩ := X
  obtain ⟨⟨hx, hb, hml, hown, hts⟩, hK, hA, hlk, hD, hR, hW, hX⟩ := hC
  dsimp only at hx hb hml hown hts hK hA hlk hR
  intro res hr H locs ls hP hS hl
  show W p l e R s m args below meth c H locs cells slots (Qf res) (F0 m pc ls _)
  exact lv_ineg hx hb d (k res hr H locs ls hP hS hl)

theorem r_lneg (hC : Cok X w A own cc nL fr lo S Rf N) {x : Int64} (d : decode cc pc = .ok (.lneg, 1)) (k : RF X w A nL Qf P (pc + 1) lv (.long (-x) :: st) σ) : RF X w A nL Qf P pc lv (.long x :: st) σ := by
  obtain ⟨p, l, e, R, s, m, args, below, meth, c, cells, slots⟩ := X
  obtain ⟨⟨hx, hb, hml, hown, hts⟩, hK, hA, hlk, hD, hR, hW, hX⟩ := hC
  dsimp only at hx hb hml hown hts hK hA hlk hR
  intro res hr H locs ls hP hS hl
  show W p l e R s m args below meth c H locs cells slots (Qf res) (F0 m pc ls _)
  exact lv_lneg hx hb d (k res hr H locs ls hP hS hl)

theorem r_i2l (hC : Cok X w A own cc nL fr lo S Rf N) {x : Int32} (d : decode cc pc = .ok (.i2l, 1)) (k : RF X w A nL Qf P (pc + 1) lv (.long (x.toInt64) :: st) σ) : RF X w A nL Qf P pc lv (.int x :: st) σ := by
  obtain ⟨p, l, e, R, s, m, args, below, meth, c, cells, slots⟩ := X
  obtain ⟨⟨hx, hb, hml, hown, hts⟩, hK, hA, hlk, hD, hR, hW, hX⟩ := hC
  dsimp only at hx hb hml hown hts hK hA hlk hR
  intro res hr H locs ls hP hS hl
  show W p l e R s m args below meth c H locs cells slots (Qf res) (F0 m pc ls _)
  exact lv_i2l hx hb d rfl (k res hr H locs ls hP hS hl)

theorem r_l2i (hC : Cok X w A own cc nL fr lo S Rf N) {x : Int64} (d : decode cc pc = .ok (.l2i, 1)) (k : RF X w A nL Qf P (pc + 1) lv (.int (x.toInt32) :: st) σ) : RF X w A nL Qf P pc lv (.long x :: st) σ := by
  obtain ⟨p, l, e, R, s, m, args, below, meth, c, cells, slots⟩ := X
  obtain ⟨⟨hx, hb, hml, hown, hts⟩, hK, hA, hlk, hD, hR, hW, hX⟩ := hC
  dsimp only at hx hb hml hown hts hK hA hlk hR
  intro res hr H locs ls hP hS hl
  show W p l e R s m args below meth c H locs cells slots (Qf res) (F0 m pc ls _)
  exact lv_l2i hx hb d rfl (k res hr H locs ls hP hS hl)

theorem r_i2b (hC : Cok X w A own cc nL fr lo S Rf N) {x : Int32} (d : decode cc pc = .ok (.i2b, 1)) (k : RF X w A nL Qf P (pc + 1) lv (.int (x.toInt8.toInt32) :: st) σ) : RF X w A nL Qf P pc lv (.int x :: st) σ := by
  obtain ⟨p, l, e, R, s, m, args, below, meth, c, cells, slots⟩ := X
  obtain ⟨⟨hx, hb, hml, hown, hts⟩, hK, hA, hlk, hD, hR, hW, hX⟩ := hC
  dsimp only at hx hb hml hown hts hK hA hlk hR
  intro res hr H locs ls hP hS hl
  show W p l e R s m args below meth c H locs cells slots (Qf res) (F0 m pc ls _)
  exact lv_i2b hx hb d rfl (k res hr H locs ls hP hS hl)

theorem r_i2s (hC : Cok X w A own cc nL fr lo S Rf N) {x : Int32} (d : decode cc pc = .ok (.i2s, 1)) (k : RF X w A nL Qf P (pc + 1) lv (.int (x.toInt16.toInt32) :: st) σ) : RF X w A nL Qf P pc lv (.int x :: st) σ := by
  obtain ⟨p, l, e, R, s, m, args, below, meth, c, cells, slots⟩ := X
  obtain ⟨⟨hx, hb, hml, hown, hts⟩, hK, hA, hlk, hD, hR, hW, hX⟩ := hC
  dsimp only at hx hb hml hown hts hK hA hlk hR
  intro res hr H locs ls hP hS hl
  show W p l e R s m args below meth c H locs cells slots (Qf res) (F0 m pc ls _)
  exact lv_i2s hx hb d rfl (k res hr H locs ls hP hS hl)

theorem r_i2c (hC : Cok X w A own cc nL fr lo S Rf N) {x : Int32} (d : decode cc pc = .ok (.i2c, 1)) (k : RF X w A nL Qf P (pc + 1) lv (.int ((x.toUInt32 % 65536).toInt32) :: st) σ) : RF X w A nL Qf P pc lv (.int x :: st) σ := by
  obtain ⟨p, l, e, R, s, m, args, below, meth, c, cells, slots⟩ := X
  obtain ⟨⟨hx, hb, hml, hown, hts⟩, hK, hA, hlk, hD, hR, hW, hX⟩ := hC
  dsimp only at hx hb hml hown hts hK hA hlk hR
  intro res hr H locs ls hP hS hl
  show W p l e R s m args below meth c H locs cells slots (Qf res) (F0 m pc ls _)
  exact lv_i2c hx hb d rfl (k res hr H locs ls hP hS hl)

theorem r_dup (hC : Cok X w A own cc nL fr lo S Rf N) {v : Value} (d : decode cc pc = .ok (.dup, 1)) (hv : v.category = 1) (k : RF X w A nL Qf P (pc + 1) lv (v :: v :: st) σ) : RF X w A nL Qf P pc lv (v :: st) σ := by
  obtain ⟨p, l, e, R, s, m, args, below, meth, c, cells, slots⟩ := X
  obtain ⟨⟨hx, hb, hml, hown, hts⟩, hK, hA, hlk, hD, hR, hW, hX⟩ := hC
  dsimp only at hx hb hml hown hts hK hA hlk hR
  intro res hr H locs ls hP hS hl
  show W p l e R s m args below meth c H locs cells slots (Qf res) (F0 m pc ls _)
  exact lv_dup hx hb d hv (k res hr H locs ls hP hS hl)

theorem r_pop (hC : Cok X w A own cc nL fr lo S Rf N) {v : Value} (d : decode cc pc = .ok (.pop, 1)) (hv : v.category = 1) (k : RF X w A nL Qf P (pc + 1) lv st σ) : RF X w A nL Qf P pc lv (v :: st) σ := by
  obtain ⟨p, l, e, R, s, m, args, below, meth, c, cells, slots⟩ := X
  obtain ⟨⟨hx, hb, hml, hown, hts⟩, hK, hA, hlk, hD, hR, hW, hX⟩ := hC
  dsimp only at hx hb hml hown hts hK hA hlk hR
  intro res hr H locs ls hP hS hl
  show W p l e R s m args below meth c H locs cells slots (Qf res) (F0 m pc ls _)
  exact lv_pop hx hb d hv (k res hr H locs ls hP hS hl)

theorem r_goto (hC : Cok X w A own cc nL fr lo S Rf N) {off : Int} (tgt : Nat) (d : decode cc pc = .ok (.goto off, 3)) (ht : (pc : Int) + off = (tgt : Int)) (k : RF X w A nL Qf P tgt lv st σ) : RF X w A nL Qf P pc lv st σ := by
  obtain ⟨p, l, e, R, s, m, args, below, meth, c, cells, slots⟩ := X
  obtain ⟨⟨hx, hb, hml, hown, hts⟩, hK, hA, hlk, hD, hR, hW, hX⟩ := hC
  dsimp only at hx hb hml hown hts hK hA hlk hR
  intro res hr H locs ls hP hS hl
  show W p l e R s m args below meth c H locs cells slots (Qf res) (F0 m pc ls _)
  exact lv_goto hx hb d ht (k res hr H locs ls hP hS hl)

theorem r_if_eq (hC : Cok X w A own cc nL fr lo S Rf N) {x : Int32} {off : Int} (tgt : Nat) (d : decode cc pc = .ok (.ifCond .eq off, 3)) (ht : (pc : Int) + off = (tgt : Int)) (kt : x = 0 → RF X w A nL Qf P tgt lv st σ) (kf : ¬ x = 0 → RF X w A nL Qf P' (pc + 3) lv st σ) : RF X w A nL Qf (if x = 0 then P else P') pc lv (.int x :: st) σ := by
  obtain ⟨p, l, e, R, s, m, args, below, meth, c, cells, slots⟩ := X
  obtain ⟨⟨hx, hb, hml, hown, hts⟩, hK, hA, hlk, hD, hR, hW, hX⟩ := hC
  dsimp only at hx hb hml hown hts hK hA hlk hR
  intro res hr H locs ls hP hS hl
  show W p l e R s m args below meth c H locs cells slots (Qf res) (F0 m pc ls _)
  exact lv_if_eq hx hb d ht (fun hc => kt hc res (by rw [if_pos hc] at hr; exact hr) H locs ls hP hS hl) (fun hc => kf hc res (by rw [if_neg hc] at hr; exact hr) H locs ls hP hS hl)

theorem r_icmp_eq (hC : Cok X w A own cc nL fr lo S Rf N) {x y : Int32} {off : Int} (tgt : Nat) (d : decode cc pc = .ok (.if_icmp .eq off, 3)) (ht : (pc : Int) + off = (tgt : Int)) (kt : x = y → RF X w A nL Qf P tgt lv st σ) (kf : ¬ x = y → RF X w A nL Qf P' (pc + 3) lv st σ) : RF X w A nL Qf (if x = y then P else P') pc lv (.int y :: .int x :: st) σ := by
  obtain ⟨p, l, e, R, s, m, args, below, meth, c, cells, slots⟩ := X
  obtain ⟨⟨hx, hb, hml, hown, hts⟩, hK, hA, hlk, hD, hR, hW, hX⟩ := hC
  dsimp only at hx hb hml hown hts hK hA hlk hR
  intro res hr H locs ls hP hS hl
  show W p l e R s m args below meth c H locs cells slots (Qf res) (F0 m pc ls _)
  exact lv_icmp_eq hx hb d ht (fun hc => kt hc res (by rw [if_pos hc] at hr; exact hr) H locs ls hP hS hl) (fun hc => kf hc res (by rw [if_neg hc] at hr; exact hr) H locs ls hP hS hl)

theorem r_lcmp_eq (hC : Cok X w A own cc nL fr lo S Rf N) {x y : Int64} {off : Int} (tgt : Nat) (d0 : decode cc pc = .ok (.lcmp, 1)) (d : decode cc (pc + 1) = .ok (.ifCond .eq off, 3)) (ht : ((pc + 1 : Nat) : Int) + off = (tgt : Int)) (kt : x = y → RF X w A nL Qf P tgt lv st σ) (kf : ¬ x = y → RF X w A nL Qf P' (pc + 4) lv st σ) : RF X w A nL Qf (if x = y then P else P') pc lv (.long y :: .long x :: st) σ := by
  obtain ⟨p, l, e, R, s, m, args, below, meth, c, cells, slots⟩ := X
  obtain ⟨⟨hx, hb, hml, hown, hts⟩, hK, hA, hlk, hD, hR, hW, hX⟩ := hC
  dsimp only at hx hb hml hown hts hK hA hlk hR
  intro res hr H locs ls hP hS hl
  show W p l e R s m args below meth c H locs cells slots (Qf res) (F0 m pc ls _)
  exact W.lcmp hx hb d0 (lv_if_eq hx hb d ht (fun hc => kt ((lg_cmp_eq x y).mp hc) res (by rw [if_pos ((lg_cmp_eq x y).mp hc)] at hr; exact hr) H locs ls hP hS hl) (fun hc => kf (fun z => hc ((lg_cmp_eq x y).mpr z)) res (by rw [if_neg (fun z => hc ((lg_cmp_eq x y).mpr z))] at hr; exact hr) H locs ls hP hS hl))

theorem r_if_ne (hC : Cok X w A own cc nL fr lo S Rf N) {x : Int32} {off : Int} (tgt : Nat) (d : decode cc pc = .ok (.ifCond .ne off, 3)) (ht : (pc : Int) + off = (tgt : Int)) (kt : ¬ x = 0 → RF X w A nL Qf P tgt lv st σ) (kf : x = 0 → RF X w A nL Qf P' (pc + 3) lv st σ) : RF X w A nL Qf (if x = 0 then P' else P) pc lv (.int x :: st) σ := by
  obtain ⟨p, l, e, R, s, m, args, below, meth, c, cells, slots⟩ := X
  obtain ⟨⟨hx, hb, hml, hown, hts⟩, hK, hA, hlk, hD, hR, hW, hX⟩ := hC
  dsimp only at hx hb hml hown hts hK hA hlk hR
  intro res hr H locs ls hP hS hl
  show W p l e R s m args below meth c H locs cells slots (Qf res) (F0 m pc ls _)
  exact lv_if_ne hx hb d ht (fun hc => kt hc res (by rw [if_neg hc] at hr; exact hr) H locs ls hP hS hl) (fun hc => kf hc res (by rw [if_pos hc] at hr; exact hr) H locs ls hP hS hl)

theorem r_icmp_ne (hC : Cok X w A own cc nL fr lo S Rf N) {x y : Int32} {off : Int} (tgt : Nat) (d : decode cc pc = .ok (.if_icmp .ne off, 3)) (ht : (pc : Int) + off = (tgt : Int)) (kt : ¬ x = y → RF X w A nL Qf P tgt lv st σ) (kf : x = y → RF X w A nL Qf P' (pc + 3) lv st σ) : RF X w A nL Qf (if x = y then P' else P) pc lv (.int y :: .int x :: st) σ := by
  obtain ⟨p, l, e, R, s, m, args, below, meth, c, cells, slots⟩ := X
  obtain ⟨⟨hx, hb, hml, hown, hts⟩, hK, hA, hlk, hD, hR, hW, hX⟩ := hC
  dsimp only at hx hb hml hown hts hK hA hlk hR
  intro res hr H locs ls hP hS hl
  show W p l e R s m args below meth c H locs cells slots (Qf res) (F0 m pc ls _)
  exact lv_icmp_ne hx hb d ht (fun hc => kt hc res (by rw [if_neg hc] at hr; exact hr) H locs ls hP hS hl) (fun hc => kf hc res (by rw [if_pos hc] at hr; exact hr) H locs ls hP hS hl)

theorem r_lcmp_ne (hC : Cok X w A own cc nL fr lo S Rf N) {x y : Int64} {off : Int} (tgt : Nat) (d0 : decode cc pc = .ok (.lcmp, 1)) (d : decode cc (pc + 1) = .ok (.ifCond .ne off, 3)) (ht : ((pc + 1 : Nat) : Int) + off = (tgt : Int)) (kt : ¬ x = y → RF X w A nL Qf P tgt lv st σ) (kf : x = y → RF X w A nL Qf P' (pc + 4) lv st σ) : RF X w A nL Qf (if x = y then P' else P) pc lv (.long y :: .long x :: st) σ := by
  obtain ⟨p, l, e, R, s, m, args, below, meth, c, cells, slots⟩ := X
  obtain ⟨⟨hx, hb, hml, hown, hts⟩, hK, hA, hlk, hD, hR, hW, hX⟩ := hC
  dsimp only at hx hb hml hown hts hK hA hlk hR
  intro res hr H locs ls hP hS hl
  show W p l e R s m args below meth c H locs cells slots (Qf res) (F0 m pc ls _)
  exact W.lcmp hx hb d0 (lv_if_ne hx hb d ht (fun hc => kt (fun z => hc ((lg_cmp_eq x y).mpr z)) res (by rw [if_neg (fun z => hc ((lg_cmp_eq x y).mpr z))] at hr; exact hr) H locs ls hP hS hl) (fun hc => kf ((lg_cmp_eq x y).mp hc) res (by rw [if_pos ((lg_cmp_eq x y).mp hc)] at hr; exact hr) H locs ls hP hS hl))

theorem r_if_lt (hC : Cok X w A own cc nL fr lo S Rf N) {x : Int32} {off : Int} (tgt : Nat) (d : decode cc pc = .ok (.ifCond .lt off, 3)) (ht : (pc : Int) + off = (tgt : Int)) (kt : x < 0 → RF X w A nL Qf P tgt lv st σ) (kf : ¬ x < 0 → RF X w A nL Qf P' (pc + 3) lv st σ) : RF X w A nL Qf (if x < 0 then P else P') pc lv (.int x :: st) σ := by
  obtain ⟨p, l, e, R, s, m, args, below, meth, c, cells, slots⟩ := X
  obtain ⟨⟨hx, hb, hml, hown, hts⟩, hK, hA, hlk, hD, hR, hW, hX⟩ := hC
  dsimp only at hx hb hml hown hts hK hA hlk hR
  intro res hr H locs ls hP hS hl
  show W p l e R s m args below meth c H locs cells slots (Qf res) (F0 m pc ls _)
  exact lv_if_lt hx hb d ht (fun hc => kt hc res (by rw [if_pos hc] at hr; exact hr) H locs ls hP hS hl) (fun hc => kf hc res (by rw [if_neg hc] at hr; exact hr) H locs ls hP hS hl)

theorem r_icmp_lt (hC : Cok X w A own cc nL fr lo S Rf N) {x y : Int32} {off : Int} (tgt : Nat) (d : decode cc pc = .ok (.if_icmp .lt off, 3)) (ht : (pc : Int) + off = (tgt : Int)) (kt : x < y → RF X w A nL Qf P tgt lv st σ) (kf : ¬ x < y → RF X w A nL Qf P' (pc + 3) lv st σ) : RF X w A nL Qf (if x < y then P else P') pc lv (.int y :: .int x :: st) σ := by
  obtain ⟨p, l, e, R, s, m, args, below, meth, c, cells, slots⟩ := X
  obtain ⟨⟨hx, hb, hml, hown, hts⟩, hK, hA, hlk, hD, hR, hW, hX⟩ := hC
  dsimp only at hx hb hml hown hts hK hA hlk hR
  intro res hr H locs ls hP hS hl
  show W p l e R s m args below meth c H locs cells slots (Qf res) (F0 m pc ls _)
  exact lv_icmp_lt hx hb d ht (fun hc => kt hc res (by rw [if_pos hc] at hr; exact hr) H locs ls hP hS hl) (fun hc => kf hc res (by rw [if_neg hc] at hr; exact hr) H locs ls hP hS hl)

theorem r_lcmp_lt (hC : Cok X w A own cc nL fr lo S Rf N) {x y : Int64} {off : Int} (tgt : Nat) (d0 : decode cc pc = .ok (.lcmp, 1)) (d : decode cc (pc + 1) = .ok (.ifCond .lt off, 3)) (ht : ((pc + 1 : Nat) : Int) + off = (tgt : Int)) (kt : x < y → RF X w A nL Qf P tgt lv st σ) (kf : ¬ x < y → RF X w A nL Qf P' (pc + 4) lv st σ) : RF X w A nL Qf (if x < y then P else P') pc lv (.long y :: .long x :: st) σ := by
  obtain ⟨p, l, e, R, s, m, args, below, meth, c, cells, slots⟩ := X
  obtain ⟨⟨hx, hb, hml, hown, hts⟩, hK, hA, hlk, hD, hR, hW, hX⟩ := hC
  dsimp only at hx hb hml hown hts hK hA hlk hR
  intro res hr H locs ls hP hS hl
  show W p l e R s m args below meth c H locs cells slots (Qf res) (F0 m pc ls _)
  exact W.lcmp hx hb d0 (lv_if_lt hx hb d ht (fun hc => kt ((lg_cmp_lt x y).mp hc) res (by rw [if_pos ((lg_cmp_lt x y).mp hc)] at hr; exact hr) H locs ls hP hS hl) (fun hc => kf (fun z => hc ((lg_cmp_lt x y).mpr z)) res (by rw [if_neg (fun z => hc ((lg_cmp_lt x y).mpr z))] at hr; exact hr) H locs ls hP hS hl))

theorem r_if_ge (hC : Cok X w A own cc nL fr lo S Rf N) {x : Int32} {off : Int} (tgt : Nat) (d : decode cc pc = .ok (.ifCond .ge off, 3)) (ht : (pc : Int) + off = (tgt : Int)) (kt : 0 ≤ x → RF X w A nL Qf P tgt lv st σ) (kf : ¬ 0 ≤ x → RF X w A nL Qf P' (pc + 3) lv st σ) : RF X w A nL Qf (if 0 ≤ x then P else P') pc lv (.int x :: st) σ := by
  obtain ⟨p, l, e, R, s, m, args, below, meth, c, cells, slots⟩ := X
  obtain ⟨⟨hx, hb, hml, hown, hts⟩, hK, hA, hlk, hD, hR, hW, hX⟩ := hC
  dsimp only at hx hb hml hown hts hK hA hlk hR
  intro res hr H locs ls hP hS hl
  show W p l e R s m args below meth c H locs cells slots (Qf res) (F0 m pc ls _)
  exact lv_if_ge hx hb d ht (fun hc => kt hc res (by rw [if_pos hc] at hr; exact hr) H locs ls hP hS hl) (fun hc => kf hc res (by rw [if_neg hc] at hr; exact hr) H locs ls hP hS hl)

theorem r_icmp_ge (hC : Cok X w A own cc nL fr lo S Rf N) {x y : Int32} {off : Int} (tgt : Nat) (d : decode cc pc = .ok (.if_icmp .ge off, 3)) (ht : (pc : Int) + off = (tgt : Int)) (kt : y ≤ x → RF X w A nL Qf P tgt lv st σ) (kf : ¬ y ≤ x → RF X w A nL Qf P' (pc + 3) lv st σ) : RF X w A nL Qf (if y ≤ x then P else P') pc lv (.int y :: .int x :: st) σ := by
  obtain ⟨p, l, e, R, s, m, args, below, meth, c, cells, slots⟩ := X
  obtain ⟨⟨hx, hb, hml, hown, hts⟩, hK, hA, hlk, hD, hR, hW, hX⟩ := hC
  dsimp only at hx hb hml hown hts hK hA hlk hR
  intro res hr H locs ls hP hS hl
  show W p l e R s m args below meth c H locs cells slots (Qf res) (F0 m pc ls _)
  exact lv_icmp_ge hx hb d ht (fun hc => kt hc res (by rw [if_pos hc] at hr; exact hr) H locs ls hP hS hl) (fun hc => kf hc res (by rw [if_neg hc] at hr; exact hr) H locs ls hP hS hl)

theorem r_lcmp_ge (hC : Cok X w A own cc nL fr lo S Rf N) {x y : Int64} {off : Int} (tgt : Nat) (d0 : decode cc pc = .ok (.lcmp, 1)) (d : decode cc (pc + 1) = .ok (.ifCond .ge off, 3)) (ht : ((pc + 1 : Nat) : Int) + off = (tgt : Int)) (kt : y ≤ x → RF X w A nL Qf P tgt lv st σ) (kf : ¬ y ≤ x → RF X w A nL Qf P' (pc + 4) lv st σ) : RF X w A nL Qf (if y ≤ x then P else P') pc lv (.long y :: .long x :: st) σ := by
  obtain ⟨p, l, e, R, s, m, args, below, meth, c, cells, slots⟩ := X
  obtain ⟨⟨hx, hb, hml, hown, hts⟩, hK, hA, hlk, hD, hR, hW, hX⟩ := hC
  dsimp only at hx hb hml hown hts hK hA hlk hR
  intro res hr H locs ls hP hS hl
  show W p l e R s m args below meth c H locs cells slots (Qf res) (F0 m pc ls _)
  exact W.lcmp hx hb d0 (lv_if_ge hx hb d ht (fun hc => kt ((lg_cmp_ge x y).mp hc) res (by rw [if_pos ((lg_cmp_ge x y).mp hc)] at hr; exact hr) H locs ls hP hS hl) (fun hc => kf (fun z => hc ((lg_cmp_ge x y).mpr z)) res (by rw [if_neg (fun z => hc ((lg_cmp_ge x y).mpr z))] at hr; exact hr) H locs ls hP hS hl))

theorem r_if_gt (hC : Cok X w A own cc nL fr lo S Rf N) {x : Int32} {off : Int} (tgt : Nat) (d : decode cc pc = .ok (.ifCond .gt off, 3)) (ht : (pc : Int) + off = (tgt : Int)) (kt : 0 < x → RF X w A nL Qf P tgt lv st σ) (kf : ¬ 0 < x → RF X w A nL Qf P' (pc + 3) lv st σ) : RF X w A nL Qf (if 0 < x then P else P') pc lv (.int x :: st) σ := by
  obtain ⟨p, l, e, R, s, m, args, below, meth, c, cells, slots⟩ := X
  obtain ⟨⟨hx, hb, hml, hown, hts⟩, hK, hA, hlk, hD, hR, hW, hX⟩ := hC
  dsimp only at hx hb hml hown hts hK hA hlk hR
  intro res hr H locs ls hP hS hl
  show W p l e R s m args below meth c H locs cells slots (Qf res) (F0 m pc ls _)
  exact lv_if_gt hx hb d ht (fun hc => kt hc res (by rw [if_pos hc] at hr; exact hr) H locs ls hP hS hl) (fun hc => kf hc res (by rw [if_neg hc] at hr; exact hr) H locs ls hP hS hl)

theorem r_icmp_gt (hC : Cok X w A own cc nL fr lo S Rf N) {x y : Int32} {off : Int} (tgt : Nat) (d : decode cc pc = .ok (.if_icmp .gt off, 3)) (ht : (pc : Int) + off = (tgt : Int)) (kt : y < x → RF X w A nL Qf P tgt lv st σ) (kf : ¬ y < x → RF X w A nL Qf P' (pc + 3) lv st σ) : RF X w A nL Qf (if y < x then P else P') pc lv (.int y :: .int x :: st) σ := by
  obtain ⟨p, l, e, R, s, m, args, below, meth, c, cells, slots⟩ := X
  obtain ⟨⟨hx, hb, hml, hown, hts⟩, hK, hA, hlk, hD, hR, hW, hX⟩ := hC
  dsimp only at hx hb hml hown hts hK hA hlk hR
  intro res hr H locs ls hP hS hl
  show W p l e R s m args below meth c H locs cells slots (Qf res) (F0 m pc ls _)
  exact lv_icmp_gt hx hb d ht (fun hc => kt hc res (by rw [if_pos hc] at hr; exact hr) H locs ls hP hS hl) (fun hc => kf hc res (by rw [if_neg hc] at hr; exact hr) H locs ls hP hS hl)

theorem r_lcmp_gt (hC : Cok X w A own cc nL fr lo S Rf N) {x y : Int64} {off : Int} (tgt : Nat) (d0 : decode cc pc = .ok (.lcmp, 1)) (d : decode cc (pc + 1) = .ok (.ifCond .gt off, 3)) (ht : ((pc + 1 : Nat) : Int) + off = (tgt : Int)) (kt : y < x → RF X w A nL Qf P tgt lv st σ) (kf : ¬ y < x → RF X w A nL Qf P' (pc + 4) lv st σ) : RF X w A nL Qf (if y < x then P else P') pc lv (.long y :: .long x :: st) σ := by
  obtain ⟨p, l, e, R, s, m, args, below, meth, c, cells, slots⟩ := X
  obtain ⟨⟨hx, hb, hml, hown, hts⟩, hK, hA, hlk, hD, hR, hW, hX⟩ := hC
  dsimp only at hx hb hml hown hts hK hA hlk hR
  intro res hr H locs ls hP hS hl
  show W p l e R s m args below meth c H locs cells slots (Qf res) (F0 m pc ls _)
  exact W.lcmp hx hb d0 (lv_if_gt hx hb d ht (fun hc => kt ((lg_cmp_gt x y).mp hc) res (by rw [if_pos ((lg_cmp_gt x y).mp hc)] at hr; exact hr) H locs ls hP hS hl) (fun hc => kf (fun z => hc ((lg_cmp_gt x y).mpr z)) res (by rw [if_neg (fun z => hc ((lg_cmp_gt x y).mpr z))] at hr; exact hr) H locs ls hP hS hl))

theorem r_if_le (hC : Cok X w A own cc nL fr lo S Rf N) {x : Int32} {off : Int} (tgt : Nat) (d : decode cc pc = .ok (.ifCond .le off, 3)) (ht : (pc : Int) + off = (tgt : Int)) (kt : x ≤ 0 → RF X w A nL Qf P tgt lv st σ) (kf : ¬ x ≤ 0 → RF X w A nL Qf P' (pc + 3) lv st σ) : RF X w A nL Qf (if x ≤ 0 then P else P') pc lv (.int x :: st) σ := by
  obtain ⟨p, l, e, R, s, m, args, below, meth, c, cells, slots⟩ := X
  obtain ⟨⟨hx, hb, hml, hown, hts⟩, hK, hA, hlk, hD, hR, hW, hX⟩ := hC
  dsimp only at hx hb hml hown hts hK hA hlk hR
  intro res hr H locs ls hP hS hl
  show W p l e R s m args below meth c H locs cells slots (Qf res) (F0 m pc ls _)
  exact lv_if_le hx hb d ht (fun hc => kt hc res (by rw [if_pos hc] at hr; exact hr) H locs ls hP hS hl) (fun hc => kf hc res (by rw [if_neg hc] at hr; exact hr) H locs ls hP hS hl)

theorem r_icmp_le (hC : Cok X w A own cc nL fr lo S Rf N) {x y : Int32} {off : Int} (tgt : Nat) (d : decode cc pc = .ok (.if_icmp .le off, 3)) (ht : (pc : Int) + off = (tgt : Int)) (kt : x ≤ y → RF X w A nL Qf P tgt lv st σ) (kf : ¬ x ≤ y → RF X w A nL Qf P' (pc + 3) lv st σ) : RF X w A nL Qf (if x ≤ y then P else P') pc lv (.int y :: .int x :: st) σ := by
  obtain ⟨p, l, e, R, s, m, args, below, meth, c, cells, slots⟩ := X
  obtain ⟨⟨hx, hb, hml, hown, hts⟩, hK, hA, hlk, hD, hR, hW, hX⟩ := hC
  dsimp only at hx hb hml hown hts hK hA hlk hR
  intro res hr H locs ls hP hS hl
  show W p l e R s m args below meth c H locs cells slots (Qf res) (F0 m pc ls _)
  exact lv_icmp_le hx hb d ht (fun hc => kt hc res (by rw [if_pos hc] at hr; exact hr) H locs ls hP hS hl) (fun hc => kf hc res (by rw [if_neg hc] at hr; exact hr) H locs ls hP hS hl)

theorem r_lcmp_le (hC : Cok X w A own cc nL fr lo S Rf N) {x y : Int64} {off : Int} (tgt : Nat) (d0 : decode cc pc = .ok (.lcmp, 1)) (d : decode cc (pc + 1) = .ok (.ifCond .le off, 3)) (ht : ((pc + 1 : Nat) : Int) + off = (tgt : Int)) (kt : x ≤ y → RF X w A nL Qf P tgt lv st σ) (kf : ¬ x ≤ y → RF X w A nL Qf P' (pc + 4) lv st σ) : RF X w A nL Qf (if x ≤ y then P else P') pc lv (.long y :: .long x :: st) σ := by
  obtain ⟨p, l, e, R, s, m, args, below, meth, c, cells, slots⟩ := X
  obtain ⟨⟨hx, hb, hml, hown, hts⟩, hK, hA, hlk, hD, hR, hW, hX⟩ := hC
  dsimp only at hx hb hml hown hts hK hA hlk hR
  intro res hr H locs ls hP hS hl
  show W p l e R s m args below meth c H locs cells slots (Qf res) (F0 m pc ls _)
  exact W.lcmp hx hb d0 (lv_if_le hx hb d ht (fun hc => kt ((lg_cmp_le x y).mp hc) res (by rw [if_pos ((lg_cmp_le x y).mp hc)] at hr; exact hr) H locs ls hP hS hl) (fun hc => kf (fun z => hc ((lg_cmp_le x y).mpr z)) res (by rw [if_neg (fun z => hc ((lg_cmp_le x y).mpr z))] at hr; exact hr) H locs ls hP hS hl))

theorem r_tab1 (hC : Cok X w A own cc nL fr lo S Rf N) {x : Int32} {dflt lo1 hi1 : Int} {offs : Array Int} {len : Nat} {off : Int} (tgt : Nat) (v : Int32) (d : decode cc pc = .ok (.tableswitch dflt lo1 hi1 offs, len)) (h1 : ¬ v.toInt < lo1) (h2 : ¬ hi1 < v.toInt) (ho : offs[(v.toInt - lo1).toNat]? = some off) (ht : (pc : Int) + off = (tgt : Int)) (kt : RF X w A nL Qf P tgt lv st σ) (kf : ¬ x = v → RF X w A nL Qf P' pc lv (.int x :: st) σ) : RF X w A nL Qf (if x = v then P else P') pc lv (.int x :: st) σ := by
  by_cases hc : x = v
  · subst hc
    rw [if_pos rfl]
    obtain ⟨p, l, e, R, s, m, args, below, meth, c, cells, slots⟩ := X
    obtain ⟨⟨hx, hb, hml, hown, hts⟩, hK, hA, hlk, hD, hR, hW, hX⟩ := hC
    dsimp only at hx hb hml hown hts hK hA hlk hR
    intro res hr H locs ls hP hS hl
    show W p l e R s m args below meth c H locs cells slots (Qf res) (F0 m pc ls _)
    exact lv_tableIn hx hb d h1 h2 ho ht (kt res hr H locs ls hP hS hl)
  · rw [if_neg hc]
    exact kf hc

theorem r_tabD (hC : Cok X w A own cc nL fr lo S Rf N) {x : Int32} {dflt lo1 hi1 : Int} {offs : Array Int} {len : Nat} (tgt : Nat) (d : decode cc pc = .ok (.tableswitch dflt lo1 hi1 offs, len)) (h : x.toInt < lo1 ∨ hi1 < x.toInt) (ht : (pc : Int) + dflt = (tgt : Int)) (k : RF X w A nL Qf P tgt lv st σ) : RF X w A nL Qf P pc lv (.int x :: st) σ := by
  obtain ⟨p, l, e, R, s, m, args, below, meth, c, cells, slots⟩ := X
  obtain ⟨⟨hx, hb, hml, hown, hts⟩, hK, hA, hlk, hD, hR, hW, hX⟩ := hC
  dsimp only at hx hb hml hown hts hK hA hlk hR
  intro res hr H locs ls hP hS hl
  show W p l e R s m args below meth c H locs cells slots (Qf res) (F0 m pc ls _)
  exact lv_tableOut hx hb d h ht (k res hr H locs ls hP hS hl)

theorem r_look1 (hC : Cok X w A own cc nL fr lo S Rf N) {x : Int32} {dflt : Int} {ps : Array (Int × Int)} {len : Nat} {off : Int} (tgt : Nat) (v : Int32) (d : decode cc pc = .ok (.lookupswitch dflt ps, len)) (hp : (ps.toList.zip (ps.toList.drop 1)).all (fun (a, next) => a.1 < next.1) = true) (ho : Op.lookupswitch.offset ps.toList dflt v.toInt = off) (ht : (pc : Int) + off = (tgt : Int)) (kt : RF X w A nL Qf P tgt lv st σ) (kf : ¬ x = v → RF X w A nL Qf P' pc lv (.int x :: st) σ) : RF X w A nL Qf (if x = v then P else P') pc lv (.int x :: st) σ := by
  by_cases hc : x = v
  · subst hc
    rw [if_pos rfl]
    obtain ⟨p, l, e, R, s, m, args, below, meth, c, cells, slots⟩ := X
    obtain ⟨⟨hx, hb, hml, hown, hts⟩, hK, hA, hlk, hD, hR, hW, hX⟩ := hC
    dsimp only at hx hb hml hown hts hK hA hlk hR
    intro res hr H locs ls hP hS hl
    show W p l e R s m args below meth c H locs cells slots (Qf res) (F0 m pc ls _)
    exact lv_lookup hx hb d hp ho ht (kt res hr H locs ls hP hS hl)
  · rw [if_neg hc]
    exact kf hc

theorem r_lookD (hC : Cok X w A own cc nL fr lo S Rf N) {x : Int32} {dflt : Int} {ps : Array (Int × Int)} {len : Nat} (tgt : Nat) (d : decode cc pc = .ok (.lookupswitch dflt ps, len)) (hp : (ps.toList.zip (ps.toList.drop 1)).all (fun (a, next) => a.1 < next.1) = true) (h : Op.lookupswitch.offset ps.toList dflt x.toInt = dflt) (ht : (pc : Int) + dflt = (tgt : Int)) (k : RF X w A nL Qf P tgt lv st σ) : RF X w A nL Qf P pc lv (.int x :: st) σ := by
  obtain ⟨p, l, e, R, s, m, args, below, meth, c, cells, slots⟩ := X
  obtain ⟨⟨hx, hb, hml, hown, hts⟩, hK, hA, hlk, hD, hR, hW, hX⟩ := hC
  dsimp only at hx hb hml hown hts hK hA hlk hR
  intro res hr H locs ls hP hS hl
  show W p l e R s m args below meth c H locs cells slots (Qf res) (F0 m pc ls _)
  exact lv_lookup hx hb d hp h ht (k res hr H locs ls hP hS hl)

theorem r_nm {α : Type} {ee : α} {K : α → Option ρ} {stf : α → List Value} (k : ∀ x, RF X w A nL Qf (K x) pc lv (stf x) σ) : RF X w A nL Qf (nm ee K) pc lv (stf ee) σ := k ee
theorem r_nmI {v : Int32} {K : Int32 → Option ρ} (k : ∀ x, RF X w A nL Qf (K x) pc lv (.int x :: st) σ) : RF X w A nL Qf (nm v K) pc lv (.int v :: st) σ := k v
theorem r_nmL {v : Int64} {K : Int64 → Option ρ} (k : ∀ x, RF X w A nL Qf (K x) pc lv (.long x :: st) σ) : RF X w A nL Qf (nm v K) pc lv (.long v :: st) σ := k v
theorem r_nmS {K : St → Option ρ} (k : ∀ σ, RF X w A nL Qf (K σ) pc lv st σ) : RF X w A nL Qf (nm σ K) pc lv st σ := k σ
theorem r_gd {c : Prop} [inst : Decidable c] (k : c → RF X w A nL Qf P pc lv st σ) : RF X w A nL Qf (gd c P) pc lv st σ := by
  unfold gd
  by_cases h : c
  · rw [if_pos h]; exact k h
  · rw [if_neg h]; exact r_none
theorem r_jn {α : Type} {J : α} {B : α → Option ρ} (T : α → Prop) (hJ : T J) (k : ∀ j, T j → RF X w A nL Qf (B j) pc lv st σ) : RF X w A nL Qf (jn J B) pc lv st σ := k J hJ

theorem r_iald (hC : Cok X w A own cc nL fr lo S Rf N) {i : Int32} (k n : Nat) (hs : S k = (1, n)) (hn : Nat.blt k N = true) (hi : ¬ (i < 0 ∨ n ≤ i.toNatClampNeg)) (d : decode cc pc = .ok (.iaload, 1)) (kk : RF X w A nL Qf P (pc + 1) lv (.int (σ.1 k i.toNatClampNeg) :: st) σ) : RF X w A nL Qf P pc lv (.int i :: .ref (wA w k) :: st) σ := by
  obtain ⟨p, l, e, R, s, m, args, below, meth, c, cells, slots⟩ := X
  obtain ⟨⟨hx, hb, hml, hown, hts⟩, hK, hA, hlk, hD, hR, hW, hX⟩ := hC
  dsimp only at hx hb hml hown hts hK hA hlk hR
  intro res hr H locs ls hP hS hl
  show W p l e R s m args below meth c H locs cells slots (Qf res) (F0 m pc ls _)
  exact va_iald hx hb hK hP k 0 ((wls_get (hW.n hn)).trans (by rw [went_1 (hW.sh hs)])) rfl hi d (kk res hr H locs ls hP hS hl)

theorem r_bald (hC : Cok X w A own cc nL fr lo S Rf N) {i : Int32} (k n : Nat) (hs : S k = (2, n)) (hn : Nat.blt k N = true) (hi : ¬ (i < 0 ∨ n ≤ i.toNatClampNeg)) (d : decode cc pc = .ok (.baload, 1)) (kk : RF X w A nL Qf P (pc + 1) lv (.int (σ.1 k i.toNatClampNeg) :: st) σ) : RF X w A nL Qf P pc lv (.int i :: .ref (wA w k) :: st) σ := by
  obtain ⟨p, l, e, R, s, m, args, below, meth, c, cells, slots⟩ := X
  obtain ⟨⟨hx, hb, hml, hown, hts⟩, hK, hA, hlk, hD, hR, hW, hX⟩ := hC
  dsimp only at hx hb hml hown hts hK hA hlk hR
  intro res hr H locs ls hP hS hl
  show W p l e R s m args below meth c H locs cells slots (Qf res) (F0 m pc ls _)
  exact va_bald hx hb hK hP k 1 ((wls_get (hW.n hn)).trans (by rw [went_2 (hW.sh hs)])) rfl hi d (kk res hr H locs ls hP hS hl)

theorem r_zald (hC : Cok X w A own cc nL fr lo S Rf N) {i : Int32} (k n : Nat) (hs : S k = (3, n)) (hn : Nat.blt k N = true) (hi : ¬ (i < 0 ∨ n ≤ i.toNatClampNeg)) (d : decode cc pc = .ok (.baload, 1)) (kk : RF X w A nL Qf P (pc + 1) lv (.int (σ.1 k i.toNatClampNeg) :: st) σ) : RF X w A nL Qf P pc lv (.int i :: .ref (wA w k) :: st) σ := by
  obtain ⟨p, l, e, R, s, m, args, below, meth, c, cells, slots⟩ := X
  obtain ⟨⟨hx, hb, hml, hown, hts⟩, hK, hA, hlk, hD, hR, hW, hX⟩ := hC
  dsimp only at hx hb hml hown hts hK hA hlk hR
  intro res hr H locs ls hP hS hl
  show W p l e R s m args below meth c H locs cells slots (Qf res) (F0 m pc ls _)
  exact va_zald hx hb hK hP k 2 ((wls_get (hW.n hn)).trans (by rw [went_3 (hW.sh hs)])) rfl hi d (kk res hr H locs ls hP hS hl)

theorem r_lald (hC : Cok X w A own cc nL fr lo S Rf N) {i : Int32} (k n : Nat) (hs : S k = (4, n)) (hn : Nat.blt k N = true) (hi : ¬ (i < 0 ∨ n ≤ i.toNatClampNeg)) (d : decode cc pc = .ok (.laload, 1)) (kk : RF X w A nL Qf P (pc + 1) lv (.long (σ.2.1 k i.toNatClampNeg) :: st) σ) : RF X w A nL Qf P pc lv (.int i :: .ref (wA w k) :: st) σ := by
  obtain ⟨p, l, e, R, s, m, args, below, meth, c, cells, slots⟩ := X
  obtain ⟨⟨hx, hb, hml, hown, hts⟩, hK, hA, hlk, hD, hR, hW, hX⟩ := hC
  dsimp only at hx hb hml hown hts hK hA hlk hR
  intro res hr H locs ls hP hS hl
  show W p l e R s m args below meth c H locs cells slots (Qf res) (F0 m pc ls _)
  exact va_lald hx hb hK hP k 3 ((wls_get (hW.n hn)).trans (by rw [went_4 (hW.sh hs)])) rfl hi d (kk res hr H locs ls hP hS hl)

theorem r_ialdV (hC : Cok X w A own cc nL fr lo S Rf N) {i : Int32} (k : Nat) {n : Nat} (hs : S k = (7, n)) (hn : k < wN w) (hi : ¬ (i < 0 ∨ σ.2.2.2 k ≤ i.toNatClampNeg)) (d : decode cc pc = .ok (.iaload, 1)) (kk : RF X w A nL Qf P (pc + 1) lv (.int (σ.1 k i.toNatClampNeg) :: st) σ) : RF X w A nL Qf P pc lv (.int i :: .ref (wA w k) :: st) σ := by
  obtain ⟨p, l, e, R, s, m, args, below, meth, c, cells, slots⟩ := X
  obtain ⟨⟨hx, hb, hml, hown, hts⟩, hK, hA, hlk, hD, hR, hW, hX⟩ := hC
  dsimp only at hx hb hml hown hts hK hA hlk hR
  intro res hr H locs ls hP hS hl
  show W p l e R s m args below meth c H locs cells slots (Qf res) (F0 m pc ls _)
  exact va_iald hx hb hK hP k 0 ((wls_get hn).trans (by rw [went_7 (hW.sh hs)])) rfl hi d (kk res hr H locs ls hP hS hl)

theorem r_iast (hC : Cok X w A own cc nL fr lo S Rf N) {i : Int32} {x : Int32} (k n : Nat) (hs : S k = (1, n)) (hn : Nat.blt k N = true) (hi : ¬ (i < 0 ∨ n ≤ i.toNatClampNeg)) (d : decode cc pc = .ok (.iastore, 1)) (kk : RF X w A nL Qf P (pc + 1) lv st (sI σ k i.toNatClampNeg x)) : RF X w A nL Qf P pc lv (.int x :: .int i :: .ref (wA w k) :: st) σ := by
  obtain ⟨p, l, e, R, s, m, args, below, meth, c, cells, slots⟩ := X
  obtain ⟨⟨hx, hb, hml, hown, hts⟩, hK, hA, hlk, hD, hR, hW, hX⟩ := hC
  dsimp only at hx hb hml hown hts hK hA hlk hR
  intro res hr H locs ls hP hS hl
  show W p l e R s m args below meth c H locs cells slots (Qf res) (F0 m pc ls _)
  refine va_iast hx hb hK hP (hD σ) hS k 0 ((wls_get (hW.n hn)).trans (by rw [went_1 (hW.sh hs)])) rfl hi d (fun H1 locs1 h1 _ h3 => ?_)
  rw [wls_set (σ' := sI σ k i.toNatClampNeg x) (by rw [went_1 (hW.sh hs), sI_row]) sI_ne] at h1
  exact kk res hr H1 locs1 ls h1 h3 hl

theorem r_bast (hC : Cok X w A own cc nL fr lo S Rf N) {i : Int32} {x : Int32} (k n : Nat) (hs : S k = (2, n)) (hn : Nat.blt k N = true) (hi : ¬ (i < 0 ∨ n ≤ i.toNatClampNeg)) (d : decode cc pc = .ok (.bastore, 1)) (kk : RF X w A nL Qf P (pc + 1) lv st (sI σ k i.toNatClampNeg (vp_nar .byte x))) : RF X w A nL Qf P pc lv (.int x :: .int i :: .ref (wA w k) :: st) σ := by
  obtain ⟨p, l, e, R, s, m, args, below, meth, c, cells, slots⟩ := X
  obtain ⟨⟨hx, hb, hml, hown, hts⟩, hK, hA, hlk, hD, hR, hW, hX⟩ := hC
  dsimp only at hx hb hml hown hts hK hA hlk hR
  intro res hr H locs ls hP hS hl
  show W p l e R s m args below meth c H locs cells slots (Qf res) (F0 m pc ls _)
  refine va_bast hx hb hK hP (hD σ) hS k 1 ((wls_get (hW.n hn)).trans (by rw [went_2 (hW.sh hs)])) rfl hi d (fun H1 locs1 h1 _ h3 => ?_)
  rw [wls_set (σ' := sI σ k i.toNatClampNeg (vp_nar .byte x)) (by rw [went_2 (hW.sh hs), sI_row]) sI_ne] at h1
  exact kk res hr H1 locs1 ls h1 h3 hl

theorem r_zast (hC : Cok X w A own cc nL fr lo S Rf N) {i : Int32} {x : Int32} (k n : Nat) (hs : S k = (3, n)) (hn : Nat.blt k N = true) (hi : ¬ (i < 0 ∨ n ≤ i.toNatClampNeg)) (d : decode cc pc = .ok (.bastore, 1)) (kk : RF X w A nL Qf P (pc + 1) lv st (sI σ k i.toNatClampNeg (vp_nar .boolean x))) : RF X w A nL Qf P pc lv (.int x :: .int i :: .ref (wA w k) :: st) σ := by
  obtain ⟨p, l, e, R, s, m, args, below, meth, c, cells, slots⟩ := X
  obtain ⟨⟨hx, hb, hml, hown, hts⟩, hK, hA, hlk, hD, hR, hW, hX⟩ := hC
  dsimp only at hx hb hml hown hts hK hA hlk hR
  intro res hr H locs ls hP hS hl
  show W p l e R s m args below meth c H locs cells slots (Qf res) (F0 m pc ls _)
  refine va_zast hx hb hK hP (hD σ) hS k 2 ((wls_get (hW.n hn)).trans (by rw [went_3 (hW.sh hs)])) rfl hi d (fun H1 locs1 h1 _ h3 => ?_)
  rw [wls_set (σ' := sI σ k i.toNatClampNeg (vp_nar .boolean x)) (by rw [went_3 (hW.sh hs), sI_row]) sI_ne] at h1
  exact kk res hr H1 locs1 ls h1 h3 hl

theorem r_last (hC : Cok X w A own cc nL fr lo S Rf N) {i : Int32} {x : Int64} (k n : Nat) (hs : S k = (4, n)) (hn : Nat.blt k N = true) (hi : ¬ (i < 0 ∨ n ≤ i.toNatClampNeg)) (d : decode cc pc = .ok (.lastore, 1)) (kk : RF X w A nL Qf P (pc + 1) lv st (sL σ k i.toNatClampNeg x)) : RF X w A nL Qf P pc lv (.long x :: .int i :: .ref (wA w k) :: st) σ := by
  obtain ⟨p, l, e, R, s, m, args, below, meth, c, cells, slots⟩ := X
  obtain ⟨⟨hx, hb, hml, hown, hts⟩, hK, hA, hlk, hD, hR, hW, hX⟩ := hC
  dsimp only at hx hb hml hown hts hK hA hlk hR
  intro res hr H locs ls hP hS hl
  show W p l e R s m args below meth c H locs cells slots (Qf res) (F0 m pc ls _)
  refine va_last hx hb hK hP (hD σ) hS k 3 ((wls_get (hW.n hn)).trans (by rw [went_4 (hW.sh hs)])) rfl hi d (fun H1 locs1 h1 _ h3 => ?_)
  rw [wls_set (σ' := sL σ k i.toNatClampNeg x) (by rw [went_4 (hW.sh hs), sL_row]) sL_ne] at h1
  exact kk res hr H1 locs1 ls h1 h3 hl

theorem r_alen1 (hC : Cok X w A own cc nL fr lo S Rf N) (k n : Nat) (hs : S k = (1, n)) (hn : Nat.blt k N = true) {v : Int32} (hv : Int32.ofNat n = v) (d : decode cc pc = .ok (.arraylength, 1)) (kk : RF X w A nL Qf P (pc + 1) lv (.int v :: st) σ) : RF X w A nL Qf P pc lv (.ref (wA w k) :: st) σ := by
  obtain ⟨p, l, e, R, s, m, args, below, meth, c, cells, slots⟩ := X
  obtain ⟨⟨hx, hb, hml, hown, hts⟩, hK, hA, hlk, hD, hR, hW, hX⟩ := hC
  dsimp only at hx hb hml hown hts hK hA hlk hR
  intro res hr H locs ls hP hS hl
  show W p l e R s m args below meth c H locs cells slots (Qf res) (F0 m pc ls _)
  exact va_alen hx hb hK hP k 0 ((wls_get (hW.n hn)).trans (by rw [went_1 (hW.sh hs)])) rfl hv d (kk res hr H locs ls hP hS hl)

theorem r_alen2 (hC : Cok X w A own cc nL fr lo S Rf N) (k n : Nat) (hs : S k = (2, n)) (hn : Nat.blt k N = true) {v : Int32} (hv : Int32.ofNat n = v) (d : decode cc pc = .ok (.arraylength, 1)) (kk : RF X w A nL Qf P (pc + 1) lv (.int v :: st) σ) : RF X w A nL Qf P pc lv (.ref (wA w k) :: st) σ := by
  obtain ⟨p, l, e, R, s, m, args, below, meth, c, cells, slots⟩ := X
  obtain ⟨⟨hx, hb, hml, hown, hts⟩, hK, hA, hlk, hD, hR, hW, hX⟩ := hC
  dsimp only at hx hb hml hown hts hK hA hlk hR
  intro res hr H locs ls hP hS hl
  show W p l e R s m args below meth c H locs cells slots (Qf res) (F0 m pc ls _)
  exact va_alen hx hb hK hP k 1 ((wls_get (hW.n hn)).trans (by rw [went_2 (hW.sh hs)])) rfl hv d (kk res hr H locs ls hP hS hl)

theorem r_alen5 (hC : Cok X w A own cc nL fr lo S Rf N) (k n : Nat) (hs : S k = (5, n)) (hn : Nat.blt k N = true) {v : Int32} (hv : Int32.ofNat n = v) (d : decode cc pc = .ok (.arraylength, 1)) (kk : RF X w A nL Qf P (pc + 1) lv (.int v :: st) σ) : RF X w A nL Qf P pc lv (.ref (wA w k) :: st) σ := by
  obtain ⟨p, l, e, R, s, m, args, below, meth, c, cells, slots⟩ := X
  obtain ⟨⟨hx, hb, hml, hown, hts⟩, hK, hA, hlk, hD, hR, hW, hX⟩ := hC
  dsimp only at hx hb hml hown hts hK hA hlk hR
  intro res hr H locs ls hP hS hl
  show W p l e R s m args below meth c H locs cells slots (Qf res) (F0 m pc ls _)
  exact va_alen hx hb hK hP k 4 ((wls_get (hW.n hn)).trans (by rw [went_5 (hW.sh hs)])) rfl hv d (kk res hr H locs ls hP hS hl)

theorem r_alenV (hC : Cok X w A own cc nL fr lo S Rf N) (k : Nat) {n : Nat} (hs : S k = (7, n)) (hn : k < wN w) (d : decode cc pc = .ok (.arraylength, 1)) (kk : RF X w A nL Qf P (pc + 1) lv (.int (Int32.ofNat (σ.2.2.2 k)) :: st) σ) : RF X w A nL Qf P pc lv (.ref (wA w k) :: st) σ := by
  obtain ⟨p, l, e, R, s, m, args, below, meth, c, cells, slots⟩ := X
  obtain ⟨⟨hx, hb, hml, hown, hts⟩, hK, hA, hlk, hD, hR, hW, hX⟩ := hC
  dsimp only at hx hb hml hown hts hK hA hlk hR
  intro res hr H locs ls hP hS hl
  show W p l e R s m args below meth c H locs cells slots (Qf res) (F0 m pc ls _)
  exact va_alen (x := (σ.2.2.2 k, .inl (σ.1 k))) hx hb hK hP k 0 ((wls_get hn).trans (by rw [went_7 (hW.sh hs)])) rfl rfl d (kk res hr H locs ls hP hS hl)

theorem r_aald (hC : Cok X w A own cc nL fr lo S Rf N) {i : Int32} (k n c2 : Nat) (hs : S k = (5, n)) (hn : Nat.blt k N = true) (hi : ¬ (i < 0 ∨ n ≤ i.toNatClampNeg)) (hr2 : Rf k i.toNatClampNeg = some c2) (d : decode cc pc = .ok (.aaload, 1)) (kk : RF X w A nL Qf P (pc + 1) lv (.ref (wA w c2) :: st) σ) : RF X w A nL Qf P pc lv (.int i :: .ref (wA w k) :: st) σ := by
  obtain ⟨p, l, e, R, s, m, args, below, meth, c, cells, slots⟩ := X
  obtain ⟨⟨hx, hb, hml, hown, hts⟩, hK, hA, hlk, hD, hR, hW, hX⟩ := hC
  dsimp only at hx hb hml hown hts hK hA hlk hR
  intro res hr H locs ls hP hS hl
  show W p l e R s m args below meth c H locs cells slots (Qf res) (F0 m pc ls _)
  have hlt : i.toNatClampNeg < n := Nat.not_le.mp fun q => hi (Or.inr q)
  have hcell := hP k _ ((wls_get (hW.n hn)).trans (by rw [went_5 (hW.sh hs)]))
  refine W.aald (v := .ref (wA w c2)) (ty := .array .int) hx hb hcell ((hK.2 4 _ rfl).1 n _) rfl (fun q => by cases q) (by show ¬ (i < 0 ∨ (arrV _ _ _).slots.size ≤ _); rw [arrV_size]; exact hi) (by show (arrV _ _ _).slots[_]? = _; rw [arrV_read _ _ hlt, hW.rf]; show some (va_rf (Option.map (wA w) (Rf k i.toNatClampNeg))) = _; rw [hr2]; rfl) rfl rfl d ?_
  exact kk res hr H locs ls hP hS hl

theorem r_aaldR (hC : Cok X w A own cc nL fr lo S Rf N) {i : Int32} (k n : Nat) {q : Option Nat} (hs : S k = (6, n)) (hn : Nat.blt k N = true) (hi : ¬ (i < 0 ∨ n ≤ i.toNatClampNeg)) (hq : σ.2.2.1 k i.toNatClampNeg = q) (d : decode cc pc = .ok (.aaload, 1)) (kk : RF X w A nL Qf P (pc + 1) lv (va_rf (q.map (wA w)) :: st) σ) : RF X w A nL Qf P pc lv (.int i :: .ref (wA w k) :: st) σ := by
  obtain ⟨p, l, e, R, s, m, args, below, meth, c, cells, slots⟩ := X
  obtain ⟨⟨hx, hb, hml, hown, hts⟩, hK, hA, hlk, hD, hR, hW, hX⟩ := hC
  dsimp only at hx hb hml hown hts hK hA hlk hR
  intro res hr H locs ls hP hS hl
  show W p l e R s m args below meth c H locs cells slots (Qf res) (F0 m pc ls _)
  subst hq
  exact va_aldq (f := fun i => (σ.2.2.1 k i).map (wA w)) hx hb hK hP k 5 ((wls_get (hW.n hn)).trans (by rw [went_6 (hW.sh hs)])) rfl hi d (kk res hr H locs ls hP hS hl)

theorem r_getI (hC : Cok X w A own cc nL fr lo S Rf N) {ci : Nat} {C : String} {T : u_T} {n : Nat} {ty : Nat → FieldType} (hc : ClsOk ci C T n ty) {idx : Nat} (k j : Nat) (hf : fkd ci j = 0) (hs : S k = (0, ci)) (hn : k < wN w) (hj : Nat.blt j n = true) (lk : Cond.fieldLink own idx (T j).1 (T j).2.1 (T j).2.2.1 ∈ gw) (d : decode cc pc = .ok (.getfield idx, 3)) (kk : RF X w A nL Qf P (pc + 3) lv (.int (σ.1 k j) :: st) σ) : RF X w A nL Qf P pc lv (.ref (wA w k) :: st) σ := by
  obtain ⟨p, l, e, R, s, m, args, below, meth, c, cells, slots⟩ := X
  obtain ⟨⟨hx, hb, hml, hown, hts⟩, hK, hA, hlk, hD, hR, hW, hX⟩ := hC
  dsimp only at hx hb hml hown hts hK hA hlk hR
  intro res hr H locs ls hP hS hl
  show W p l e R s m args below meth c H locs cells slots (Qf res) (F0 m pc ls _)
  exact va_get hx hb hts hc.ws hown hK hP k ((wls_get hn).trans (by rw [went_0 (hW.sh hs)])) hc.cl j (Nat.le_of_ble_eq_true hj) (hts _ lk) (fun _ h9 => h9) ((map_get _ (by rw [hc.nf]; exact Nat.le_of_ble_eq_true hj)).trans (by rw [fv_0 hf])) d (kk res hr H locs ls hP hS hl)

theorem r_getZ (hC : Cok X w A own cc nL fr lo S Rf N) {ci : Nat} {C : String} {T : u_T} {n : Nat} {ty : Nat → FieldType} (hc : ClsOk ci C T n ty) {idx : Nat} (k j : Nat) (hf : fkd ci j = 4) (hs : S k = (0, ci)) (hn : k < wN w) (hj : Nat.blt j n = true) (lk : Cond.fieldLink own idx (T j).1 (T j).2.1 (T j).2.2.1 ∈ gw) (d : decode cc pc = .ok (.getfield idx, 3)) (kk : RF X w A nL Qf P (pc + 3) lv (.int (σ.1 k j) :: st) σ) : RF X w A nL Qf P pc lv (.ref (wA w k) :: st) σ := by
  obtain ⟨p, l, e, R, s, m, args, below, meth, c, cells, slots⟩ := X
  obtain ⟨⟨hx, hb, hml, hown, hts⟩, hK, hA, hlk, hD, hR, hW, hX⟩ := hC
  dsimp only at hx hb hml hown hts hK hA hlk hR
  intro res hr H locs ls hP hS hl
  show W p l e R s m args below meth c H locs cells slots (Qf res) (F0 m pc ls _)
  exact va_get hx hb hts hc.ws hown hK hP k ((wls_get hn).trans (by rw [went_0 (hW.sh hs)])) hc.cl j (Nat.le_of_ble_eq_true hj) (hts _ lk) (fun _ h9 => h9) ((map_get _ (by rw [hc.nf]; exact Nat.le_of_ble_eq_true hj)).trans (by rw [fv_4 hf])) d (kk res hr H locs ls hP hS hl)

theorem r_getL (hC : Cok X w A own cc nL fr lo S Rf N) {ci : Nat} {C : String} {T : u_T} {n : Nat} {ty : Nat → FieldType} (hc : ClsOk ci C T n ty) {idx : Nat} (k j : Nat) (hf : fkd ci j = 1) (hs : S k = (0, ci)) (hn : k < wN w) (hj : Nat.blt j n = true) (lk : Cond.fieldLink own idx (T j).1 (T j).2.1 (T j).2.2.1 ∈ gw) (d : decode cc pc = .ok (.getfield idx, 3)) (kk : RF X w A nL Qf P (pc + 3) lv (.long (σ.2.1 k j) :: st) σ) : RF X w A nL Qf P pc lv (.ref (wA w k) :: st) σ := by
  obtain ⟨p, l, e, R, s, m, args, below, meth, c, cells, slots⟩ := X
  obtain ⟨⟨hx, hb, hml, hown, hts⟩, hK, hA, hlk, hD, hR, hW, hX⟩ := hC
  dsimp only at hx hb hml hown hts hK hA hlk hR
  intro res hr H locs ls hP hS hl
  show W p l e R s m args below meth c H locs cells slots (Qf res) (F0 m pc ls _)
  exact va_get hx hb hts hc.ws hown hK hP k ((wls_get hn).trans (by rw [went_0 (hW.sh hs)])) hc.cl j (Nat.le_of_ble_eq_true hj) (hts _ lk) (fun _ h9 => h9) ((map_get _ (by rw [hc.nf]; exact Nat.le_of_ble_eq_true hj)).trans (by rw [fv_1 hf])) d (kk res hr H locs ls hP hS hl)

theorem r_getR (hC : Cok X w A own cc nL fr lo S Rf N) {ci : Nat} {C : String} {T : u_T} {n : Nat} {ty : Nat → FieldType} (hc : ClsOk ci C T n ty) {idx : Nat} (k j : Nat) (c2 : Nat) (hr2 : Rf k j = some c2) (hf : fkd ci j = 2) (hs : S k = (0, ci)) (hn : k < wN w) (hj : Nat.blt j n = true) (lk : Cond.fieldLink own idx (T j).1 (T j).2.1 (T j).2.2.1 ∈ gw) (d : decode cc pc = .ok (.getfield idx, 3)) (kk : RF X w A nL Qf P (pc + 3) lv (.ref (wA w c2) :: st) σ) : RF X w A nL Qf P pc lv (.ref (wA w k) :: st) σ := by
  obtain ⟨p, l, e, R, s, m, args, below, meth, c, cells, slots⟩ := X
  obtain ⟨⟨hx, hb, hml, hown, hts⟩, hK, hA, hlk, hD, hR, hW, hX⟩ := hC
  dsimp only at hx hb hml hown hts hK hA hlk hR
  intro res hr H locs ls hP hS hl
  show W p l e R s m args below meth c H locs cells slots (Qf res) (F0 m pc ls _)
  exact va_get hx hb hts hc.ws hown hK hP k ((wls_get hn).trans (by rw [went_0 (hW.sh hs)])) hc.cl j (Nat.le_of_ble_eq_true hj) (hts _ lk) (fun _ h9 => h9) ((map_get _ (by rw [hc.nf]; exact Nat.le_of_ble_eq_true hj)).trans (by rw [fv_2 hf, hW.rf, hr2]; rfl)) d (kk res hr H locs ls hP hS hl)

theorem r_getD (hC : Cok X w A own cc nL fr lo S Rf N) {ci : Nat} {C : String} {T : u_T} {n : Nat} {ty : Nat → FieldType} (hc : ClsOk ci C T n ty) {idx : Nat} (k j : Nat) {q : Option Nat} (hq : σ.2.2.1 k j = q) (hf : fkd ci j = 3) (hs : S k = (0, ci)) (hn : k < wN w) (hj : Nat.blt j n = true) (lk : Cond.fieldLink own idx (T j).1 (T j).2.1 (T j).2.2.1 ∈ gw) (d : decode cc pc = .ok (.getfield idx, 3)) (kk : RF X w A nL Qf P (pc + 3) lv (va_rf (q.map (wA w)) :: st) σ) : RF X w A nL Qf P pc lv (.ref (wA w k) :: st) σ := by
  obtain ⟨p, l, e, R, s, m, args, below, meth, c, cells, slots⟩ := X
  obtain ⟨⟨hx, hb, hml, hown, hts⟩, hK, hA, hlk, hD, hR, hW, hX⟩ := hC
  dsimp only at hx hb hml hown hts hK hA hlk hR
  intro res hr H locs ls hP hS hl
  show W p l e R s m args below meth c H locs cells slots (Qf res) (F0 m pc ls _)
  subst hq
  exact va_get hx hb hts hc.ws hown hK hP k ((wls_get hn).trans (by rw [went_0 (hW.sh hs)])) hc.cl j (Nat.le_of_ble_eq_true hj) (hts _ lk) (fun _ h9 => h9) ((map_get _ (by rw [hc.nf]; exact Nat.le_of_ble_eq_true hj)).trans (by rw [fv_3 hf])) d (kk res hr H locs ls hP hS hl)

theorem r_putI (hC : Cok X w A own cc nL fr lo S Rf N) {ci : Nat} {C : String} {T : u_T} {n : Nat} {ty : Nat → FieldType} (hc : ClsOk ci C T n ty) {idx : Nat} (k j : Nat) {v : Int32} (hf : fkd ci j = 0) (hty : ty j = .int) (hs : S k = (0, ci)) (hn : k < wN w) (hj : Nat.blt j n = true) (hfin : (T j).2.2.2 = false) (lk : Cond.fieldLink own idx (T j).1 (T j).2.1 (T j).2.2.1 ∈ gw) (d : decode cc pc = .ok (.putfield idx, 3)) (kk : RF X w A nL Qf P (pc + 3) lv st (sI σ k j v)) : RF X w A nL Qf P pc lv (.int v :: .ref (wA w k) :: st) σ := by
  obtain ⟨p, l, e, R, s, m, args, below, meth, c, cells, slots⟩ := X
  obtain ⟨⟨hx, hb, hml, hown, hts⟩, hK, hA, hlk, hD, hR, hW, hX⟩ := hC
  dsimp only at hx hb hml hown hts hK hA hlk hR
  intro res hr H locs ls hP hS hl
  show W p l e R s m args below meth c H locs cells slots (Qf res) (F0 m pc ls _)
  refine va_put (ty := .int) hx hb hts hc.ws ty hc.ty hc.nm hown hK hP (hD σ) hS k ((wls_get hn).trans (by rw [went_0 (hW.sh hs)])) hc.cl j (Nat.le_of_ble_eq_true hj) (hts _ lk) (fun _ h9 => h9) hfin (by rw [hc.ty j (Nat.le_of_ble_eq_true hj), hty]) rfl rfl (by simp [hc.nf]; exact Nat.le_of_ble_eq_true hj) d (fun H1 locs1 h1 _ h3 => ?_)
  rw [wls_set (σ' := sI σ k j v) (by rw [went_0 (hW.sh hs), fput (by rw [fv_0 hf, sI_at]) sI_fv]) sI_ne] at h1
  exact kk res hr H1 locs1 ls h1 h3 hl

theorem r_putZ (hC : Cok X w A own cc nL fr lo S Rf N) {ci : Nat} {C : String} {T : u_T} {n : Nat} {ty : Nat → FieldType} (hc : ClsOk ci C T n ty) {idx : Nat} (k j : Nat) {v : Int32} (hz : v = 0 ∨ v = 1) (hf : fkd ci j = 4) (hty : ty j = .boolean) (hs : S k = (0, ci)) (hn : k < wN w) (hj : Nat.blt j n = true) (hfin : (T j).2.2.2 = false) (lk : Cond.fieldLink own idx (T j).1 (T j).2.1 (T j).2.2.1 ∈ gw) (d : decode cc pc = .ok (.putfield idx, 3)) (kk : RF X w A nL Qf P (pc + 3) lv st (sI σ k j v)) : RF X w A nL Qf P pc lv (.int v :: .ref (wA w k) :: st) σ := by
  obtain ⟨p, l, e, R, s, m, args, below, meth, c, cells, slots⟩ := X
  obtain ⟨⟨hx, hb, hml, hown, hts⟩, hK, hA, hlk, hD, hR, hW, hX⟩ := hC
  dsimp only at hx hb hml hown hts hK hA hlk hR
  intro res hr H locs ls hP hS hl
  show W p l e R s m args below meth c H locs cells slots (Qf res) (F0 m pc ls _)
  refine va_put (ty := .boolean) hx hb hts hc.ws ty hc.ty hc.nm hown hK hP (hD σ) hS k ((wls_get hn).trans (by rw [went_0 (hW.sh hs)])) hc.cl j (Nat.le_of_ble_eq_true hj) (hts _ lk) (fun _ h9 => h9) hfin (by rw [hc.ty j (Nat.le_of_ble_eq_true hj), hty]) (by rcases hz with rfl | rfl <;> rfl) (by rcases hz with rfl | rfl <;> rfl) (by simp [hc.nf]; exact Nat.le_of_ble_eq_true hj) d (fun H1 locs1 h1 _ h3 => ?_)
  rw [wls_set (σ' := sI σ k j v) (by rw [went_0 (hW.sh hs), fput (by rw [fv_4 hf, sI_at]) sI_fv]) sI_ne] at h1
  exact kk res hr H1 locs1 ls h1 h3 hl

theorem r_putL (hC : Cok X w A own cc nL fr lo S Rf N) {ci : Nat} {C : String} {T : u_T} {n : Nat} {ty : Nat → FieldType} (hc : ClsOk ci C T n ty) {idx : Nat} (k j : Nat) {v : Int64} (hf : fkd ci j = 1) (hty : ty j = .long) (hs : S k = (0, ci)) (hn : k < wN w) (hj : Nat.blt j n = true) (hfin : (T j).2.2.2 = false) (lk : Cond.fieldLink own idx (T j).1 (T j).2.1 (T j).2.2.1 ∈ gw) (d : decode cc pc = .ok (.putfield idx, 3)) (kk : RF X w A nL Qf P (pc + 3) lv st (sL σ k j v)) : RF X w A nL Qf P pc lv (.long v :: .ref (wA w k) :: st) σ := by
  obtain ⟨p, l, e, R, s, m, args, below, meth, c, cells, slots⟩ := X
  obtain ⟨⟨hx, hb, hml, hown, hts⟩, hK, hA, hlk, hD, hR, hW, hX⟩ := hC
  dsimp only at hx hb hml hown hts hK hA hlk hR
  intro res hr H locs ls hP hS hl
  show W p l e R s m args below meth c H locs cells slots (Qf res) (F0 m pc ls _)
  refine va_put (ty := .long) hx hb hts hc.ws ty hc.ty hc.nm hown hK hP (hD σ) hS k ((wls_get hn).trans (by rw [went_0 (hW.sh hs)])) hc.cl j (Nat.le_of_ble_eq_true hj) (hts _ lk) (fun _ h9 => h9) hfin (by rw [hc.ty j (Nat.le_of_ble_eq_true hj), hty]) rfl rfl (by simp [hc.nf]; exact Nat.le_of_ble_eq_true hj) d (fun H1 locs1 h1 _ h3 => ?_)
  rw [wls_set (σ' := sL σ k j v) (by rw [went_0 (hW.sh hs), fput (by rw [fv_1 hf, sL_at]) sL_fv]) sL_ne] at h1
  exact kk res hr H1 locs1 ls h1 h3 hl

theorem r_mmax (hC : Cok X w A own cc nL fr lo S Rf N) {x y : Int32} {idx : Nat} (hfr : 1 ≤ fr) (hlo : (st.map fun v => v.category).sum + 13 ≤ lo) (lk : Cond.methodLink own idx Lib.Math.max.name ∈ gw) (m1 : Cond.static Lib.Math.max.name ∈ gw) (m2 : Cond.initialized "java/lang/Math" ∈ gw) (m3 : Cond.code Lib.Math.max.name Lib.Math.max.code 2 (some .int) ∈ gw) (d : decode cc pc = .ok (.invokestatic idx, 3)) (k : RF X w A nL Qf P (pc + 3) lv (.int (if x < y then y else x) :: st) σ) : RF X w A nL Qf P pc lv (.int y :: .int x :: st) σ := by
  obtain ⟨p, l, e, R, s, m, args, below, meth, c, cells, slots⟩ := X
  obtain ⟨⟨hx, hb, hml, hown, hts⟩, hK, hA, hlk, hD, hR, hW, hX⟩ := hC
  dsimp only at hx hb hml hown hts hK hA hlk hR
  intro res hr H locs ls hP hS hl
  show W p l e R s m args below meth c H locs cells slots (Qf res) (F0 m pc ls _)
  exact va_mmax hx hb (hml.trans hl.1.symm) hown (hts _ lk) (hts _ m1) (hts _ m2) (hts _ m3) (Nat.le_trans hfr hR.1) (Nat.le_trans hlo hR.2.1) hR.2.2.1 hR.2.2.2 d (k res hr H locs ls hP hS hl)

theorem r_mmin (hC : Cok X w A own cc nL fr lo S Rf N) {x y : Int32} {idx : Nat} (hfr : 1 ≤ fr) (hlo : (st.map fun v => v.category).sum + 13 ≤ lo) (lk : Cond.methodLink own idx Lib.Math.min.name ∈ gw) (m1 : Cond.static Lib.Math.min.name ∈ gw) (m2 : Cond.initialized "java/lang/Math" ∈ gw) (m3 : Cond.code Lib.Math.min.name Lib.Math.min.code 2 (some .int) ∈ gw) (d : decode cc pc = .ok (.invokestatic idx, 3)) (k : RF X w A nL Qf P (pc + 3) lv (.int (if y < x then y else x) :: st) σ) : RF X w A nL Qf P pc lv (.int y :: .int x :: st) σ := by
  obtain ⟨p, l, e, R, s, m, args, below, meth, c, cells, slots⟩ := X
  obtain ⟨⟨hx, hb, hml, hown, hts⟩, hK, hA, hlk, hD, hR, hW, hX⟩ := hC
  dsimp only at hx hb hml hown hts hK hA hlk hR
  intro res hr H locs ls hP hS hl
  show W p l e R s m args below meth c H locs cells slots (Qf res) (F0 m pc ls _)
  exact va_mmin hx hb (hml.trans hl.1.symm) hown (hts _ lk) (hts _ m1) (hts _ m2) (hts _ m3) (Nat.le_trans hfr hR.1) (Nat.le_trans hlo hR.2.1) hR.2.2.1 hR.2.2.2 d (k res hr H locs ls hP hS hl)

theorem r_mabs (hC : Cok X w A own cc nL fr lo S Rf N) {x : Int32} {idx : Nat} (hfr : 1 ≤ fr) (hlo : (st.map fun v => v.category).sum + 13 ≤ lo) (lk : Cond.methodLink own idx Lib.Math.abs.name ∈ gw) (m1 : Cond.static Lib.Math.abs.name ∈ gw) (m2 : Cond.initialized "java/lang/Math" ∈ gw) (m3 : Cond.code Lib.Math.abs.name Lib.Math.abs.code 1 (some .int) ∈ gw) (d : decode cc pc = .ok (.invokestatic idx, 3)) (k : RF X w A nL Qf P (pc + 3) lv (.int (if 0 ≤ x then x else 0 - x) :: st) σ) : RF X w A nL Qf P pc lv (.int x :: st) σ := by
  obtain ⟨p, l, e, R, s, m, args, below, meth, c, cells, slots⟩ := X
  obtain ⟨⟨hx, hb, hml, hown, hts⟩, hK, hA, hlk, hD, hR, hW, hX⟩ := hC
  dsimp only at hx hb hml hown hts hK hA hlk hR
  intro res hr H locs ls hP hS hl
  show W p l e R s m args below meth c H locs cells slots (Qf res) (F0 m pc ls _)
  exact va_mabs hx hb (hml.trans hl.1.symm) hown (hts _ lk) (hts _ m1) (hts _ m2) (hts _ m3) (Nat.le_trans hfr hR.1) (Nat.le_trans hlo hR.2.1) hR.2.2.1 hR.2.2.2 d (k res hr H locs ls hP hS hl)

theorem r_mabsL (hC : Cok X w A own cc nL fr lo S Rf N) {x : Int64} {idx : Nat} (hfr : 1 ≤ fr) (hlo : (st.map fun v => v.category).sum + 13 ≤ lo) (lk : Cond.methodLink own idx Lib.MathLoose.abs_long.x ∈ gw) (m1 : Cond.static Lib.MathLoose.abs_long.x ∈ gw) (m2 : Cond.initialized "java/lang/Math" ∈ gw) (m3 : Cond.code Lib.MathLoose.abs_long.x Lib.MathLoose.abs_long.code 2 (some .long) ∈ gw) (d : decode cc pc = .ok (.invokestatic idx, 3)) (k : RF X w A nL Qf P (pc + 3) lv (.long (if 0 < x then x else -x) :: st) σ) : RF X w A nL Qf P pc lv (.long x :: st) σ := by
  obtain ⟨p, l, e, R, s, m, args, below, meth, c, cells, slots⟩ := X
  obtain ⟨⟨hx, hb, hml, hown, hts⟩, hK, hA, hlk, hD, hR, hW, hX⟩ := hC
  dsimp only at hx hb hml hown hts hK hA hlk hR
  intro res hr H locs ls hP hS hl
  show W p l e R s m args below meth c H locs cells slots (Qf res) (F0 m pc ls _)
  exact va_mabs_long hx hb (hml.trans hl.1.symm) hown (hts _ lk) (hts _ m1) (hts _ m2) (hts _ m3) (Nat.le_trans hfr hR.1) (Nat.le_trans hlo hR.2.1) hR.2.2.1 hR.2.2.2 d (k res hr H locs ls hP hS hl)

theorem r_copyi (hC : Cok X w A own cc nL fr lo S Rf N) {sp dp n : Int32} {idx : Nat} (k0 k1 n0 n1 : Nat) (hs0 : S k0 = (1, n0)) (hs1 : S k1 = (1, n1)) (hn0 : Nat.blt k0 N = true) (hn1 : Nat.blt k1 N = true) (hg : ¬ sp < 0 ∧ ¬ dp < 0 ∧ ¬ n < 0 ∧ sp.toNatClampNeg + n.toNatClampNeg ≤ n0 ∧ dp.toNatClampNeg + n.toNatClampNeg ≤ n1) (hfr : 1 ≤ fr) (hlo : (st.map fun v => v.category).sum + (nativeFrameWords "java/lang/System" "arraycopy" 5 + 11) ≤ lo) (lk : Cond.methodLink own idx arraycopyName ∈ gw) (m1 : Cond.native arraycopyName ∈ gw) (m2 : Cond.static arraycopyName ∈ gw) (m3 : Cond.initialized "java/lang/System" ∈ gw) (d : decode cc pc = .ok (.invokestatic idx, 3)) (kk : RF X w A nL Qf P (pc + 3) lv st (sA σ k1 (va_cpy (σ.1 k0) (σ.1 k1) sp.toNatClampNeg dp.toNatClampNeg n.toNatClampNeg))) : RF X w A nL Qf P pc lv (.int n :: .int dp :: .ref (wA w k1) :: .int sp :: .ref (wA w k0) :: st) σ := by
  obtain ⟨p, l, e, R, s, m, args, below, meth, c, cells, slots⟩ := X
  obtain ⟨⟨hx, hb, hml, hown, hts⟩, hK, hA, hlk, hD, hR, hW, hX⟩ := hC
  dsimp only at hx hb hml hown hts hK hA hlk hR
  intro res hr H locs ls hP hS hl
  show W p l e R s m args below meth c H locs cells slots (Qf res) (F0 m pc ls _)
  refine va_copyi (ty := .int) hx hb (hml.trans hl.1.symm) hown (hts _ lk) (hts _ m1) (hts _ m2) (hts _ m3) hK hP (hD σ) hS k0 k1 0 0 ((wls_get (hW.n hn0)).trans (by rw [went_1 (hW.sh hs0)])) ((wls_get (hW.n hn1)).trans (by rw [went_1 (hW.sh hs1)])) rfl rfl rfl hg.1 hg.2.1 hg.2.2.1 hg.2.2.2.1 hg.2.2.2.2 (fun _ _ => rfl) (Nat.le_trans hfr hR.1) (Nat.le_trans hlo hR.2.1) d (fun H1 locs1 h1 _ h3 => ?_)
  rw [wls_set (σ' := sA σ k1 (va_cpy (σ.1 k0) (σ.1 k1) sp.toNatClampNeg dp.toNatClampNeg n.toNatClampNeg)) (by rw [went_1 (hW.sh hs1), sA_row]) sA_ne] at h1
  exact kk res hr H1 locs1 ls h1 h3 hl
end RFROWS
end
section
/-! CONTRACTS: what a method does to the world, by its program's result -/
def Aw (w : Wd) (sz : Nat) : Nat → Prop := fun q => (∃ k, k < wN w ∧ q = wA w k) ∨ sz ≤ q
def Pw (w : Wd) (σ : St) (sz : Nat) (U : State) : Prop := U.heap.size = sz ∧ va_P (wD w) classes (wls w σ) U.heap ∧ va_K (wD w) classes (wty w) U ∧ va_D (fun _ => True) (wls w σ) ∧ Sx w (Aw w sz) U U.heap
def Bw (w : Wd) (σ : St) (t : State) : Prop := va_P (wD w) classes (wls w σ) t.heap ∧ va_K (wD w) classes (wty w) t
def rmo (fr lo : Nat) : Room := { frames := fr, cells := 0, slots := 0, locals := lo }
def MtI (l : Launch) (y : MethodName) (cc : ByteArray) (nL : Nat) (ret : FieldType) (fr lo : Nat) (w : Wd) (av : List Value) (σ : St) (res : Int32 × St) : Prop :=
  ∀ sz, Met l y (.code y cc nL (some ret) :: gw) (rmo fr lo) (va_Pc av (Pw w σ sz)) (va_Qi (fun r u => (r, u) = res) (Bw w) (Aw w sz)) 0 0 (Aw w sz)
def MtL (l : Launch) (y : MethodName) (cc : ByteArray) (nL : Nat) (ret : FieldType) (fr lo : Nat) (w : Wd) (av : List Value) (σ : St) (res : Int64 × St) : Prop :=
  ∀ sz, Met l y (.code y cc nL (some ret) :: gw) (rmo fr lo) (va_Pc av (Pw w σ sz)) (va_Ql (fun r u => (r, u) = res) (Bw w) (Aw w sz)) 0 0 (Aw w sz)
def MtV (l : Launch) (y : MethodName) (cc : ByteArray) (nL : Nat) (fr lo : Nat) (w : Wd) (av : List Value) (σ : St) (res : St) : Prop :=
  ∀ sz, Met l y (.code y cc nL none :: gw) (rmo fr lo) (va_Pc av (Pw w σ sz)) (va_Qv (fun u => u = res) (Bw w) (Aw w sz)) 0 0 (Aw w sz)
def xmeth (X : Mc) : Method := X.2.2.2.2.2.2.2.2.1
def QI (X : Mc) (w : Wd) (res : Int32 × St) : State → Prop := MQ X.2.2.2.2.2.2.2.1 (va_Qi (fun r u => (r, u) = res) (Bw w) (Aw w (xs_ X).heap.size)) X.2.2.2.2.2.2.1 (xs_ X) X.2.2.2.2.2.2.2.2.2.2.1 X.2.2.2.2.2.2.2.2.2.2.2 (Aw w (xs_ X).heap.size)
def QL (X : Mc) (w : Wd) (res : Int64 × St) : State → Prop := MQ X.2.2.2.2.2.2.2.1 (va_Ql (fun r u => (r, u) = res) (Bw w) (Aw w (xs_ X).heap.size)) X.2.2.2.2.2.2.1 (xs_ X) X.2.2.2.2.2.2.2.2.2.2.1 X.2.2.2.2.2.2.2.2.2.2.2 (Aw w (xs_ X).heap.size)
def QV (X : Mc) (w : Wd) (res : St) : State → Prop := MQ X.2.2.2.2.2.2.2.1 (va_Qv (fun u => u = res) (Bw w) (Aw w (xs_ X).heap.size)) X.2.2.2.2.2.2.1 (xs_ X) X.2.2.2.2.2.2.2.2.2.2.1 X.2.2.2.2.2.2.2.2.2.2.2 (Aw w (xs_ X).heap.size)
theorem Aw_D {w : Wd} {σ : St} {sz : Nat} (h : va_D (fun _ => True) (wls w σ)) (τ : St) : va_D (Aw w sz) (wls w τ) := by
  have key : ∀ (ρ : St) (k : Nat) (q : Nat × va_E), (wls w ρ)[k]? = some q → k < wN w ∧ q.1 = wA w k := by
    intro ρ k q hk
    have hl := (List.getElem?_eq_some_iff.mp hk).1
    rw [wls_len] at hl
    rw [wls_get hl] at hk
    cases hk
    exact ⟨hl, rfl⟩
  refine ⟨fun i j p q hi hj e => ?_, fun k q hk => ?_⟩
  · obtain ⟨h1, e1⟩ := key τ i p hi
    obtain ⟨h2, e2⟩ := key τ j q hj
    exact h.1 i j _ _ (wls_get h1) (wls_get h2) (by rw [← e1, ← e2]; exact e)
  · obtain ⟨h1, e1⟩ := key τ k q hk
    exact Or.inl ⟨k, h1, e1⟩
section RFCALLS
variable {X : Mc} {w : Wd} {A : Nat → Prop} {own : String} {cc : ByteArray} {nL fr lo : Nat} {S : Nat → Nat × Nat} {Rf : Nat → Nat → Option Nat} {N : Nat} {ρ : Type} {Qf : ρ → State → Prop} {P P' : Option ρ} {pc : Nat} {lv lv' : List (Nat × Value)} {st : List Value} {σ : St}
/-- returns -/
theorem r_iret (hC : Cok X w (Aw w (xs_ X).heap.size) own cc nL fr lo S Rf N) {r : Int32} {ret : FieldType} (hret : (xmeth X).sig.returnType = some ret) (hn : narrow ret (.int r) = .int r) (d : decode cc pc = .ok (.ireturn, 1)) : RF X w (Aw w (xs_ X).heap.size) nL (QI X w) (some (r, σ)) pc lv [.int r] σ := by
  obtain ⟨p, l, e, R, s, m, args, below, meth, c, cells, slots⟩ := X
  obtain ⟨⟨hx, hb, hml, hown, hts⟩, hK, hA, hlk, hD, hR, hW, hX⟩ := hC
  dsimp only at hx hb hml hown hts hK hA hlk hR
  intro res hr H locs ls hP hS hl
  cases hr
  exact W.zret (v := r) hx hb hret hn (fun t ht hW => ⟨⟨r, σ, rfl, rfl, by rw [ht]; exact hP, va_K.moved hW.alike hK⟩, hS.F ht⟩) hS.2.2 d hlk
theorem r_lret (hC : Cok X w (Aw w (xs_ X).heap.size) own cc nL fr lo S Rf N) {r : Int64} (hret : (xmeth X).sig.returnType = some .long) (d : decode cc pc = .ok (.lreturn, 1)) : RF X w (Aw w (xs_ X).heap.size) nL (QL X w) (some (r, σ)) pc lv [.long r] σ := by
  obtain ⟨p, l, e, R, s, m, args, below, meth, c, cells, slots⟩ := X
  obtain ⟨⟨hx, hb, hml, hown, hts⟩, hK, hA, hlk, hD, hR, hW, hX⟩ := hC
  dsimp only at hx hb hml hown hts hK hA hlk hR
  intro res hr H locs ls hP hS hl
  cases hr
  exact W.lret (v := r) hx hb hret (fun t ht hW => ⟨⟨r, σ, rfl, rfl, by rw [ht]; exact hP, va_K.moved hW.alike hK⟩, hS.F ht⟩) hS.2.2 d hlk
theorem r_vret (hC : Cok X w (Aw w (xs_ X).heap.size) own cc nL fr lo S Rf N) (hret : (xmeth X).sig.returnType = none) (d : decode cc pc = .ok (.return_, 1)) : RF X w (Aw w (xs_ X).heap.size) nL (QV X w) (some σ) pc lv [] σ := by
  obtain ⟨p, l, e, R, s, m, args, below, meth, c, cells, slots⟩ := X
  obtain ⟨⟨hx, hb, hml, hown, hts⟩, hK, hA, hlk, hD, hR, hW, hX⟩ := hC
  dsimp only at hx hb hml hown hts hK hA hlk hR
  intro res hr H locs ls hP hS hl
  cases hr
  exact W.vret hx hb hret (fun t ht hW => ⟨⟨σ, rfl, rfl, by rw [ht]; exact hP, va_K.moved hW.alike hK⟩, hS.F ht⟩) hS.2.2 d hlk
end RFCALLS
/-- a method's contract out of its body's walk -/
theorem mt_I {l : Launch} {y : MethodName} {cc : ByteArray} {nL : Nat} {ret : FieldType} {fr lo : Nat} {w : Wd} {av : List Value} {σ : St} {S : Nat → Nat × Nat} {Rf : Nat → Nat → Option Nat} {N : Nat} {P : Option (Int32 × St)} (hy : plainName y.cls = true) (hav : Nat.ble (lg_sl av).length nL = true) (hW : HWd w S Rf N)
    (body : ∀ X : Mc, X.2.1 = l → Cok X w (Aw w (xs_ X).heap.size) y.cls cc nL fr lo S Rf N → (xmeth X).sig.returnType = some ret → RF X w (Aw w (xs_ X).heap.size) nL (QI X w) P 0 (lv_args 0 av) [] σ) : ∀ res, P = some res → MtI l y cc nL ret fr lo w av σ res := by
  intro res hres sz
  refine Met.ofW (cc := cc) (maxL := nL) (ret := some ret) hy rfl ?_
  intro p e s m args below meth c s₁ B hml hv
  obtain ⟨rfl, hsz, hP, hK, hD0, hX⟩ := hv
  subst hsz
  have hts := atoms_spec (ws := .code y cc nL (some ret) :: gw) B.pre
  have hl := lv_entry av (n := nL) (Nat.le_of_ble_eq_true hav)
  rw [lg_entry_eq]
  exact body (p, l, e, rmo fr lo, s, m, av.toArray, below, meth, c, 0, 0) rfl ⟨⟨B.exec, B.bytes, hml, findClass_of_methodNamed B.named, fun w9 h9 => hts w9 (List.mem_cons_of_mem _ h9)⟩, hK, fun q h => Or.inr h, B.notSynchronized, fun τ => Aw_D hD0 τ, ⟨Nat.le_refl _, Nat.le_refl _, Nat.zero_le _, Nat.zero_le _⟩, hW, hX⟩ B.returns res hres s.heap [] _ hP va_S.rf hl
theorem mt_L {l : Launch} {y : MethodName} {cc : ByteArray} {nL : Nat} {ret : FieldType} {fr lo : Nat} {w : Wd} {av : List Value} {σ : St} {S : Nat → Nat × Nat} {Rf : Nat → Nat → Option Nat} {N : Nat} {P : Option (Int64 × St)} (hy : plainName y.cls = true) (hav : Nat.ble (lg_sl av).length nL = true) (hW : HWd w S Rf N)
    (body : ∀ X : Mc, X.2.1 = l → Cok X w (Aw w (xs_ X).heap.size) y.cls cc nL fr lo S Rf N → (xmeth X).sig.returnType = some ret → RF X w (Aw w (xs_ X).heap.size) nL (QL X w) P 0 (lv_args 0 av) [] σ) : ∀ res, P = some res → MtL l y cc nL ret fr lo w av σ res := by
  intro res hres sz
  refine Met.ofW (cc := cc) (maxL := nL) (ret := some ret) hy rfl ?_
  intro p e s m args below meth c s₁ B hml hv
  obtain ⟨rfl, hsz, hP, hK, hD0, hX⟩ := hv
  subst hsz
  have hts := atoms_spec (ws := .code y cc nL (some ret) :: gw) B.pre
  have hl := lv_entry av (n := nL) (Nat.le_of_ble_eq_true hav)
  rw [lg_entry_eq]
  exact body (p, l, e, rmo fr lo, s, m, av.toArray, below, meth, c, 0, 0) rfl ⟨⟨B.exec, B.bytes, hml, findClass_of_methodNamed B.named, fun w9 h9 => hts w9 (List.mem_cons_of_mem _ h9)⟩, hK, fun q h => Or.inr h, B.notSynchronized, fun τ => Aw_D hD0 τ, ⟨Nat.le_refl _, Nat.le_refl _, Nat.zero_le _, Nat.zero_le _⟩, hW, hX⟩ B.returns res hres s.heap [] _ hP va_S.rf hl
theorem mt_V {l : Launch} {y : MethodName} {cc : ByteArray} {nL : Nat} {fr lo : Nat} {w : Wd} {av : List Value} {σ : St} {S : Nat → Nat × Nat} {Rf : Nat → Nat → Option Nat} {N : Nat} {P : Option St} (hy : plainName y.cls = true) (hav : Nat.ble (lg_sl av).length nL = true) (hW : HWd w S Rf N)
    (body : ∀ X : Mc, X.2.1 = l → Cok X w (Aw w (xs_ X).heap.size) y.cls cc nL fr lo S Rf N → (xmeth X).sig.returnType = none → RF X w (Aw w (xs_ X).heap.size) nL (QV X w) P 0 (lv_args 0 av) [] σ) : ∀ res, P = some res → MtV l y cc nL fr lo w av σ res := by
  intro res hres sz
  refine Met.ofW (cc := cc) (maxL := nL) (ret := none) hy rfl ?_
  intro p e s m args below meth c s₁ B hml hv
  obtain ⟨rfl, hsz, hP, hK, hD0, hX⟩ := hv
  subst hsz
  have hts := atoms_spec (ws := .code y cc nL none :: gw) B.pre
  have hl := lv_entry av (n := nL) (Nat.le_of_ble_eq_true hav)
  rw [lg_entry_eq]
  exact body (p, l, e, rmo fr lo, s, m, av.toArray, below, meth, c, 0, 0) rfl ⟨⟨B.exec, B.bytes, hml, findClass_of_methodNamed B.named, fun w9 h9 => hts w9 (List.mem_cons_of_mem _ h9)⟩, hK, fun q h => Or.inr h, B.notSynchronized, fun τ => Aw_D hD0 τ, ⟨Nat.le_refl _, Nat.le_refl _, Nat.zero_le _, Nat.zero_le _⟩, hW, hX⟩ B.returns res hres s.heap [] _ hP va_S.rf hl
/-- the words of a method that is called -/
def YV (y : MethodName) (cc : ByteArray) (nL : Nat) (ret : Option FieldType) (n : Nat) : Prop := Cond.code y cc nL ret ∈ gw ∧ Cond.instanceMethod y ∈ gw ∧ Cond.selects y.cls y y ∈ gw ∧ Cond.initialized y.cls ∈ gw ∧ (y.cls ≠ "java/lang/invoke/MethodHandle" ∧ y.cls ≠ "java/lang/invoke/VarHandle" ∧ (parseMethodDescriptor y.desc).map (fun d => d.parameters.length) = some n)
def YS (y : MethodName) (cc : ByteArray) (nL : Nat) (ret : Option FieldType) (n : Nat) : Prop := Cond.code y cc nL ret ∈ gw ∧ Cond.static y ∈ gw ∧ Cond.initialized y.cls ∈ gw ∧ (y.cls ≠ "java/lang/invoke/MethodHandle" ∧ y.cls ≠ "java/lang/invoke/VarHandle" ∧ (parseMethodDescriptor y.desc).map (fun d => d.parameters.length) = some n)
theorem gw_cons {c : Cond} (h : c ∈ gw) : GoodIn gw (c :: gw) := fun w hw => by
  rcases List.mem_cons.mp hw with rfl | h2
  · exact ⟨h, good_of_word (gw_good h)⟩
  · exact ⟨h2, good_of_word (gw_good h2)⟩
theorem Pw_blind {av : List Value} {w : Wd} {σ : St} {sz : Nat} : FrameBlind (va_Pc av (Pw w σ sz)) := fun a U g mk q => by
  obtain ⟨q0, q1, qP, qK, qD, qX⟩ := q
  exact ⟨q0, q1, qP, va_K.moved (u := U) (U := U.calling g mk a) (Vm.Alike.refl U.vm) qK, qD, qX.same rfl rfl⟩
theorem Aw_mono {w : Wd} {a b : Nat} (h : a ≤ b) : ∀ q, Aw w b q → Aw w a q := fun _ hq => hq.elim Or.inl (fun z => Or.inr (Nat.le_trans h z))
theorem r_callVI {X : Mc} {w : Wd} {own : String} {cc : ByteArray} {nL fr lo : Nat} {S : Nat → Nat × Nat} {Rf : Nat → Nat → Option Nat} {N : Nat} {ρ : Type} {Qf : ρ → State → Prop} {pc : Nat} {lv : List (Nat × Value)} {st : List Value} {σ : St} (hC : Cok X w (Aw w (xs_ X).heap.size) own cc nL fr lo S Rf N) {y : MethodName} {cc2 : ByteArray} {nL2 n2 fr2 lo2 idx : Nat} {ret : FieldType} {f : Option (Int32 × St)} {K : Int32 → St → Option ρ} {b ci : Nat} {q : vw_C} (As : List Value) (hs : S b = (0, ci)) (hb0 : b < wN w) (hcl : classes[ci]? = some q) (hq : q.1 = y.cls) (hm : ∀ res, f = some res → MtI X.2.1 y cc2 nL2 ret fr2 lo2 w (.ref (wA w b) :: As) σ res) (hy : YV y cc2 nL2 (some ret) n2) (lk : Cond.methodLink own idx y ∈ gw) (hn : As.length = n2) (hroom : Nat.ble (fr2 + 1) fr = true ∧ Nat.ble (8 + (nL2 + 11) + lo2) lo = true) (hst : Nat.ble (st.map fun v => v.category).sum 8 = true) (d : decode cc pc = .ok (.invokevirtual idx, 3)) (k : ∀ r σ', RF X w (Aw w (xs_ X).heap.size) nL Qf (K r σ') (pc + 3) lv (.int r :: st) σ') : RF X w (Aw w (xs_ X).heap.size) nL Qf (bd f K) pc lv (As.reverse ++ .ref (wA w b) :: st) σ := by
  obtain ⟨p, l, e, R, s, m, args, below, meth, c, cells, slots⟩ := X
  obtain ⟨⟨hx, hb, hml, hown, hts⟩, hK, hA, hlk, hD, hR, hW, hX⟩ := hC
  dsimp only at hx hb hml hown hts hK hA hlk hR hm
  intro res hr H locs ls hP hS hl
  show W p l e R s m args below meth c H locs cells slots (Qf res) (F0 m pc ls _)
  cases hf : f with
  | none => rw [hf] at hr; cases hr
  | some r2 =>
    rw [hf] at hr
    have hM := hm r2 hf H.size
    obtain ⟨y1, y2, y3, y4, y5⟩ := hy
    refine va_calli (va_runV (C := q.1) (As := As) (rest := st) ⟨hx, hb, hml, hown, hts⟩ hM ⟨callB_of n2 hts (gw_cons y1) rfl rfl rfl (hts _ y4) (hts _ lk) y5 ⟨Nat.le_trans (Nat.le_of_ble_eq_true hroom.1) hR.1, Nat.le_trans (Nat.le_of_ble_eq_true hroom.2) hR.2.1⟩, hts _ y2, by rw [hq]; exact hts _ y3⟩ ⟨Pw_blind, va_recv hK hP hcl ((wls_get hb0).trans (by rw [went_0 (hW.sh hs)])), fun U hU hW2 => ⟨rfl, by rw [hU], by rw [hU]; exact hP, va_K.moved hW2.alike hK, (hD σ).weaken (fun _ _ _ _ => trivial), hX.next hS hU hW2 (fun q9 h => Aw_mono hS.1 q9 h)⟩⟩ rfl hn hl.1 rfl (lv_room (Nat.le_of_ble_eq_true hst)) d ⟨hR.2.2.1, hR.2.2.2⟩) hS (fun q9 _ h => Aw_mono hS.1 q9 h) (fun q9 h => Aw_mono hS.1 q9 h) (fun r u t H1 locs1 ht hvm hw hB hz1 hk1 hS1 => ?_)
    subst hw
    exact k r u res hr H1 locs1 ls (by rw [← ht]; exact hB.1) hS1 hl
theorem r_callVL {X : Mc} {w : Wd} {own : String} {cc : ByteArray} {nL fr lo : Nat} {S : Nat → Nat × Nat} {Rf : Nat → Nat → Option Nat} {N : Nat} {ρ : Type} {Qf : ρ → State → Prop} {pc : Nat} {lv : List (Nat × Value)} {st : List Value} {σ : St} (hC : Cok X w (Aw w (xs_ X).heap.size) own cc nL fr lo S Rf N) {y : MethodName} {cc2 : ByteArray} {nL2 n2 fr2 lo2 idx : Nat} {ret : FieldType} {f : Option (Int64 × St)} {K : Int64 → St → Option ρ} {b ci : Nat} {q : vw_C} (As : List Value) (hs : S b = (0, ci)) (hb0 : b < wN w) (hcl : classes[ci]? = some q) (hq : q.1 = y.cls) (hm : ∀ res, f = some res → MtL X.2.1 y cc2 nL2 ret fr2 lo2 w (.ref (wA w b) :: As) σ res) (hy : YV y cc2 nL2 (some ret) n2) (lk : Cond.methodLink own idx y ∈ gw) (hn : As.length = n2) (hroom : Nat.ble (fr2 + 1) fr = true ∧ Nat.ble (8 + (nL2 + 11) + lo2) lo = true) (hst : Nat.ble (st.map fun v => v.category).sum 8 = true) (d : decode cc pc = .ok (.invokevirtual idx, 3)) (k : ∀ r σ', RF X w (Aw w (xs_ X).heap.size) nL Qf (K r σ') (pc + 3) lv (.long r :: st) σ') : RF X w (Aw w (xs_ X).heap.size) nL Qf (bd f K) pc lv (As.reverse ++ .ref (wA w b) :: st) σ := by
  obtain ⟨p, l, e, R, s, m, args, below, meth, c, cells, slots⟩ := X
  obtain ⟨⟨hx, hb, hml, hown, hts⟩, hK, hA, hlk, hD, hR, hW, hX⟩ := hC
  dsimp only at hx hb hml hown hts hK hA hlk hR hm
  intro res hr H locs ls hP hS hl
  show W p l e R s m args below meth c H locs cells slots (Qf res) (F0 m pc ls _)
  cases hf : f with
  | none => rw [hf] at hr; cases hr
  | some r2 =>
    rw [hf] at hr
    have hM := hm r2 hf H.size
    obtain ⟨y1, y2, y3, y4, y5⟩ := hy
    refine va_calll (va_runV (C := q.1) (As := As) (rest := st) ⟨hx, hb, hml, hown, hts⟩ hM ⟨callB_of n2 hts (gw_cons y1) rfl rfl rfl (hts _ y4) (hts _ lk) y5 ⟨Nat.le_trans (Nat.le_of_ble_eq_true hroom.1) hR.1, Nat.le_trans (Nat.le_of_ble_eq_true hroom.2) hR.2.1⟩, hts _ y2, by rw [hq]; exact hts _ y3⟩ ⟨Pw_blind, va_recv hK hP hcl ((wls_get hb0).trans (by rw [went_0 (hW.sh hs)])), fun U hU hW2 => ⟨rfl, by rw [hU], by rw [hU]; exact hP, va_K.moved hW2.alike hK, (hD σ).weaken (fun _ _ _ _ => trivial), hX.next hS hU hW2 (fun q9 h => Aw_mono hS.1 q9 h)⟩⟩ rfl hn hl.1 rfl (lv_room (Nat.le_of_ble_eq_true hst)) d ⟨hR.2.2.1, hR.2.2.2⟩) hS (fun q9 _ h => Aw_mono hS.1 q9 h) (fun q9 h => Aw_mono hS.1 q9 h) (fun r u t H1 locs1 ht hvm hw hB hz1 hk1 hS1 => ?_)
    subst hw
    exact k r u res hr H1 locs1 ls (by rw [← ht]; exact hB.1) hS1 hl
theorem r_callVV {X : Mc} {w : Wd} {own : String} {cc : ByteArray} {nL fr lo : Nat} {S : Nat → Nat × Nat} {Rf : Nat → Nat → Option Nat} {N : Nat} {ρ : Type} {Qf : ρ → State → Prop} {pc : Nat} {lv : List (Nat × Value)} {st : List Value} {σ : St} (hC : Cok X w (Aw w (xs_ X).heap.size) own cc nL fr lo S Rf N) {y : MethodName} {cc2 : ByteArray} {nL2 n2 fr2 lo2 idx : Nat} {f : Option St} {K : St → Option ρ} {b ci : Nat} {q : vw_C} (As : List Value) (hs : S b = (0, ci)) (hb0 : b < wN w) (hcl : classes[ci]? = some q) (hq : q.1 = y.cls) (hm : ∀ res, f = some res → MtV X.2.1 y cc2 nL2 fr2 lo2 w (.ref (wA w b) :: As) σ res) (hy : YV y cc2 nL2 none n2) (lk : Cond.methodLink own idx y ∈ gw) (hn : As.length = n2) (hroom : Nat.ble (fr2 + 1) fr = true ∧ Nat.ble (8 + (nL2 + 11) + lo2) lo = true) (hst : Nat.ble (st.map fun v => v.category).sum 8 = true) (d : decode cc pc = .ok (.invokevirtual idx, 3)) (k : ∀ σ', RF X w (Aw w (xs_ X).heap.size) nL Qf (K σ') (pc + 3) lv st σ') : RF X w (Aw w (xs_ X).heap.size) nL Qf (bdv f K) pc lv (As.reverse ++ .ref (wA w b) :: st) σ := by
  obtain ⟨p, l, e, R, s, m, args, below, meth, c, cells, slots⟩ := X
  obtain ⟨⟨hx, hb, hml, hown, hts⟩, hK, hA, hlk, hD, hR, hW, hX⟩ := hC
  dsimp only at hx hb hml hown hts hK hA hlk hR hm
  intro res hr H locs ls hP hS hl
  show W p l e R s m args below meth c H locs cells slots (Qf res) (F0 m pc ls _)
  cases hf : f with
  | none => rw [hf] at hr; cases hr
  | some r2 =>
    rw [hf] at hr
    have hM := hm r2 hf H.size
    obtain ⟨y1, y2, y3, y4, y5⟩ := hy
    refine va_callv (va_runV (C := q.1) (As := As) (rest := st) ⟨hx, hb, hml, hown, hts⟩ hM ⟨callB_of n2 hts (gw_cons y1) rfl rfl rfl (hts _ y4) (hts _ lk) y5 ⟨Nat.le_trans (Nat.le_of_ble_eq_true hroom.1) hR.1, Nat.le_trans (Nat.le_of_ble_eq_true hroom.2) hR.2.1⟩, hts _ y2, by rw [hq]; exact hts _ y3⟩ ⟨Pw_blind, va_recv hK hP hcl ((wls_get hb0).trans (by rw [went_0 (hW.sh hs)])), fun U hU hW2 => ⟨rfl, by rw [hU], by rw [hU]; exact hP, va_K.moved hW2.alike hK, (hD σ).weaken (fun _ _ _ _ => trivial), hX.next hS hU hW2 (fun q9 h => Aw_mono hS.1 q9 h)⟩⟩ rfl hn hl.1 rfl (lv_room (Nat.le_of_ble_eq_true hst)) d ⟨hR.2.2.1, hR.2.2.2⟩) hS (fun q9 _ h => Aw_mono hS.1 q9 h) (fun q9 h => Aw_mono hS.1 q9 h) (fun u t H1 locs1 ht hvm hw hB hz1 hk1 hS1 => ?_)
    subst hw
    exact k u res hr H1 locs1 ls (by rw [← ht]; exact hB.1) hS1 hl
theorem r_callSI {X : Mc} {w : Wd} {own : String} {cc : ByteArray} {nL fr lo : Nat} {S : Nat → Nat × Nat} {Rf : Nat → Nat → Option Nat} {N : Nat} {ρ : Type} {Qf : ρ → State → Prop} {pc : Nat} {lv : List (Nat × Value)} {st : List Value} {σ : St} (hC : Cok X w (Aw w (xs_ X).heap.size) own cc nL fr lo S Rf N) {y : MethodName} {cc2 : ByteArray} {nL2 n2 fr2 lo2 idx : Nat} {ret : FieldType} {f : Option (Int32 × St)} {K : Int32 → St → Option ρ} (As : List Value) (hm : ∀ res, f = some res → MtI X.2.1 y cc2 nL2 ret fr2 lo2 w As σ res) (hy : YS y cc2 nL2 (some ret) n2) (lk : Cond.methodLink own idx y ∈ gw) (hn : As.length = n2) (hroom : Nat.ble (fr2 + 1) fr = true ∧ Nat.ble (8 + (nL2 + 11) + lo2) lo = true) (hst : Nat.ble (st.map fun v => v.category).sum 8 = true) (d : decode cc pc = .ok (.invokestatic idx, 3)) (k : ∀ r σ', RF X w (Aw w (xs_ X).heap.size) nL Qf (K r σ') (pc + 3) lv (.int r :: st) σ') : RF X w (Aw w (xs_ X).heap.size) nL Qf (bd f K) pc lv (As.reverse ++ st) σ := by
  obtain ⟨p, l, e, R, s, m, args, below, meth, c, cells, slots⟩ := X
  obtain ⟨⟨hx, hb, hml, hown, hts⟩, hK, hA, hlk, hD, hR, hW, hX⟩ := hC
  dsimp only at hx hb hml hown hts hK hA hlk hR hm
  intro res hr H locs ls hP hS hl
  show W p l e R s m args below meth c H locs cells slots (Qf res) (F0 m pc ls _)
  cases hf : f with
  | none => rw [hf] at hr; cases hr
  | some r2 =>
    rw [hf] at hr
    have hM := hm r2 hf H.size
    obtain ⟨y1, y2, y4, y5⟩ := hy
    refine va_calli (va_runS (As := As) (rest := st) ⟨hx, hb, hml, hown, hts⟩ hM ⟨callB_of n2 hts (gw_cons y1) rfl rfl rfl (hts _ y4) (hts _ lk) y5 ⟨Nat.le_trans (Nat.le_of_ble_eq_true hroom.1) hR.1, Nat.le_trans (Nat.le_of_ble_eq_true hroom.2) hR.2.1⟩, hts _ y2⟩ ⟨Pw_blind, fun U hU hW2 => ⟨rfl, by rw [hU], by rw [hU]; exact hP, va_K.moved hW2.alike hK, (hD σ).weaken (fun _ _ _ _ => trivial), hX.next hS hU hW2 (fun q9 h => Aw_mono hS.1 q9 h)⟩⟩ rfl hn hl.1 rfl (lv_room (Nat.le_of_ble_eq_true hst)) d ⟨hR.2.2.1, hR.2.2.2⟩) hS (fun q9 _ h => Aw_mono hS.1 q9 h) (fun q9 h => Aw_mono hS.1 q9 h) (fun r u t H1 locs1 ht hvm hw hB hz1 hk1 hS1 => ?_)
    subst hw
    exact k r u res hr H1 locs1 ls (by rw [← ht]; exact hB.1) hS1 hl
theorem r_callSL {X : Mc} {w : Wd} {own : String} {cc : ByteArray} {nL fr lo : Nat} {S : Nat → Nat × Nat} {Rf : Nat → Nat → Option Nat} {N : Nat} {ρ : Type} {Qf : ρ → State → Prop} {pc : Nat} {lv : List (Nat × Value)} {st : List Value} {σ : St} (hC : Cok X w (Aw w (xs_ X).heap.size) own cc nL fr lo S Rf N) {y : MethodName} {cc2 : ByteArray} {nL2 n2 fr2 lo2 idx : Nat} {ret : FieldType} {f : Option (Int64 × St)} {K : Int64 → St → Option ρ} (As : List Value) (hm : ∀ res, f = some res → MtL X.2.1 y cc2 nL2 ret fr2 lo2 w As σ res) (hy : YS y cc2 nL2 (some ret) n2) (lk : Cond.methodLink own idx y ∈ gw) (hn : As.length = n2) (hroom : Nat.ble (fr2 + 1) fr = true ∧ Nat.ble (8 + (nL2 + 11) + lo2) lo = true) (hst : Nat.ble (st.map fun v => v.category).sum 8 = true) (d : decode cc pc = .ok (.invokestatic idx, 3)) (k : ∀ r σ', RF X w (Aw w (xs_ X).heap.size) nL Qf (K r σ') (pc + 3) lv (.long r :: st) σ') : RF X w (Aw w (xs_ X).heap.size) nL Qf (bd f K) pc lv (As.reverse ++ st) σ := by
  obtain ⟨p, l, e, R, s, m, args, below, meth, c, cells, slots⟩ := X
  obtain ⟨⟨hx, hb, hml, hown, hts⟩, hK, hA, hlk, hD, hR, hW, hX⟩ := hC
  dsimp only at hx hb hml hown hts hK hA hlk hR hm
  intro res hr H locs ls hP hS hl
  show W p l e R s m args below meth c H locs cells slots (Qf res) (F0 m pc ls _)
  cases hf : f with
  | none => rw [hf] at hr; cases hr
  | some r2 =>
    rw [hf] at hr
    have hM := hm r2 hf H.size
    obtain ⟨y1, y2, y4, y5⟩ := hy
    refine va_calll (va_runS (As := As) (rest := st) ⟨hx, hb, hml, hown, hts⟩ hM ⟨callB_of n2 hts (gw_cons y1) rfl rfl rfl (hts _ y4) (hts _ lk) y5 ⟨Nat.le_trans (Nat.le_of_ble_eq_true hroom.1) hR.1, Nat.le_trans (Nat.le_of_ble_eq_true hroom.2) hR.2.1⟩, hts _ y2⟩ ⟨Pw_blind, fun U hU hW2 => ⟨rfl, by rw [hU], by rw [hU]; exact hP, va_K.moved hW2.alike hK, (hD σ).weaken (fun _ _ _ _ => trivial), hX.next hS hU hW2 (fun q9 h => Aw_mono hS.1 q9 h)⟩⟩ rfl hn hl.1 rfl (lv_room (Nat.le_of_ble_eq_true hst)) d ⟨hR.2.2.1, hR.2.2.2⟩) hS (fun q9 _ h => Aw_mono hS.1 q9 h) (fun q9 h => Aw_mono hS.1 q9 h) (fun r u t H1 locs1 ht hvm hw hB hz1 hk1 hS1 => ?_)
    subst hw
    exact k r u res hr H1 locs1 ls (by rw [← ht]; exact hB.1) hS1 hl
theorem r_callSV {X : Mc} {w : Wd} {own : String} {cc : ByteArray} {nL fr lo : Nat} {S : Nat → Nat × Nat} {Rf : Nat → Nat → Option Nat} {N : Nat} {ρ : Type} {Qf : ρ → State → Prop} {pc : Nat} {lv : List (Nat × Value)} {st : List Value} {σ : St} (hC : Cok X w (Aw w (xs_ X).heap.size) own cc nL fr lo S Rf N) {y : MethodName} {cc2 : ByteArray} {nL2 n2 fr2 lo2 idx : Nat} {f : Option St} {K : St → Option ρ} (As : List Value) (hm : ∀ res, f = some res → MtV X.2.1 y cc2 nL2 fr2 lo2 w As σ res) (hy : YS y cc2 nL2 none n2) (lk : Cond.methodLink own idx y ∈ gw) (hn : As.length = n2) (hroom : Nat.ble (fr2 + 1) fr = true ∧ Nat.ble (8 + (nL2 + 11) + lo2) lo = true) (hst : Nat.ble (st.map fun v => v.category).sum 8 = true) (d : decode cc pc = .ok (.invokestatic idx, 3)) (k : ∀ σ', RF X w (Aw w (xs_ X).heap.size) nL Qf (K σ') (pc + 3) lv st σ') : RF X w (Aw w (xs_ X).heap.size) nL Qf (bdv f K) pc lv (As.reverse ++ st) σ := by
  obtain ⟨p, l, e, R, s, m, args, below, meth, c, cells, slots⟩ := X
  obtain ⟨⟨hx, hb, hml, hown, hts⟩, hK, hA, hlk, hD, hR, hW, hX⟩ := hC
  dsimp only at hx hb hml hown hts hK hA hlk hR hm
  intro res hr H locs ls hP hS hl
  show W p l e R s m args below meth c H locs cells slots (Qf res) (F0 m pc ls _)
  cases hf : f with
  | none => rw [hf] at hr; cases hr
  | some r2 =>
    rw [hf] at hr
    have hM := hm r2 hf H.size
    obtain ⟨y1, y2, y4, y5⟩ := hy
    refine va_callv (va_runS (As := As) (rest := st) ⟨hx, hb, hml, hown, hts⟩ hM ⟨callB_of n2 hts (gw_cons y1) rfl rfl rfl (hts _ y4) (hts _ lk) y5 ⟨Nat.le_trans (Nat.le_of_ble_eq_true hroom.1) hR.1, Nat.le_trans (Nat.le_of_ble_eq_true hroom.2) hR.2.1⟩, hts _ y2⟩ ⟨Pw_blind, fun U hU hW2 => ⟨rfl, by rw [hU], by rw [hU]; exact hP, va_K.moved hW2.alike hK, (hD σ).weaken (fun _ _ _ _ => trivial), hX.next hS hU hW2 (fun q9 h => Aw_mono hS.1 q9 h)⟩⟩ rfl hn hl.1 rfl (lv_room (Nat.le_of_ble_eq_true hst)) d ⟨hR.2.2.1, hR.2.2.2⟩) hS (fun q9 _ h => Aw_mono hS.1 q9 h) (fun q9 h => Aw_mono hS.1 q9 h) (fun u t H1 locs1 ht hvm hw hB hz1 hk1 hS1 => ?_)
    subst hw
    exact k u res hr H1 locs1 ls (by rw [← ht]; exact hB.1) hS1 hl
end
section
abbrev inb (i : Int32) (n : Nat) : Prop := ¬ (i < 0 ∨ n ≤ i.toNatClampNeg)
def bp {α ρ : Type} (f : Option α) (K : α → Option ρ) : Option ρ := match f with
  | none => none
  | some r => K r
def mo {ρ : Type} (q : Option Nat) (P : Option ρ) (K : Nat → Option ρ) : Option ρ := match q with
  | none => P
  | some c => K c
section RFMORE
variable {X : Mc} {w : Wd} {A : Nat → Prop} {own : String} {cc : ByteArray} {nL fr lo : Nat} {S : Nat → Nat × Nat} {Rf : Nat → Nat → Option Nat} {N : Nat} {ρ : Type} {Qf : ρ → State → Prop} {P P' : Option ρ} {pc : Nat} {lv lv' : List (Nat × Value)} {st : List Value} {σ : St}
theorem r_lv (ks : List Nat) (h : lv_pick lv ks = lv') (k : RF X w A nL Qf P pc lv' st σ) : RF X w A nL Qf P pc lv st σ := fun res hr H locs ls hP hS hl => k res hr H locs ls hP hS (lv_sub hl ks h)
theorem r_mo {q : Option Nat} {K : Nat → Option ρ} (kn : RF X w A nL Qf P pc lv (.null :: st) σ) (ks : ∀ c, RF X w A nL Qf (K c) pc lv (.ref (wA w c) :: st) σ) : RF X w A nL Qf (mo q P K) pc lv (va_rf (q.map (wA w)) :: st) σ := by
  cases q with
  | none => exact kn
  | some c => exact ks c
theorem r_ifnonnull (hC : Cok X w A own cc nL fr lo S Rf N) {a : Nat} {off : Int} (tgt : Nat) (d : decode cc pc = .ok (.ifnonnull off, 3)) (ht : (pc : Int) + off = (tgt : Int)) (k : RF X w A nL Qf P tgt lv st σ) : RF X w A nL Qf P pc lv (.ref a :: st) σ := by
  obtain ⟨p, l, e, R, s, m, args, below, meth, c, cells, slots⟩ := X
  obtain ⟨⟨hx, hb, hml, hown, hts⟩, hK, hA, hlk, hD, hR, hW, hX⟩ := hC
  dsimp only at hx hb hml hown hts hK hA hlk hR
  intro res hr H locs ls hP hS hl
  show W p l e R s m args below meth c H locs cells slots (Qf res) (F0 m pc ls _)
  exact lv_ifnonnull hx hb d ht (k res hr H locs ls hP hS hl)
theorem r_ifnonnullN (hC : Cok X w A own cc nL fr lo S Rf N) {off : Int} (d : decode cc pc = .ok (.ifnonnull off, 3)) (k : RF X w A nL Qf P (pc + 3) lv st σ) : RF X w A nL Qf P pc lv (.null :: st) σ := by
  obtain ⟨p, l, e, R, s, m, args, below, meth, c, cells, slots⟩ := X
  obtain ⟨⟨hx, hb, hml, hown, hts⟩, hK, hA, hlk, hD, hR, hW, hX⟩ := hC
  dsimp only at hx hb hml hown hts hK hA hlk hR
  intro res hr H locs ls hP hS hl
  show W p l e R s m args below meth c H locs cells slots (Qf res) (F0 m pc ls _)
  exact lv_ifnonnullN hx hb d (k res hr H locs ls hP hS hl)
theorem r_putD (hC : Cok X w A own cc nL fr lo S Rf N) {ci : Nat} {C : String} {T : u_T} {n : Nat} {ty : Nat → FieldType} (hc : ClsOk ci C T n ty) {idx : Nat} (k j : Nat) {c2 : Nat} {D2 : String} (hf : fkd ci j = 3) (hty : ty j = .object D2) (hs : S k = (0, ci)) (hn : k < wN w) (hj : Nat.blt j n = true) (hfin : (T j).2.2.2 = false) (lk : Cond.fieldLink own idx (T j).1 (T j).2.1 (T j).2.2.1 ∈ gw) (d : decode cc pc = .ok (.putfield idx, 3)) (kk : RF X w A nL Qf P (pc + 3) lv st (sR σ k j (some c2))) : RF X w A nL Qf P pc lv (.ref (wA w c2) :: .ref (wA w k) :: st) σ := by
  obtain ⟨p, l, e, R, s, m, args, below, meth, c, cells, slots⟩ := X
  obtain ⟨⟨hx, hb, hml, hown, hts⟩, hK, hA, hlk, hD, hR, hW, hX⟩ := hC
  dsimp only at hx hb hml hown hts hK hA hlk hR
  intro res hr H locs ls hP hS hl
  show W p l e R s m args below meth c H locs cells slots (Qf res) (F0 m pc ls _)
  refine va_put (ty := .object D2) hx hb hts hc.ws ty hc.ty hc.nm hown hK hP (hD σ) hS k ((wls_get hn).trans (by rw [went_0 (hW.sh hs)])) hc.cl j (Nat.le_of_ble_eq_true hj) (hts _ lk) (fun _ h9 => h9) hfin (by rw [hc.ty j (Nat.le_of_ble_eq_true hj), hty]) rfl rfl (by simp [hc.nf]; exact Nat.le_of_ble_eq_true hj) d (fun H1 locs1 h1 _ h3 => ?_)
  rw [wls_set (σ' := sR σ k j (some c2)) (by rw [went_0 (hW.sh hs), fput (σ' := sR σ k j (some c2)) (by rw [fv_3 hf, sR_at]; rfl) sR_fv]) sR_ne] at h1
  exact kk res hr H1 locs1 ls h1 h3 hl
/-- methods that only read -/
theorem r_iretP (hC : Cok X w (Aw w (xs_ X).heap.size) own cc nL fr lo S Rf N) {r : Int32} {ret : FieldType} (hret : (xmeth X).sig.returnType = some ret) (hn : narrow ret (.int r) = .int r) (d : decode cc pc = .ok (.ireturn, 1)) : RF X w (Aw w (xs_ X).heap.size) nL (fun r => QI X w (r, σ)) (some r) pc lv [.int r] σ := fun res hr => by
  cases hr
  exact r_iret hC hret hn d (r, σ) rfl
theorem r_lretP (hC : Cok X w (Aw w (xs_ X).heap.size) own cc nL fr lo S Rf N) {r : Int64} (hret : (xmeth X).sig.returnType = some .long) (d : decode cc pc = .ok (.lreturn, 1)) : RF X w (Aw w (xs_ X).heap.size) nL (fun r => QL X w (r, σ)) (some r) pc lv [.long r] σ := fun res hr => by
  cases hr
  exact r_lret hC hret d (r, σ) rfl
end RFMORE
theorem mt_P {l : Launch} {y : MethodName} {cc : ByteArray} {nL : Nat} {ret : FieldType} {fr lo : Nat} {w : Wd} {av : List Value} {σ : St} {S : Nat → Nat × Nat} {Rf : Nat → Nat → Option Nat} {N : Nat} {P : Option Int32} (hy : plainName y.cls = true) (hav : Nat.ble (lg_sl av).length nL = true) (hW : HWd w S Rf N)
    (body : ∀ X : Mc, X.2.1 = l → Cok X w (Aw w (xs_ X).heap.size) y.cls cc nL fr lo S Rf N → (xmeth X).sig.returnType = some ret → RF X w (Aw w (xs_ X).heap.size) nL (fun r => QI X w (r, σ)) P 0 (lv_args 0 av) [] σ) : ∀ r, P = some r → MtI l y cc nL ret fr lo w av σ (r, σ) := by
  intro r hr
  exact mt_I (P := some (r, σ)) hy hav hW (fun X h1 h2 h3 => fun res hres => by cases hres; exact body X h1 h2 h3 r hr) (r, σ) rfl
theorem mt_PL {l : Launch} {y : MethodName} {cc : ByteArray} {nL : Nat} {ret : FieldType} {fr lo : Nat} {w : Wd} {av : List Value} {σ : St} {S : Nat → Nat × Nat} {Rf : Nat → Nat → Option Nat} {N : Nat} {P : Option Int64} (hy : plainName y.cls = true) (hav : Nat.ble (lg_sl av).length nL = true) (hW : HWd w S Rf N)
    (body : ∀ X : Mc, X.2.1 = l → Cok X w (Aw w (xs_ X).heap.size) y.cls cc nL fr lo S Rf N → (xmeth X).sig.returnType = some ret → RF X w (Aw w (xs_ X).heap.size) nL (fun r => QL X w (r, σ)) P 0 (lv_args 0 av) [] σ) : ∀ r, P = some r → MtL l y cc nL ret fr lo w av σ (r, σ) := by
  intro r hr
  exact mt_L (P := some (r, σ)) hy hav hW (fun X h1 h2 h3 => fun res hres => by cases hres; exact body X h1 h2 h3 r hr) (r, σ) rfl
theorem r_callVP {X : Mc} {w : Wd} {own : String} {cc : ByteArray} {nL fr lo : Nat} {S : Nat → Nat × Nat} {Rf : Nat → Nat → Option Nat} {N : Nat} {ρ : Type} {Qf : ρ → State → Prop} {pc : Nat} {lv : List (Nat × Value)} {st : List Value} {σ : St} (hC : Cok X w (Aw w (xs_ X).heap.size) own cc nL fr lo S Rf N) {y : MethodName} {cc2 : ByteArray} {nL2 n2 fr2 lo2 idx : Nat} {ret : FieldType} {f : Option Int32} {K : Int32 → Option ρ} {b ci : Nat} {q : vw_C} (As : List Value) (hs : S b = (0, ci)) (hb0 : b < wN w) (hcl : classes[ci]? = some q) (hq : q.1 = y.cls) (hm : ∀ r, f = some r → MtI X.2.1 y cc2 nL2 ret fr2 lo2 w (.ref (wA w b) :: As) σ (r, σ)) (hy : YV y cc2 nL2 (some ret) n2) (lk : Cond.methodLink own idx y ∈ gw) (hn : As.length = n2) (hroom : Nat.ble (fr2 + 1) fr = true ∧ Nat.ble (8 + (nL2 + 11) + lo2) lo = true) (hst : Nat.ble (st.map fun v => v.category).sum 8 = true) (d : decode cc pc = .ok (.invokevirtual idx, 3)) (k : ∀ r, RF X w (Aw w (xs_ X).heap.size) nL Qf (K r) (pc + 3) lv (.int r :: st) σ) : RF X w (Aw w (xs_ X).heap.size) nL Qf (bp f K) pc lv (As.reverse ++ .ref (wA w b) :: st) σ := by
  cases hf : f with
  | none => exact r_none
  | some r2 =>
    have hM := hm r2 hf
    exact r_callVI hC (f := some (r2, σ)) (K := fun r σ' => @ite _ (σ' = σ) (Classical.propDecidable _) (K r) none) As hs hb0 hcl hq (fun res hres => by cases hres; exact hM) hy lk hn hroom hst d (fun r σ' => by
      by_cases e : σ' = σ
      · subst e; simp only [if_true]; exact k r
      · simp only [if_neg e]; exact r_none) |> (fun z => by simpa [bd, bp] using z)
theorem r_callVQ {X : Mc} {w : Wd} {own : String} {cc : ByteArray} {nL fr lo : Nat} {S : Nat → Nat × Nat} {Rf : Nat → Nat → Option Nat} {N : Nat} {ρ : Type} {Qf : ρ → State → Prop} {pc : Nat} {lv : List (Nat × Value)} {st : List Value} {σ : St} (hC : Cok X w (Aw w (xs_ X).heap.size) own cc nL fr lo S Rf N) {y : MethodName} {cc2 : ByteArray} {nL2 n2 fr2 lo2 idx : Nat} {ret : FieldType} {f : Option Int64} {K : Int64 → Option ρ} {b ci : Nat} {q : vw_C} (As : List Value) (hs : S b = (0, ci)) (hb0 : b < wN w) (hcl : classes[ci]? = some q) (hq : q.1 = y.cls) (hm : ∀ r, f = some r → MtL X.2.1 y cc2 nL2 ret fr2 lo2 w (.ref (wA w b) :: As) σ (r, σ)) (hy : YV y cc2 nL2 (some ret) n2) (lk : Cond.methodLink own idx y ∈ gw) (hn : As.length = n2) (hroom : Nat.ble (fr2 + 1) fr = true ∧ Nat.ble (8 + (nL2 + 11) + lo2) lo = true) (hst : Nat.ble (st.map fun v => v.category).sum 8 = true) (d : decode cc pc = .ok (.invokevirtual idx, 3)) (k : ∀ r, RF X w (Aw w (xs_ X).heap.size) nL Qf (K r) (pc + 3) lv (.long r :: st) σ) : RF X w (Aw w (xs_ X).heap.size) nL Qf (bp f K) pc lv (As.reverse ++ .ref (wA w b) :: st) σ := by
  cases hf : f with
  | none => exact r_none
  | some r2 =>
    have hM := hm r2 hf
    exact r_callVL hC (f := some (r2, σ)) (K := fun r σ' => @ite _ (σ' = σ) (Classical.propDecidable _) (K r) none) As hs hb0 hcl hq (fun res hres => by cases hres; exact hM) hy lk hn hroom hst d (fun r σ' => by
      by_cases e : σ' = σ
      · subst e; simp only [if_true]; exact k r
      · simp only [if_neg e]; exact r_none) |> (fun z => by simpa [bd, bp] using z)
theorem r_callSP {X : Mc} {w : Wd} {own : String} {cc : ByteArray} {nL fr lo : Nat} {S : Nat → Nat × Nat} {Rf : Nat → Nat → Option Nat} {N : Nat} {ρ : Type} {Qf : ρ → State → Prop} {pc : Nat} {lv : List (Nat × Value)} {st : List Value} {σ : St} (hC : Cok X w (Aw w (xs_ X).heap.size) own cc nL fr lo S Rf N) {y : MethodName} {cc2 : ByteArray} {nL2 n2 fr2 lo2 idx : Nat} {ret : FieldType} {f : Option Int32} {K : Int32 → Option ρ} (As : List Value) (hm : ∀ r, f = some r → MtI X.2.1 y cc2 nL2 ret fr2 lo2 w As σ (r, σ)) (hy : YS y cc2 nL2 (some ret) n2) (lk : Cond.methodLink own idx y ∈ gw) (hn : As.length = n2) (hroom : Nat.ble (fr2 + 1) fr = true ∧ Nat.ble (8 + (nL2 + 11) + lo2) lo = true) (hst : Nat.ble (st.map fun v => v.category).sum 8 = true) (d : decode cc pc = .ok (.invokestatic idx, 3)) (k : ∀ r, RF X w (Aw w (xs_ X).heap.size) nL Qf (K r) (pc + 3) lv (.int r :: st) σ) : RF X w (Aw w (xs_ X).heap.size) nL Qf (bp f K) pc lv (As.reverse ++ st) σ := by
  cases hf : f with
  | none => exact r_none
  | some r2 =>
    have hM := hm r2 hf
    exact r_callSI hC (f := some (r2, σ)) (K := fun r σ' => @ite _ (σ' = σ) (Classical.propDecidable _) (K r) none) As (fun res hres => by cases hres; exact hM) hy lk hn hroom hst d (fun r σ' => by
      by_cases e : σ' = σ
      · subst e; simp only [if_true]; exact k r
      · simp only [if_neg e]; exact r_none) |> (fun z => by simpa [bd, bp] using z)
theorem r_callSQ {X : Mc} {w : Wd} {own : String} {cc : ByteArray} {nL fr lo : Nat} {S : Nat → Nat × Nat} {Rf : Nat → Nat → Option Nat} {N : Nat} {ρ : Type} {Qf : ρ → State → Prop} {pc : Nat} {lv : List (Nat × Value)} {st : List Value} {σ : St} (hC : Cok X w (Aw w (xs_ X).heap.size) own cc nL fr lo S Rf N) {y : MethodName} {cc2 : ByteArray} {nL2 n2 fr2 lo2 idx : Nat} {ret : FieldType} {f : Option Int64} {K : Int64 → Option ρ} (As : List Value) (hm : ∀ r, f = some r → MtL X.2.1 y cc2 nL2 ret fr2 lo2 w As σ (r, σ)) (hy : YS y cc2 nL2 (some ret) n2) (lk : Cond.methodLink own idx y ∈ gw) (hn : As.length = n2) (hroom : Nat.ble (fr2 + 1) fr = true ∧ Nat.ble (8 + (nL2 + 11) + lo2) lo = true) (hst : Nat.ble (st.map fun v => v.category).sum 8 = true) (d : decode cc pc = .ok (.invokestatic idx, 3)) (k : ∀ r, RF X w (Aw w (xs_ X).heap.size) nL Qf (K r) (pc + 3) lv (.long r :: st) σ) : RF X w (Aw w (xs_ X).heap.size) nL Qf (bp f K) pc lv (As.reverse ++ st) σ := by
  cases hf : f with
  | none => exact r_none
  | some r2 =>
    have hM := hm r2 hf
    exact r_callSL hC (f := some (r2, σ)) (K := fun r σ' => @ite _ (σ' = σ) (Classical.propDecidable _) (K r) none) As (fun res hres => by cases hres; exact hM) hy lk hn hroom hst d (fun r σ' => by
      by_cases e : σ' = σ
      · subst e; simp only [if_true]; exact k r
      · simp only [if_neg e]; exact r_none) |> (fun z => by simpa [bd, bp] using z)
end
section
/-- the class's cells: what each is (0 an object of a class, 1 ints, 2 bytes, 3 booleans, 4 longs, 5 rows of ints, 6 rules, 7 ints of a length of its own) -/
def shX (k : Nat) : Nat × Nat := if k < 66 then ([(0, 11), (0, 2), (1, 16), (1, 16), (1, 16), (1, 16), (0, 0), (1, 8), (1, 8), (1, 8), (0, 0), (1, 8), (1, 8), (1, 8), (1, 16), (0, 8), (2, 160), (0, 9), (1, 160), (6, 6), (0, 4), (5, 8), (1, 8), (1, 200), (1, 200), (1, 200), (1, 200), (1, 200), (1, 200), (1, 200), (1, 200), (0, 1), (1, 8), (1, 8), (1, 6), (1, 160), (1, 16), (0, 10), (1, 30), (1, 30), (1, 30), (1, 30), (5, 13), (1, 256), (1, 256), (1, 256), (1, 256), (1, 256), (1, 256), (1, 256), (1, 256), (1, 256), (1, 256), (1, 256), (1, 256), (1, 256), (0, 5), (1, 120), (0, 7), (1, 4), (1, 4), (5, 4), (1, 40), (1, 40), (1, 40), (1, 40)] : List (Nat × Nat)).getD k (9, 0) else if k % 2 = 0 then (0, 6) else (7, 0)
def rX (k j : Nat) : Option Nat := if k < 66 then (([[some 1, some 6, some 10, some 14, none, none, some 15, some 17, some 19, none, none, some 20, some 31, some 37, some 56, some 58], [some 2, some 3, some 4, some 5, none], [], [], [], [], [some 7, some 8, some 9, none, none], [], [], [], [some 11, some 12, some 13, none, none], [], [], [], [], [some 16, none], [], [some 15, some 18, none, none, none, none, none], [], [], [some 15, some 21, some 22, none], [some 23, some 24, some 25, some 26, some 27, some 28, some 29, some 30], [], [], [], [], [], [], [], [], [], [some 1, some 6, none, some 32, some 33, some 34, some 35, none, none, some 36, none, none, none, none, none], [], [], [], [], [], [some 38, some 39, some 40, some 41, none, some 42, none, none], [], [], [], [], [some 43, some 44, some 45, some 46, some 47, some 48, some 49, some 50, some 51, some 52, some 53, some 54, some 55], [], [], [], [], [], [], [], [], [], [], [], [], [], [some 57, none], [], [some 59, some 60, some 61], [], [], [some 62, some 63, some 64, some 65], [], [], [], []] : List (List (Option Nat))).getD k []).getD j none else if j = 0 then some (k + 1) else none
def shM (k : Nat) : Nat × Nat := ([(0, 12), (1, 960), (1, 6), (1, 160), (1, 16), (1, 16), (1, 16), (1, 16), (1, 8), (1, 8), (1, 8), (1, 8), (1, 1600), (1, 16), (4, 8), (1, 30), (1, 30), (1, 30), (1, 30), (4, 256), (1, 120), (1, 8), (1, 8), (1, 8), (1, 16), (3, 4), (1, 4), (1, 4), (1, 160)] : List (Nat × Nat)).getD k (9, 0)
def rM (k j : Nat) : Option Nat := if k = 0 then ([none, some 1, some 2, none, none, some 3, none, some 4, some 5, some 6, some 7, none, some 8, some 9, some 10, none, none, none, none, none, none, none, none, none, none, none, none, none, none, none, none, some 11, some 12, none, some 13, some 14, none, none, none, none, none, none, some 15, some 16, some 17, some 18, none, some 19, some 20, none, some 21, some 22, some 23, some 24, none, none, none, none, none, some 25, some 26, some 27, some 28] : List (Option Nat)).getD j none else none
theorem aaK_n : ∀ n, n < 8 → rX 21 n = some (23 + n) ∧ shX (23 + n) = (1, 200) ∧ Nat.blt (23 + n) 66 = true := by decide
theorem aaK {i : Int32} (h : inb i 8) : rX 21 i.toNatClampNeg = some (23 + i.toNatClampNeg) ∧ shX (23 + i.toNatClampNeg) = (1, 200) ∧ Nat.blt (23 + i.toNatClampNeg) 66 = true := aaK_n _ (Nat.not_le.mp fun q => h (Or.inr q))
theorem aaB_n : ∀ n, n < 13 → rX 42 n = some (43 + n) ∧ shX (43 + n) = (1, 256) ∧ Nat.blt (43 + n) 66 = true := by decide
theorem aaB {i : Int32} (h : inb i 13) : rX 42 i.toNatClampNeg = some (43 + i.toNatClampNeg) ∧ shX (43 + i.toNatClampNeg) = (1, 256) ∧ Nat.blt (43 + i.toNatClampNeg) 66 = true := aaB_n _ (Nat.not_le.mp fun q => h (Or.inr q))
theorem aaI_n : ∀ n, n < 4 → rX 61 n = some (62 + n) ∧ shX (62 + n) = (1, 40) ∧ Nat.blt (62 + n) 66 = true := by decide
theorem aaI {i : Int32} (h : inb i 4) : rX 61 i.toNatClampNeg = some (62 + i.toNatClampNeg) ∧ shX (62 + i.toNatClampNeg) = (1, 40) ∧ Nat.blt (62 + i.toNatClampNeg) 66 = true := aaI_n _ (Nat.not_le.mp fun q => h (Or.inr q))
theorem clX0 : ClsOk 0 RX0 TX0 5 tyX0 := ⟨rfl, by decide +kernel, rfl, tyX0_ok, nmX0⟩
theorem clX1 : ClsOk 1 RX1 TX1 15 tyX1 := ⟨rfl, by decide +kernel, rfl, tyX1_ok, nmX1⟩
theorem clX2 : ClsOk 2 RX2 TX2 5 tyX2 := ⟨rfl, by decide +kernel, rfl, tyX2_ok, nmX2⟩
theorem clX3 : ClsOk 3 RX3 TX3 0 tyX3 := ⟨rfl, fun _ h => absurd h List.not_mem_nil, rfl, tyX3_ok, nmX3⟩
theorem clX4 : ClsOk 4 RX4 TX4 4 tyX4 := ⟨rfl, by decide +kernel, rfl, tyX4_ok, nmX4⟩
theorem clX5 : ClsOk 5 RX5 TX5 2 tyX5 := ⟨rfl, by decide +kernel, rfl, tyX5_ok, nmX5⟩
theorem clX6 : ClsOk 6 RX6 TX6 2 tyX6 := ⟨rfl, by decide +kernel, rfl, tyX6_ok, nmX6⟩
theorem clX7 : ClsOk 7 RX7 TX7 3 tyX7 := ⟨rfl, by decide +kernel, rfl, tyX7_ok, nmX7⟩
theorem clX8 : ClsOk 8 RX8 TX8 2 tyX8 := ⟨rfl, by decide +kernel, rfl, tyX8_ok, nmX8⟩
theorem clX9 : ClsOk 9 RX9 TX9 7 tyX9 := ⟨rfl, by decide +kernel, rfl, tyX9_ok, nmX9⟩
theorem clX10 : ClsOk 10 RX10 TX10 8 tyX10 := ⟨rfl, by decide +kernel, rfl, tyX10_ok, nmX10⟩
theorem clX11 : ClsOk 11 RX11 TX11 16 tyX11 := ⟨rfl, by decide +kernel, rfl, tyX11_ok, nmX11⟩
theorem clX12 : ClsOk 12 RX12 TX12 63 tyX12 := ⟨rfl, by decide +kernel, rfl, tyX12_ok, nmX12⟩
theorem ne_toInt {x v : Int32} {a : Int} (ha : v.toInt = a) (h : ¬ x = v) : x.toInt ≠ a := fun e => h (Int32.toInt_inj.mp (e.trans ha.symm))
def FU : Nat := 5000
theorem rX_rule {c : Nat} (h : shX c = (0, 6)) : rX c 0 = some (c + 1) ∧ shX (c + 1) = (7, 0) := by
  have key : ¬ c < 66 := fun hlt => by
    have : ∀ n, n < 66 → shX n ≠ (0, 6) := by decide
    exact this c hlt h
  have h2 : c % 2 = 0 := by
    unfold shX at h
    rw [if_neg key] at h
    by_cases e : c % 2 = 0
    · exact e
    · rw [if_neg e] at h; cases h
  refine ⟨?_, ?_⟩
  · unfold rX; rw [if_neg key, if_pos rfl]
  · unfold shX; rw [if_neg (by omega), if_neg (by omega)]
end
section
/-! STRING CONSTANTS: rows, and the JDK's methods on them -/
section RFSTR
variable {X : Mc} {w : Wd} {A : Nat → Prop} {own : String} {cc : ByteArray} {nL fr lo : Nat} {S : Nat → Nat × Nat} {Rf : Nat → Nat → Option Nat} {N : Nat} {ρ : Type} {Qf : ρ → State → Prop} {P P' : Option ρ} {pc : Nat} {lv lv' : List (Nat × Value)} {st : List Value} {σ : St}
theorem r_ldcS {tx : String} {idx i : Nat} (hC : Cok X w A own cc nL fr lo S Rf N) (hR : Sx w A (xs_ X) (xs_ X).heap → vk_R own idx tx (wK w i) (xs_ X)) (d : decode cc pc = .ok (.ldc idx, 2)) (k : RF X w A nL Qf P (pc + 2) lv (.ref (wK w i) :: st) σ) : RF X w A nL Qf P pc lv st σ := by
  obtain ⟨p, l, e, R, s, m, args, below, meth, c, cells, slots⟩ := X
  obtain ⟨⟨hx, hb, hml, hown, hts⟩, hK, hA, hlk, hD, hR9, hW, hX⟩ := hC
  dsimp only at hx hb hml hown hts hK hA hlk hR9
  intro res hr H locs ls hP hS hl
  show W p l e R s m args below meth c H locs cells slots (Qf res) (F0 m pc ls _)
  exact va_ldcS hx hb hown (hR hX) d (k res hr H locs ls hP hS hl)
theorem r_strV (hC : Cok X w A own cc nL fr lo S Rf N) {idx : Nat} (i : Nat) (hi : i < 3) (lk : Cond.fieldLink own idx "java/lang/String" "value" "[B" ∈ gw) (d : decode cc pc = .ok (.getfield idx, 3)) (k : RF X w A nL Qf P (pc + 3) lv (.ref (wV w i) :: st) σ) : RF X w A nL Qf P pc lv (.ref (wK w i) :: st) σ := by
  obtain ⟨p, l, e, R, s, m, args, below, meth, c, cells, slots⟩ := X
  obtain ⟨⟨hx, hb, hml, hown, hts⟩, hK, hA, hlk, hD, hR9, hW, hX⟩ := hC
  dsimp only at hx hb hml hown hts hK hA hlk hR9
  intro res hr H locs ls hP hS hl
  show W p l e R s m args below meth c H locs cells slots (Qf res) (F0 m pc ls _)
  exact vk_getf hx hb (hX.1.1 i hi).2.2.1 hS hown (hts _ lk) (fun _ h9 => h9) d (k res hr H locs ls hP hS hl)
theorem r_strC (hC : Cok X w A own cc nL fr lo S Rf N) {idx : Nat} (i : Nat) (hi : i < 3) (lk : Cond.fieldLink own idx "java/lang/String" "coder" "B" ∈ gw) (d : decode cc pc = .ok (.getfield idx, 3)) (k : RF X w A nL Qf P (pc + 3) lv (.int 0 :: st) σ) : RF X w A nL Qf P pc lv (.ref (wK w i) :: st) σ := by
  obtain ⟨p, l, e, R, s, m, args, below, meth, c, cells, slots⟩ := X
  obtain ⟨⟨hx, hb, hml, hown, hts⟩, hK, hA, hlk, hD, hR9, hW, hX⟩ := hC
  dsimp only at hx hb hml hown hts hK hA hlk hR9
  intro res hr H locs ls hP hS hl
  show W p l e R s m args below meth c H locs cells slots (Qf res) (F0 m pc ls _)
  exact vk_getf hx hb (hX.1.1 i hi).2.1 hS hown (hts _ lk) (fun _ h9 => h9) d (k res hr H locs ls hP hS hl)
theorem r_strL (hC : Cok X w A own cc nL fr lo S Rf N) (i : Nat) (hi : i < 3) (d : decode cc pc = .ok (.arraylength, 1)) (k : RF X w A nL Qf P (pc + 1) lv (.int (Int32.ofNat (slen.getD i 0)) :: st) σ) : RF X w A nL Qf P pc lv (.ref (wV w i) :: st) σ := by
  obtain ⟨p, l, e, R, s, m, args, below, meth, c, cells, slots⟩ := X
  obtain ⟨⟨hx, hb, hml, hown, hts⟩, hK, hA, hlk, hD, hR9, hW, hX⟩ := hC
  dsimp only at hx hb hml hown hts hK hA hlk hR9
  intro res hr H locs ls hP hS hl
  show W p l e R s m args below meth c H locs cells slots (Qf res) (F0 m pc ls _)
  exact va_tlen hx hb (hX.1.1 i hi).2.2.2 hS rfl d (k res hr H locs ls hP hS hl)
theorem r_strB (hC : Cok X w A own cc nL fr lo S Rf N) {j : Int32} (i : Nat) (hi : i < 3) (hj : inb j (slen.getD i 0)) (d : decode cc pc = .ok (.baload, 1)) (k : RF X w A nL Qf P (pc + 1) lv (.int ((sbyt.getD i []).getD j.toNatClampNeg 0) :: st) σ) : RF X w A nL Qf P pc lv (.int j :: .ref (wV w i) :: st) σ := by
  obtain ⟨p, l, e, R, s, m, args, below, meth, c, cells, slots⟩ := X
  obtain ⟨⟨hx, hb, hml, hown, hts⟩, hK, hA, hlk, hD, hR9, hW, hX⟩ := hC
  dsimp only at hx hb hml hown hts hK hA hlk hR9
  intro res hr H locs ls hP hS hl
  show W p l e R s m args below meth c H locs cells slots (Qf res) (F0 m pc ls _)
  exact va_tb hx hb (hX.1.1 i hi).2.2.2 hS hj rfl d (k res hr H locs ls hP hS hl)
theorem r_gets1 (hC : Cok X w A own cc nL fr lo S Rf N) {idx : Nat} (lk : Cond.fieldLink own idx "java/lang/String" "COMPACT_STRINGS" "Z" ∈ gw) (d : decode cc pc = .ok (.getstatic idx, 3)) (k : RF X w A nL Qf P (pc + 3) lv (.int 1 :: st) σ) : RF X w A nL Qf P pc lv st σ := by
  obtain ⟨p, l, e, R, s, m, args, below, meth, c, cells, slots⟩ := X
  obtain ⟨⟨hx, hb, hml, hown, hts⟩, hK, hA, hlk, hD, hR9, hW, hX⟩ := hC
  dsimp only at hx hb hml hown hts hK hA hlk hR9
  intro res hr H locs ls hP hS hl
  show W p l e R s m args below meth c H locs cells slots (Qf res) (F0 m pc ls _)
  exact va_gets hx hb hX.2.2.1 hS hown (hts _ lk) (fun _ h9 => h9) d (k res hr H locs ls hP hS hl)
theorem r_getsF (hC : Cok X w A own cc nL fr lo S Rf N) {idx : Nat} (lk : Cond.fieldLink own idx "jdk/internal/util/Preconditions" "SIOOBE_FORMATTER" "Ljava/util/function/BiFunction;" ∈ gw) (d : decode cc pc = .ok (.getstatic idx, 3)) (k : ∀ v : Value, (v = .null ∨ ∃ t, v = .ref t) → RF X w A nL Qf P (pc + 3) lv (v :: st) σ) : RF X w A nL Qf P pc lv st σ := by
  obtain ⟨p, l, e, R, s, m, args, below, meth, c, cells, slots⟩ := X
  obtain ⟨⟨hx, hb, hml, hown, hts⟩, hK, hA, hlk, hD, hR9, hW, hX⟩ := hC
  dsimp only at hx hb hml hown hts hK hA hlk hR9
  intro res hr H locs ls hP hS hl
  show W p l e R s m args below meth c H locs cells slots (Qf res) (F0 m pc ls _)
  rcases hX.2.2.2 with h9 | ⟨t, h9⟩
  · exact va_gets hx hb h9 hS hown (hts _ lk) (fun _ h9 => h9) d (k _ (Or.inl rfl) res hr H locs ls hP hS hl)
  · exact va_gets hx hb h9 hS hown (hts _ lk) (fun _ h9 => h9) d (k _ (Or.inr ⟨t, rfl⟩) res hr H locs ls hP hS hl)
theorem r_callTP (hC : Cok X w (Aw w (xs_ X).heap.size) own cc nL fr lo S Rf N) {y : MethodName} {cc2 : ByteArray} {nL2 n2 fr2 lo2 idx : Nat} {ret : FieldType} {f : Option Int32} {K : Int32 → Option ρ} (i : Nat) (hi : i < 3) (As : List Value) (hq : "java/lang/String" = y.cls) (hm : ∀ r, f = some r → MtI X.2.1 y cc2 nL2 ret fr2 lo2 w (.ref (wK w i) :: As) σ (r, σ)) (hy : YV y cc2 nL2 (some ret) n2) (lk : Cond.methodLink own idx y ∈ gw) (hn : As.length = n2) (hroom : Nat.ble (fr2 + 1) fr = true ∧ Nat.ble (8 + (nL2 + 11) + lo2) lo = true) (hst : Nat.ble (st.map fun v => v.category).sum 8 = true) (d : decode cc pc = .ok (.invokevirtual idx, 3)) (k : ∀ r, RF X w (Aw w (xs_ X).heap.size) nL Qf (K r) (pc + 3) lv (.int r :: st) σ) : RF X w (Aw w (xs_ X).heap.size) nL Qf (bp f K) pc lv (As.reverse ++ .ref (wK w i) :: st) σ := by
  obtain ⟨p, l, e, R, s, m, args, below, meth, c, cells, slots⟩ := X
  obtain ⟨⟨hx, hb, hml, hown, hts⟩, hK, hA, hlk, hD, hR, hW, hX⟩ := hC
  dsimp only at hx hb hml hown hts hK hA hlk hR hm
  intro res hr H locs ls hP hS hl
  show W p l e R s m args below meth c H locs cells slots (Qf res) (F0 m pc ls _)
  cases hf : f with
  | none => rw [hf] at hr; cases hr
  | some r2 =>
    rw [hf] at hr
    have hM := hm r2 hf H.size
    obtain ⟨y1, y2, y3, y4, y5⟩ := hy
    refine va_calli (va_runV (C := "java/lang/String") (As := As) (rest := st) ⟨hx, hb, hml, hown, hts⟩ hM ⟨callB_of n2 hts (gw_cons y1) rfl rfl rfl (hts _ y4) (hts _ lk) y5 ⟨Nat.le_trans (Nat.le_of_ble_eq_true hroom.1) hR.1, Nat.le_trans (Nat.le_of_ble_eq_true hroom.2) hR.2.1⟩, hts _ y2, by rw [hq]; exact hts _ y3⟩ ⟨Pw_blind, vk_recv hX.1 hi hS, fun U hU hW2 => ⟨rfl, by rw [hU], by rw [hU]; exact hP, va_K.moved hW2.alike hK, (hD σ).weaken (fun _ _ _ _ => trivial), hX.next hS hU hW2 (fun q9 h => Aw_mono hS.1 q9 h)⟩⟩ rfl hn hl.1 rfl (lv_room (Nat.le_of_ble_eq_true hst)) d ⟨hR.2.2.1, hR.2.2.2⟩) hS (fun q9 _ h => Aw_mono hS.1 q9 h) (fun q9 h => Aw_mono hS.1 q9 h) (fun r u t H1 locs1 ht hvm hw hB hz1 hk1 hS1 => ?_)
    cases hw
    exact k r2 res hr H1 locs1 ls (by rw [← ht]; exact hB.1) hS1 hl
theorem r_callSU (hC : Cok X w (Aw w (xs_ X).heap.size) own cc nL fr lo S Rf N) {y : MethodName} {cc2 : ByteArray} {nL2 n2 fr2 lo2 idx : Nat} {f : Option Unit} (As : List Value) (hm : f = some () → MtV X.2.1 y cc2 nL2 fr2 lo2 w As σ σ) (hy : YS y cc2 nL2 none n2) (lk : Cond.methodLink own idx y ∈ gw) (hn : As.length = n2) (hroom : Nat.ble (fr2 + 1) fr = true ∧ Nat.ble (8 + (nL2 + 11) + lo2) lo = true) (hst : Nat.ble (st.map fun v => v.category).sum 8 = true) (d : decode cc pc = .ok (.invokestatic idx, 3)) (k : RF X w (Aw w (xs_ X).heap.size) nL Qf P (pc + 3) lv st σ) : RF X w (Aw w (xs_ X).heap.size) nL Qf (bp f (fun _ => P)) pc lv (As.reverse ++ st) σ := by
  cases hf : f with
  | none => exact r_none
  | some r2 =>
    have hM := hm hf
    exact r_callSV hC (f := some σ) (K := fun σ' => @ite _ (σ' = σ) (Classical.propDecidable _) P none) As (fun res hres => by cases hres; exact hM) hy lk hn hroom hst d (fun σ' => by
      by_cases e : σ' = σ
      · rw [e, if_pos rfl]; exact k
      · rw [if_neg e]; exact r_none) |> (fun z => by simpa [bdv, bp] using z)
end RFSTR
end
