section
-- ===== PART A: goes FIRST, ahead of the names: the tables' words, and 'selects' of the private methods out of them =====
/-- a private method of a class that the tables say can be made, by its rows of tables_1 -/
def lw_okq (q : MethodName × Nat) : Prop := (q.1.cls ≠ "java/lang/invoke/MethodHandle" ∧ q.1.cls ≠ "java/lang/invoke/VarHandle") ∧ Cond.instantiable q.1.cls q.2 ∈ tables_1 ∧ Cond.privateMethod q.1 ∈ tables_1 ∧ Cond.instanceMethod q.1 ∈ tables_1
theorem lw_p0 : lw_okq (⟨"PlatePeas", "sheetAt", "(I)LPlatePeas$Sheet;"⟩, 14) := ⟨⟨by decide +kernel, by decide +kernel⟩, List.mem_of_getElem? (i := 16) (by decide +kernel), List.mem_of_getElem? (i := 196) (by decide +kernel), List.mem_of_getElem? (i := 197) (by decide +kernel)⟩
theorem lw_p1 : lw_okq (⟨"PlatePeas$Sheet", "faultOfLane", "(I)I"⟩, 3) := ⟨⟨by decide +kernel, by decide +kernel⟩, List.mem_of_getElem? (i := 131) (by decide +kernel), List.mem_of_getElem? (i := 207) (by decide +kernel), List.mem_of_getElem? (i := 208) (by decide +kernel)⟩
theorem lw_p2 : lw_okq (⟨"PlatePeas", "failed", "(I)I"⟩, 14) := ⟨⟨by decide +kernel, by decide +kernel⟩, List.mem_of_getElem? (i := 16) (by decide +kernel), List.mem_of_getElem? (i := 219) (by decide +kernel), List.mem_of_getElem? (i := 220) (by decide +kernel)⟩
theorem lw_p3 : lw_okq (⟨"PlatePeas$Plate", "wipe", "()V"⟩, 12) := ⟨⟨by decide +kernel, by decide +kernel⟩, List.mem_of_getElem? (i := 38) (by decide +kernel), List.mem_of_getElem? (i := 227) (by decide +kernel), List.mem_of_getElem? (i := 228) (by decide +kernel)⟩
theorem lw_p4 : lw_okq (⟨"PlatePeas$Plate", "takes", "(II)Z"⟩, 12) := ⟨⟨by decide +kernel, by decide +kernel⟩, List.mem_of_getElem? (i := 38) (by decide +kernel), List.mem_of_getElem? (i := 240) (by decide +kernel), List.mem_of_getElem? (i := 241) (by decide +kernel)⟩
theorem lw_p5 : lw_okq (⟨"PlatePeas$Plate", "takesBehindHead", "(II)Z"⟩, 12) := ⟨⟨by decide +kernel, by decide +kernel⟩, List.mem_of_getElem? (i := 38) (by decide +kernel), List.mem_of_getElem? (i := 244) (by decide +kernel), List.mem_of_getElem? (i := 245) (by decide +kernel)⟩
theorem lw_p6 : lw_okq (⟨"PlatePeas$Plate", "rowCodes", "()I"⟩, 12) := ⟨⟨by decide +kernel, by decide +kernel⟩, List.mem_of_getElem? (i := 38) (by decide +kernel), List.mem_of_getElem? (i := 248) (by decide +kernel), List.mem_of_getElem? (i := 249) (by decide +kernel)⟩
theorem lw_p7 : lw_okq (⟨"PlatePeas$Plate", "takesInRow", "(II)Z"⟩, 12) := ⟨⟨by decide +kernel, by decide +kernel⟩, List.mem_of_getElem? (i := 38) (by decide +kernel), List.mem_of_getElem? (i := 252) (by decide +kernel), List.mem_of_getElem? (i := 253) (by decide +kernel)⟩
theorem lw_p8 : lw_okq (⟨"PlatePeas$Plate", "takesEater", "(II)Z"⟩, 12) := ⟨⟨by decide +kernel, by decide +kernel⟩, List.mem_of_getElem? (i := 38) (by decide +kernel), List.mem_of_getElem? (i := 259) (by decide +kernel), List.mem_of_getElem? (i := 260) (by decide +kernel)⟩
theorem lw_p9 : lw_okq (⟨"PlatePeas$Plate", "takesStrength", "(I)Z"⟩, 12) := ⟨⟨by decide +kernel, by decide +kernel⟩, List.mem_of_getElem? (i := 38) (by decide +kernel), List.mem_of_getElem? (i := 263) (by decide +kernel), List.mem_of_getElem? (i := 264) (by decide +kernel)⟩
theorem lw_p10 : lw_okq (⟨"PlatePeas$Plate", "listCodes", "()V"⟩, 12) := ⟨⟨by decide +kernel, by decide +kernel⟩, List.mem_of_getElem? (i := 38) (by decide +kernel), List.mem_of_getElem? (i := 303) (by decide +kernel), List.mem_of_getElem? (i := 304) (by decide +kernel)⟩
theorem lw_p11 : lw_okq (⟨"PlatePeas", "takeDraft", "()V"⟩, 14) := ⟨⟨by decide +kernel, by decide +kernel⟩, List.mem_of_getElem? (i := 16) (by decide +kernel), List.mem_of_getElem? (i := 310) (by decide +kernel), List.mem_of_getElem? (i := 311) (by decide +kernel)⟩
theorem lw_p12 : lw_okq (⟨"PlatePeas", "replayNow", "()V"⟩, 14) := ⟨⟨by decide +kernel, by decide +kernel⟩, List.mem_of_getElem? (i := 16) (by decide +kernel), List.mem_of_getElem? (i := 352) (by decide +kernel), List.mem_of_getElem? (i := 353) (by decide +kernel)⟩
theorem lw_p13 : lw_okq (⟨"PlatePeas", "replay", "(LPlatePeas$Spots;II)V"⟩, 14) := ⟨⟨by decide +kernel, by decide +kernel⟩, List.mem_of_getElem? (i := 16) (by decide +kernel), List.mem_of_getElem? (i := 356) (by decide +kernel), List.mem_of_getElem? (i := 357) (by decide +kernel)⟩
theorem lw_p14 : lw_okq (⟨"PlatePeas$Spots", "peaOn", "(I)I"⟩, 5) := ⟨⟨by decide +kernel, by decide +kernel⟩, List.mem_of_getElem? (i := 89) (by decide +kernel), List.mem_of_getElem? (i := 395) (by decide +kernel), List.mem_of_getElem? (i := 396) (by decide +kernel)⟩
theorem lw_p15 : lw_okq (⟨"PlatePeas$Spots", "roll", "(III)V"⟩, 5) := ⟨⟨by decide +kernel, by decide +kernel⟩, List.mem_of_getElem? (i := 89) (by decide +kernel), List.mem_of_getElem? (i := 412) (by decide +kernel), List.mem_of_getElem? (i := 413) (by decide +kernel)⟩
def lw_privs_1 : List (MethodName × Nat) := [(⟨"PlatePeas", "sheetAt", "(I)LPlatePeas$Sheet;"⟩, 14), (⟨"PlatePeas$Sheet", "faultOfLane", "(I)I"⟩, 3), (⟨"PlatePeas", "failed", "(I)I"⟩, 14), (⟨"PlatePeas$Plate", "wipe", "()V"⟩, 12), (⟨"PlatePeas$Plate", "takes", "(II)Z"⟩, 12), (⟨"PlatePeas$Plate", "takesBehindHead", "(II)Z"⟩, 12), (⟨"PlatePeas$Plate", "rowCodes", "()I"⟩, 12), (⟨"PlatePeas$Plate", "takesInRow", "(II)Z"⟩, 12), (⟨"PlatePeas$Plate", "takesEater", "(II)Z"⟩, 12), (⟨"PlatePeas$Plate", "takesStrength", "(I)Z"⟩, 12), (⟨"PlatePeas$Plate", "listCodes", "()V"⟩, 12), (⟨"PlatePeas", "takeDraft", "()V"⟩, 14), (⟨"PlatePeas", "replayNow", "()V"⟩, 14), (⟨"PlatePeas", "replay", "(LPlatePeas$Spots;II)V"⟩, 14), (⟨"PlatePeas$Spots", "peaOn", "(I)I"⟩, 5), (⟨"PlatePeas$Spots", "roll", "(III)V"⟩, 5)]
theorem lw_r1 : ∀ q ∈ lw_privs_1, lw_okq q := List.forall_mem_cons.mpr ⟨lw_p0, List.forall_mem_cons.mpr ⟨lw_p1, List.forall_mem_cons.mpr ⟨lw_p2, List.forall_mem_cons.mpr ⟨lw_p3, List.forall_mem_cons.mpr ⟨lw_p4, List.forall_mem_cons.mpr ⟨lw_p5, List.forall_mem_cons.mpr ⟨lw_p6, List.forall_mem_cons.mpr ⟨lw_p7, List.forall_mem_cons.mpr ⟨lw_p8, List.forall_mem_cons.mpr ⟨lw_p9, List.forall_mem_cons.mpr ⟨lw_p10, List.forall_mem_cons.mpr ⟨lw_p11, List.forall_mem_cons.mpr ⟨lw_p12, List.forall_mem_cons.mpr ⟨lw_p13, List.forall_mem_cons.mpr ⟨lw_p14, List.forall_mem_cons.mpr ⟨lw_p15, fun _ h => absurd h List.not_mem_nil⟩⟩⟩⟩⟩⟩⟩⟩⟩⟩⟩⟩⟩⟩⟩⟩
theorem lw_p16 : lw_okq (⟨"PlatePeas$Spots", "comeToRim", "(I)V"⟩, 5) := ⟨⟨by decide +kernel, by decide +kernel⟩, List.mem_of_getElem? (i := 89) (by decide +kernel), List.mem_of_getElem? (i := 416) (by decide +kernel), List.mem_of_getElem? (i := 417) (by decide +kernel)⟩
theorem lw_p17 : lw_okq (⟨"PlatePeas", "refusalOfPush", "(III)I"⟩, 14) := ⟨⟨by decide +kernel, by decide +kernel⟩, List.mem_of_getElem? (i := 16) (by decide +kernel), List.mem_of_getElem? (i := 449) (by decide +kernel), List.mem_of_getElem? (i := 450) (by decide +kernel)⟩
theorem lw_p18 : lw_okq (⟨"PlatePeas", "areCodes", "(LPlatePeas$Sheet;II)Z"⟩, 14) := ⟨⟨by decide +kernel, by decide +kernel⟩, List.mem_of_getElem? (i := 16) (by decide +kernel), List.mem_of_getElem? (i := 544) (by decide +kernel), List.mem_of_getElem? (i := 545) (by decide +kernel)⟩
theorem lw_p19 : lw_okq (⟨"PlatePeas", "hadByRow", "(LPlatePeas$Sheet;II)I"⟩, 14) := ⟨⟨by decide +kernel, by decide +kernel⟩, List.mem_of_getElem? (i := 16) (by decide +kernel), List.mem_of_getElem? (i := 554) (by decide +kernel), List.mem_of_getElem? (i := 555) (by decide +kernel)⟩
theorem lw_p20 : lw_okq (⟨"PlatePeas", "readingsAreSo", "(LPlatePeas$Spots;)Z"⟩, 14) := ⟨⟨by decide +kernel, by decide +kernel⟩, List.mem_of_getElem? (i := 16) (by decide +kernel), List.mem_of_getElem? (i := 584) (by decide +kernel), List.mem_of_getElem? (i := 585) (by decide +kernel)⟩
theorem lw_p21 : lw_okq (⟨"PlatePeas$Sheet", "cut", "(I)I"⟩, 3) := ⟨⟨by decide +kernel, by decide +kernel⟩, List.mem_of_getElem? (i := 131) (by decide +kernel), List.mem_of_getElem? (i := 628) (by decide +kernel), List.mem_of_getElem? (i := 629) (by decide +kernel)⟩
theorem lw_p22 : lw_okq (⟨"PlatePeasModel", "refused", "(I)I"⟩, 33) := ⟨⟨by decide +kernel, by decide +kernel⟩, List.mem_of_getElem? (i := 712) (by decide +kernel), List.mem_of_getElem? (i := 829) (by decide +kernel), List.mem_of_getElem? (i := 830) (by decide +kernel)⟩
theorem lw_p23 : lw_okq (⟨"PlatePeasModel", "fails", "(I)I"⟩, 33) := ⟨⟨by decide +kernel, by decide +kernel⟩, List.mem_of_getElem? (i := 712) (by decide +kernel), List.mem_of_getElem? (i := 837) (by decide +kernel), List.mem_of_getElem? (i := 838) (by decide +kernel)⟩
theorem lw_p24 : lw_okq (⟨"PlatePeasModel", "lost", "(I)J"⟩, 33) := ⟨⟨by decide +kernel, by decide +kernel⟩, List.mem_of_getElem? (i := 712) (by decide +kernel), List.mem_of_getElem? (i := 856) (by decide +kernel), List.mem_of_getElem? (i := 857) (by decide +kernel)⟩
theorem lw_p25 : lw_okq (⟨"PlatePeasModel", "faultOf", "(IIII)I"⟩, 33) := ⟨⟨by decide +kernel, by decide +kernel⟩, List.mem_of_getElem? (i := 712) (by decide +kernel), List.mem_of_getElem? (i := 869) (by decide +kernel), List.mem_of_getElem? (i := 870) (by decide +kernel)⟩
theorem lw_p26 : lw_okq (⟨"PlatePeasModel", "takeText", "()Z"⟩, 33) := ⟨⟨by decide +kernel, by decide +kernel⟩, List.mem_of_getElem? (i := 712) (by decide +kernel), List.mem_of_getElem? (i := 873) (by decide +kernel), List.mem_of_getElem? (i := 874) (by decide +kernel)⟩
theorem lw_p27 : lw_okq (⟨"PlatePeasModel", "take", "(II)I"⟩, 33) := ⟨⟨by decide +kernel, by decide +kernel⟩, List.mem_of_getElem? (i := 712) (by decide +kernel), List.mem_of_getElem? (i := 877) (by decide +kernel), List.mem_of_getElem? (i := 878) (by decide +kernel)⟩
theorem lw_p28 : lw_okq (⟨"PlatePeasModel", "takeSquares", "()Z"⟩, 33) := ⟨⟨by decide +kernel, by decide +kernel⟩, List.mem_of_getElem? (i := 712) (by decide +kernel), List.mem_of_getElem? (i := 881) (by decide +kernel), List.mem_of_getElem? (i := 882) (by decide +kernel)⟩
theorem lw_p29 : lw_okq (⟨"PlatePeasModel", "takeSquare", "(I)Z"⟩, 33) := ⟨⟨by decide +kernel, by decide +kernel⟩, List.mem_of_getElem? (i := 712) (by decide +kernel), List.mem_of_getElem? (i := 885) (by decide +kernel), List.mem_of_getElem? (i := 886) (by decide +kernel)⟩
theorem lw_p30 : lw_okq (⟨"PlatePeasModel", "takeEater", "()Z"⟩, 33) := ⟨⟨by decide +kernel, by decide +kernel⟩, List.mem_of_getElem? (i := 712) (by decide +kernel), List.mem_of_getElem? (i := 889) (by decide +kernel), List.mem_of_getElem? (i := 890) (by decide +kernel)⟩
theorem lw_p31 : lw_okq (⟨"PlatePeasModel", "isSquare", "(I)Z"⟩, 33) := ⟨⟨by decide +kernel, by decide +kernel⟩, List.mem_of_getElem? (i := 712) (by decide +kernel), List.mem_of_getElem? (i := 897) (by decide +kernel), List.mem_of_getElem? (i := 898) (by decide +kernel)⟩
def lw_privs_2 : List (MethodName × Nat) := [(⟨"PlatePeas$Spots", "comeToRim", "(I)V"⟩, 5), (⟨"PlatePeas", "refusalOfPush", "(III)I"⟩, 14), (⟨"PlatePeas", "areCodes", "(LPlatePeas$Sheet;II)Z"⟩, 14), (⟨"PlatePeas", "hadByRow", "(LPlatePeas$Sheet;II)I"⟩, 14), (⟨"PlatePeas", "readingsAreSo", "(LPlatePeas$Spots;)Z"⟩, 14), (⟨"PlatePeas$Sheet", "cut", "(I)I"⟩, 3), (⟨"PlatePeasModel", "refused", "(I)I"⟩, 33), (⟨"PlatePeasModel", "fails", "(I)I"⟩, 33), (⟨"PlatePeasModel", "lost", "(I)J"⟩, 33), (⟨"PlatePeasModel", "faultOf", "(IIII)I"⟩, 33), (⟨"PlatePeasModel", "takeText", "()Z"⟩, 33), (⟨"PlatePeasModel", "take", "(II)I"⟩, 33), (⟨"PlatePeasModel", "takeSquares", "()Z"⟩, 33), (⟨"PlatePeasModel", "takeSquare", "(I)Z"⟩, 33), (⟨"PlatePeasModel", "takeEater", "()Z"⟩, 33), (⟨"PlatePeasModel", "isSquare", "(I)Z"⟩, 33)]
theorem lw_r2 : ∀ q ∈ lw_privs_2, lw_okq q := List.forall_mem_cons.mpr ⟨lw_p16, List.forall_mem_cons.mpr ⟨lw_p17, List.forall_mem_cons.mpr ⟨lw_p18, List.forall_mem_cons.mpr ⟨lw_p19, List.forall_mem_cons.mpr ⟨lw_p20, List.forall_mem_cons.mpr ⟨lw_p21, List.forall_mem_cons.mpr ⟨lw_p22, List.forall_mem_cons.mpr ⟨lw_p23, List.forall_mem_cons.mpr ⟨lw_p24, List.forall_mem_cons.mpr ⟨lw_p25, List.forall_mem_cons.mpr ⟨lw_p26, List.forall_mem_cons.mpr ⟨lw_p27, List.forall_mem_cons.mpr ⟨lw_p28, List.forall_mem_cons.mpr ⟨lw_p29, List.forall_mem_cons.mpr ⟨lw_p30, List.forall_mem_cons.mpr ⟨lw_p31, fun _ h => absurd h List.not_mem_nil⟩⟩⟩⟩⟩⟩⟩⟩⟩⟩⟩⟩⟩⟩⟩⟩
theorem lw_p32 : lw_okq (⟨"PlatePeasModel", "startsAt", "(I)Z"⟩, 33) := ⟨⟨by decide +kernel, by decide +kernel⟩, List.mem_of_getElem? (i := 712) (by decide +kernel), List.mem_of_getElem? (i := 905) (by decide +kernel), List.mem_of_getElem? (i := 906) (by decide +kernel)⟩
theorem lw_p33 : lw_okq (⟨"PlatePeasModel", "isEater", "(I)Z"⟩, 33) := ⟨⟨by decide +kernel, by decide +kernel⟩, List.mem_of_getElem? (i := 712) (by decide +kernel), List.mem_of_getElem? (i := 913) (by decide +kernel), List.mem_of_getElem? (i := 914) (by decide +kernel)⟩
theorem lw_p34 : lw_okq (⟨"PlatePeasModel", "forceOf", "(I)I"⟩, 33) := ⟨⟨by decide +kernel, by decide +kernel⟩, List.mem_of_getElem? (i := 712) (by decide +kernel), List.mem_of_getElem? (i := 917) (by decide +kernel), List.mem_of_getElem? (i := 918) (by decide +kernel)⟩
theorem lw_p35 : lw_okq (⟨"PlatePeasModel", "isPea", "(I)Z"⟩, 33) := ⟨⟨by decide +kernel, by decide +kernel⟩, List.mem_of_getElem? (i := 712) (by decide +kernel), List.mem_of_getElem? (i := 929) (by decide +kernel), List.mem_of_getElem? (i := 930) (by decide +kernel)⟩
theorem lw_p36 : lw_okq (⟨"PlatePeasModel", "goThrough", "(I)V"⟩, 33) := ⟨⟨by decide +kernel, by decide +kernel⟩, List.mem_of_getElem? (i := 712) (by decide +kernel), List.mem_of_getElem? (i := 941) (by decide +kernel), List.mem_of_getElem? (i := 942) (by decide +kernel)⟩
theorem lw_p37 : lw_okq (⟨"PlatePeasModel", "doPush", "(I)V"⟩, 33) := ⟨⟨by decide +kernel, by decide +kernel⟩, List.mem_of_getElem? (i := 712) (by decide +kernel), List.mem_of_getElem? (i := 945) (by decide +kernel), List.mem_of_getElem? (i := 946) (by decide +kernel)⟩
theorem lw_p38 : lw_okq (⟨"PlatePeasModel", "isHeld", "(II)Z"⟩, 33) := ⟨⟨by decide +kernel, by decide +kernel⟩, List.mem_of_getElem? (i := 712) (by decide +kernel), List.mem_of_getElem? (i := 952) (by decide +kernel), List.mem_of_getElem? (i := 953) (by decide +kernel)⟩
theorem lw_p39 : lw_okq (⟨"PlatePeasModel", "next", "(II)I"⟩, 33) := ⟨⟨by decide +kernel, by decide +kernel⟩, List.mem_of_getElem? (i := 712) (by decide +kernel), List.mem_of_getElem? (i := 956) (by decide +kernel), List.mem_of_getElem? (i := 957) (by decide +kernel)⟩
theorem lw_p40 : lw_okq (⟨"PlatePeasModel", "peaAt", "(I)I"⟩, 33) := ⟨⟨by decide +kernel, by decide +kernel⟩, List.mem_of_getElem? (i := 712) (by decide +kernel), List.mem_of_getElem? (i := 960) (by decide +kernel), List.mem_of_getElem? (i := 961) (by decide +kernel)⟩
theorem lw_p41 : lw_okq (⟨"PlatePeasModel", "roll", "(III)V"⟩, 33) := ⟨⟨by decide +kernel, by decide +kernel⟩, List.mem_of_getElem? (i := 712) (by decide +kernel), List.mem_of_getElem? (i := 967) (by decide +kernel), List.mem_of_getElem? (i := 968) (by decide +kernel)⟩
theorem lw_p42 : lw_okq (⟨"PlatePeasModel", "setOf", "(I)I"⟩, 33) := ⟨⟨by decide +kernel, by decide +kernel⟩, List.mem_of_getElem? (i := 712) (by decide +kernel), List.mem_of_getElem? (i := 976) (by decide +kernel), List.mem_of_getElem? (i := 977) (by decide +kernel)⟩
theorem lw_p43 : lw_okq (⟨"PlatePeasModel", "save", "(I)V"⟩, 33) := ⟨⟨by decide +kernel, by decide +kernel⟩, List.mem_of_getElem? (i := 712) (by decide +kernel), List.mem_of_getElem? (i := 984) (by decide +kernel), List.mem_of_getElem? (i := 985) (by decide +kernel)⟩
theorem lw_p44 : lw_okq (⟨"PlatePeasModel", "findFewest", "(I)I"⟩, 33) := ⟨⟨by decide +kernel, by decide +kernel⟩, List.mem_of_getElem? (i := 712) (by decide +kernel), List.mem_of_getElem? (i := 992) (by decide +kernel), List.mem_of_getElem? (i := 993) (by decide +kernel)⟩
theorem lw_p45 : lw_okq (⟨"PlatePeasModel", "lastPush", "(II)I"⟩, 33) := ⟨⟨by decide +kernel, by decide +kernel⟩, List.mem_of_getElem? (i := 712) (by decide +kernel), List.mem_of_getElem? (i := 996) (by decide +kernel), List.mem_of_getElem? (i := 997) (by decide +kernel)⟩
theorem lw_p46 : lw_okq (⟨"PlatePeasModel", "isPush", "(I)Z"⟩, 33) := ⟨⟨by decide +kernel, by decide +kernel⟩, List.mem_of_getElem? (i := 712) (by decide +kernel), List.mem_of_getElem? (i := 1000) (by decide +kernel), List.mem_of_getElem? (i := 1001) (by decide +kernel)⟩
theorem lw_p47 : lw_okq (⟨"PlatePeasModel", "isCode", "(I)Z"⟩, 33) := ⟨⟨by decide +kernel, by decide +kernel⟩, List.mem_of_getElem? (i := 712) (by decide +kernel), List.mem_of_getElem? (i := 1004) (by decide +kernel), List.mem_of_getElem? (i := 1005) (by decide +kernel)⟩
def lw_privs_3 : List (MethodName × Nat) := [(⟨"PlatePeasModel", "startsAt", "(I)Z"⟩, 33), (⟨"PlatePeasModel", "isEater", "(I)Z"⟩, 33), (⟨"PlatePeasModel", "forceOf", "(I)I"⟩, 33), (⟨"PlatePeasModel", "isPea", "(I)Z"⟩, 33), (⟨"PlatePeasModel", "goThrough", "(I)V"⟩, 33), (⟨"PlatePeasModel", "doPush", "(I)V"⟩, 33), (⟨"PlatePeasModel", "isHeld", "(II)Z"⟩, 33), (⟨"PlatePeasModel", "next", "(II)I"⟩, 33), (⟨"PlatePeasModel", "peaAt", "(I)I"⟩, 33), (⟨"PlatePeasModel", "roll", "(III)V"⟩, 33), (⟨"PlatePeasModel", "setOf", "(I)I"⟩, 33), (⟨"PlatePeasModel", "save", "(I)V"⟩, 33), (⟨"PlatePeasModel", "findFewest", "(I)I"⟩, 33), (⟨"PlatePeasModel", "lastPush", "(II)I"⟩, 33), (⟨"PlatePeasModel", "isPush", "(I)Z"⟩, 33), (⟨"PlatePeasModel", "isCode", "(I)Z"⟩, 33)]
theorem lw_r3 : ∀ q ∈ lw_privs_3, lw_okq q := List.forall_mem_cons.mpr ⟨lw_p32, List.forall_mem_cons.mpr ⟨lw_p33, List.forall_mem_cons.mpr ⟨lw_p34, List.forall_mem_cons.mpr ⟨lw_p35, List.forall_mem_cons.mpr ⟨lw_p36, List.forall_mem_cons.mpr ⟨lw_p37, List.forall_mem_cons.mpr ⟨lw_p38, List.forall_mem_cons.mpr ⟨lw_p39, List.forall_mem_cons.mpr ⟨lw_p40, List.forall_mem_cons.mpr ⟨lw_p41, List.forall_mem_cons.mpr ⟨lw_p42, List.forall_mem_cons.mpr ⟨lw_p43, List.forall_mem_cons.mpr ⟨lw_p44, List.forall_mem_cons.mpr ⟨lw_p45, List.forall_mem_cons.mpr ⟨lw_p46, List.forall_mem_cons.mpr ⟨lw_p47, fun _ h => absurd h List.not_mem_nil⟩⟩⟩⟩⟩⟩⟩⟩⟩⟩⟩⟩⟩⟩⟩⟩
theorem lw_p48 : lw_okq (⟨"PlatePeasModel", "load", "(I)V"⟩, 33) := ⟨⟨by decide +kernel, by decide +kernel⟩, List.mem_of_getElem? (i := 712) (by decide +kernel), List.mem_of_getElem? (i := 1008) (by decide +kernel), List.mem_of_getElem? (i := 1009) (by decide +kernel)⟩
theorem lw_p49 : lw_okq (⟨"PlatePeasModel", "findThree", "(I)Z"⟩, 33) := ⟨⟨by decide +kernel, by decide +kernel⟩, List.mem_of_getElem? (i := 712) (by decide +kernel), List.mem_of_getElem? (i := 1012) (by decide +kernel), List.mem_of_getElem? (i := 1013) (by decide +kernel)⟩
theorem lw_p50 : lw_okq (⟨"PlatePeasModel", "hadNow", "()I"⟩, 33) := ⟨⟨by decide +kernel, by decide +kernel⟩, List.mem_of_getElem? (i := 712) (by decide +kernel), List.mem_of_getElem? (i := 1020) (by decide +kernel), List.mem_of_getElem? (i := 1021) (by decide +kernel)⟩
theorem lw_p51 : lw_okq (⟨"PlatePeasModel", "mostByOne", "(I)I"⟩, 33) := ⟨⟨by decide +kernel, by decide +kernel⟩, List.mem_of_getElem? (i := 712) (by decide +kernel), List.mem_of_getElem? (i := 1024) (by decide +kernel), List.mem_of_getElem? (i := 1025) (by decide +kernel)⟩
theorem lw_p52 : lw_okq (⟨"PlatePeasModel", "mostByTwo", "(I)I"⟩, 33) := ⟨⟨by decide +kernel, by decide +kernel⟩, List.mem_of_getElem? (i := 712) (by decide +kernel), List.mem_of_getElem? (i := 1028) (by decide +kernel), List.mem_of_getElem? (i := 1029) (by decide +kernel)⟩
theorem lw_p53 : lw_okq (⟨"PlatePeasModel", "mostByThree", "()I"⟩, 33) := ⟨⟨by decide +kernel, by decide +kernel⟩, List.mem_of_getElem? (i := 712) (by decide +kernel), List.mem_of_getElem? (i := 1032) (by decide +kernel), List.mem_of_getElem? (i := 1033) (by decide +kernel)⟩
theorem lw_p54 : lw_okq (⟨"PlatePeasModel", "areCodes", "(II)Z"⟩, 33) := ⟨⟨by decide +kernel, by decide +kernel⟩, List.mem_of_getElem? (i := 712) (by decide +kernel), List.mem_of_getElem? (i := 1044) (by decide +kernel), List.mem_of_getElem? (i := 1045) (by decide +kernel)⟩
theorem lw_p55 : lw_okq (⟨"PlatePeasModel", "areSo", "()Z"⟩, 33) := ⟨⟨by decide +kernel, by decide +kernel⟩, List.mem_of_getElem? (i := 712) (by decide +kernel), List.mem_of_getElem? (i := 1067) (by decide +kernel), List.mem_of_getElem? (i := 1068) (by decide +kernel)⟩
theorem lw_p56 : lw_okq (⟨"PlatePeasModel", "forkTells", "(I)I"⟩, 33) := ⟨⟨by decide +kernel, by decide +kernel⟩, List.mem_of_getElem? (i := 712) (by decide +kernel), List.mem_of_getElem? (i := 1083) (by decide +kernel), List.mem_of_getElem? (i := 1084) (by decide +kernel)⟩
theorem lw_p57 : lw_okq (⟨"PlatePeasModel", "begin", "(I)V"⟩, 33) := ⟨⟨by decide +kernel, by decide +kernel⟩, List.mem_of_getElem? (i := 712) (by decide +kernel), List.mem_of_getElem? (i := 1087) (by decide +kernel), List.mem_of_getElem? (i := 1088) (by decide +kernel)⟩
theorem lw_p58 : lw_okq (⟨"PlatePeasModel", "knifeTells", "(I)I"⟩, 33) := ⟨⟨by decide +kernel, by decide +kernel⟩, List.mem_of_getElem? (i := 712) (by decide +kernel), List.mem_of_getElem? (i := 1091) (by decide +kernel), List.mem_of_getElem? (i := 1092) (by decide +kernel)⟩
theorem lw_p59 : lw_okq (⟨"PlatePeasModel", "spoonTells", "(I)I"⟩, 33) := ⟨⟨by decide +kernel, by decide +kernel⟩, List.mem_of_getElem? (i := 712) (by decide +kernel), List.mem_of_getElem? (i := 1095) (by decide +kernel), List.mem_of_getElem? (i := 1096) (by decide +kernel)⟩
def lw_privs_4 : List (MethodName × Nat) := [(⟨"PlatePeasModel", "load", "(I)V"⟩, 33), (⟨"PlatePeasModel", "findThree", "(I)Z"⟩, 33), (⟨"PlatePeasModel", "hadNow", "()I"⟩, 33), (⟨"PlatePeasModel", "mostByOne", "(I)I"⟩, 33), (⟨"PlatePeasModel", "mostByTwo", "(I)I"⟩, 33), (⟨"PlatePeasModel", "mostByThree", "()I"⟩, 33), (⟨"PlatePeasModel", "areCodes", "(II)Z"⟩, 33), (⟨"PlatePeasModel", "areSo", "()Z"⟩, 33), (⟨"PlatePeasModel", "forkTells", "(I)I"⟩, 33), (⟨"PlatePeasModel", "begin", "(I)V"⟩, 33), (⟨"PlatePeasModel", "knifeTells", "(I)I"⟩, 33), (⟨"PlatePeasModel", "spoonTells", "(I)I"⟩, 33)]
theorem lw_r4 : ∀ q ∈ lw_privs_4, lw_okq q := List.forall_mem_cons.mpr ⟨lw_p48, List.forall_mem_cons.mpr ⟨lw_p49, List.forall_mem_cons.mpr ⟨lw_p50, List.forall_mem_cons.mpr ⟨lw_p51, List.forall_mem_cons.mpr ⟨lw_p52, List.forall_mem_cons.mpr ⟨lw_p53, List.forall_mem_cons.mpr ⟨lw_p54, List.forall_mem_cons.mpr ⟨lw_p55, List.forall_mem_cons.mpr ⟨lw_p56, List.forall_mem_cons.mpr ⟨lw_p57, List.forall_mem_cons.mpr ⟨lw_p58, List.forall_mem_cons.mpr ⟨lw_p59, fun _ h => absurd h List.not_mem_nil⟩⟩⟩⟩⟩⟩⟩⟩⟩⟩⟩⟩
def lw_privs : List (MethodName × Nat) := lw_privs_1 ++ (lw_privs_2 ++ (lw_privs_3 ++ (lw_privs_4)))
def lw_tbl : List Cond := k2_sels lw_privs ++ tables_1
theorem lw_privs_ok : ∀ q ∈ lw_privs, lw_okq q := by
  show ∀ q ∈ lw_privs_1 ++ (lw_privs_2 ++ (lw_privs_3 ++ (lw_privs_4))), lw_okq q
  exact List.forall_mem_append.mpr ⟨lw_r1, List.forall_mem_append.mpr ⟨lw_r2, List.forall_mem_append.mpr ⟨lw_r3, lw_r4⟩⟩⟩
end
section
def RX0 : String := "PlatePeas$Fork"
def TX0 : u_T := fun k => match k with
  | 0 => ("PlatePeas$Fork", "number", "I", true)
  | _ => ("PlatePeas$Fork", "strength", "I", true)
def tyX0 : Nat → FieldType := fun k => match k with
  | 0 => .int
  | _ => .int
abbrev wsX00 : List Cond := u_ws RX0 TX0 2
theorem nmX0 : ∀ a, a < 2 → ∀ b, b < 2 → a ≠ b → (TX0 a).2.1 ≠ (TX0 b).2.1 := by decide +kernel
theorem tyX0_ok : ∀ k, k < 2 → parseFieldDescriptor (TX0 k).2.2.1 = some (tyX0 k) := by decide +kernel
abbrev cX0_init : ByteArray := prog_2_method_1_code
def yX0_init : MethodName := ⟨RX0, "<init>", "(II)V"⟩
abbrev cX0_kindNumber : ByteArray := prog_2_method_2_code
def yX0_kindNumber : MethodName := ⟨RX0, "kindNumber", "()I"⟩
abbrev cX0_pushForce : ByteArray := prog_2_method_3_code
def yX0_pushForce : MethodName := ⟨RX0, "pushForce", "()I"⟩
abbrev cX0_telling : ByteArray := prog_2_method_4_code
def yX0_telling : MethodName := ⟨RX0, "telling", "(LPlatePeas$Trace;)I"⟩
abbrev cX0_forkTelling : ByteArray := prog_2_method_5_code
def yX0_forkTelling : MethodName := ⟨RX0, "forkTelling", "(LPlatePeas$Trace;)I"⟩
abbrev cX0_polished : ByteArray := prog_2_method_6_code
def yX0_polished : MethodName := ⟨RX0, "polished", "(LPlatePeas$Trace;)I"⟩
def RX1 : String := "PlatePeas$Knife"
def TX1 : u_T := fun k => match k with
  | 0 => ("PlatePeas$Fork", "number", "I", true)
  | _ => ("PlatePeas$Fork", "strength", "I", true)
def tyX1 : Nat → FieldType := fun k => match k with
  | 0 => .int
  | _ => .int
abbrev wsX10 : List Cond := u_ws RX1 TX1 2
theorem nmX1 : ∀ a, a < 2 → ∀ b, b < 2 → a ≠ b → (TX1 a).2.1 ≠ (TX1 b).2.1 := by decide +kernel
theorem tyX1_ok : ∀ k, k < 2 → parseFieldDescriptor (TX1 k).2.2.1 = some (tyX1 k) := by decide +kernel
abbrev cX1_init : ByteArray := prog_3_method_1_code
def yX1_init : MethodName := ⟨RX1, "<init>", "(II)V"⟩
abbrev cX1_kindNumber : ByteArray := prog_3_method_2_code
def yX1_kindNumber : MethodName := ⟨RX1, "kindNumber", "()I"⟩
abbrev cX1_pushForce : ByteArray := prog_3_method_3_code
def yX1_pushForce : MethodName := ⟨RX1, "pushForce", "()I"⟩
abbrev cX1_telling : ByteArray := prog_3_method_4_code
def yX1_telling : MethodName := ⟨RX1, "telling", "(LPlatePeas$Trace;)I"⟩
def RX2 : String := "PlatePeas$Plate"
def TX2 : u_T := fun k => match k with
  | 0 => ("PlatePeas$Plate", "high", "I", false)
  | 1 => ("PlatePeas$Plate", "wide", "I", false)
  | 2 => ("PlatePeas$Plate", "peaCount", "I", false)
  | 3 => ("PlatePeas$Plate", "eaterCount", "I", false)
  | 4 => ("PlatePeas$Plate", "codeCount", "I", false)
  | 5 => ("PlatePeas$Plate", "codes", "[I", true)
  | 6 => ("PlatePeas$Plate", "signs", "[I", true)
  | 7 => ("PlatePeas$Plate", "starts", "[I", true)
  | 8 => ("PlatePeas$Plate", "eaters", "[LPlatePeas$Fork;", true)
  | 9 => ("PlatePeas$Plate", "letters", "[I", true)
  | 10 => ("PlatePeas$Plate", "strengths", "[I", true)
  | _ => ("PlatePeas$Plate", "squareCount", "I", false)
def tyX2 : Nat → FieldType := fun k => match k with
  | 0 => .int
  | 1 => .int
  | 2 => .int
  | 3 => .int
  | 4 => .int
  | 5 => .array .int
  | 6 => .array .int
  | 7 => .array .int
  | 8 => .array (.object "PlatePeas$Fork")
  | 9 => .array .int
  | 10 => .array .int
  | _ => .int
abbrev wsX20 : List Cond := u_ws RX2 TX2 12
theorem nmX2 : ∀ a, a < 12 → ∀ b, b < 12 → a ≠ b → (TX2 a).2.1 ≠ (TX2 b).2.1 := by decide +kernel
theorem tyX2_ok : ∀ k, k < 12 → parseFieldDescriptor (TX2 k).2.2.1 = some (tyX2 k) := by decide +kernel
abbrev cX2_init : ByteArray := prog_4_method_1_code
def yX2_init : MethodName := ⟨RX2, "<init>", "()V"⟩
abbrev cX2_isLaid : ByteArray := prog_4_method_2_code
def yX2_isLaid : MethodName := ⟨RX2, "isLaid", "()Z"⟩
abbrev cX2_hasSquare : ByteArray := prog_4_method_3_code
def yX2_hasSquare : MethodName := ⟨RX2, "hasSquare", "(I)Z"⟩
abbrev cX2_hasPea : ByteArray := prog_4_method_4_code
def yX2_hasPea : MethodName := ⟨RX2, "hasPea", "(I)Z"⟩
abbrev cX2_eaterAt : ByteArray := prog_4_method_5_code
def yX2_eaterAt : MethodName := ⟨RX2, "eaterAt", "(I)LPlatePeas$Fork;"⟩
abbrev cX2_signAt : ByteArray := prog_4_method_6_code
def yX2_signAt : MethodName := ⟨RX2, "signAt", "(I)I"⟩
abbrev cX2_changeSign : ByteArray := prog_4_method_7_code
def yX2_changeSign : MethodName := ⟨RX2, "changeSign", "(II)V"⟩
abbrev cX2_startOf : ByteArray := prog_4_method_8_code
def yX2_startOf : MethodName := ⟨RX2, "startOf", "(I)I"⟩
abbrev cX2_startsOn : ByteArray := prog_4_method_9_code
def yX2_startsOn : MethodName := ⟨RX2, "startsOn", "(I)Z"⟩
abbrev cX2_isCode : ByteArray := prog_4_method_10_code
def yX2_isCode : MethodName := ⟨RX2, "isCode", "(I)Z"⟩
abbrev cX2_nextTo : ByteArray := prog_4_method_11_code
def yX2_nextTo : MethodName := ⟨RX2, "nextTo", "(II)I"⟩
abbrev cX2_readText : ByteArray := prog_4_method_12_code
def yX2_readText : MethodName := ⟨RX2, "readText", "(LPlatePeas$Sheet;II)I"⟩
abbrev cX2_wipe : ByteArray := prog_4_method_13_code
def yX2_wipe : MethodName := ⟨RX2, "wipe", "()V"⟩
abbrev cX2_rowCodes : ByteArray := prog_4_method_14_code
def yX2_rowCodes : MethodName := ⟨RX2, "rowCodes", "()I"⟩
abbrev cX2_takes : ByteArray := prog_4_method_15_code
def yX2_takes : MethodName := ⟨RX2, "takes", "(II)Z"⟩
abbrev cX2_takesBehindHead : ByteArray := prog_4_method_16_code
def yX2_takesBehindHead : MethodName := ⟨RX2, "takesBehindHead", "(II)Z"⟩
abbrev cX2_takesInRow : ByteArray := prog_4_method_17_code
def yX2_takesInRow : MethodName := ⟨RX2, "takesInRow", "(II)Z"⟩
abbrev cX2_signOf : ByteArray := prog_4_method_18_code
def yX2_signOf : MethodName := ⟨RX2, "signOf", "(I)I"⟩
abbrev cX2_takesEater : ByteArray := prog_4_method_19_code
def yX2_takesEater : MethodName := ⟨RX2, "takesEater", "(II)Z"⟩
abbrev cX2_takesStrength : ByteArray := prog_4_method_20_code
def yX2_takesStrength : MethodName := ⟨RX2, "takesStrength", "(I)Z"⟩
abbrev cX2_eaterByLetter : ByteArray := prog_4_method_21_code
def yX2_eaterByLetter : MethodName := ⟨RX2, "eaterByLetter", "(III)LPlatePeas$Fork;"⟩
abbrev cX2_listCodes : ByteArray := prog_4_method_22_code
def yX2_listCodes : MethodName := ⟨RX2, "listCodes", "()V"⟩
def RX3 : String := "PlatePeas$Search"
def TX3 : u_T := fun k => match k with
  | 0 => ("PlatePeas$Search", "levels", "[LPlatePeas$Spots;", true)
  | _ => ("PlatePeas$Search", "found", "[I", true)
def tyX3 : Nat → FieldType := fun k => match k with
  | 0 => .array (.object "PlatePeas$Spots")
  | _ => .array .int
abbrev wsX30 : List Cond := u_ws RX3 TX3 2
theorem nmX3 : ∀ a, a < 2 → ∀ b, b < 2 → a ≠ b → (TX3 a).2.1 ≠ (TX3 b).2.1 := by decide +kernel
theorem tyX3_ok : ∀ k, k < 2 → parseFieldDescriptor (TX3 k).2.2.1 = some (tyX3 k) := by decide +kernel
abbrev cX3_init : ByteArray := prog_5_method_1_code
def yX3_init : MethodName := ⟨RX3, "<init>", "(LPlatePeas$Plate;)V"⟩
abbrev cX3_stepsOn : ByteArray := prog_5_method_2_code
def yX3_stepsOn : MethodName := ⟨RX3, "stepsOn", "(II)Z"⟩
def RX4 : String := "PlatePeas$Sheet"
def TX4 : u_T := fun k => match k with
  | 0 => ("PlatePeas$Sheet", "cells", "[I", true)
  | 1 => ("PlatePeas$Sheet", "lane", "I", false)
  | _ => ("PlatePeas$Sheet", "length", "I", false)
def tyX4 : Nat → FieldType := fun k => match k with
  | 0 => .array .int
  | 1 => .int
  | _ => .int
abbrev wsX40 : List Cond := u_ws RX4 TX4 3
theorem nmX4 : ∀ a, a < 3 → ∀ b, b < 3 → a ≠ b → (TX4 a).2.1 ≠ (TX4 b).2.1 := by decide +kernel
theorem tyX4_ok : ∀ k, k < 3 → parseFieldDescriptor (TX4 k).2.2.1 = some (tyX4 k) := by decide +kernel
abbrev cX4_init : ByteArray := prog_6_method_1_code
def yX4_init : MethodName := ⟨RX4, "<init>", "()V"⟩
abbrev cX4_isNothing : ByteArray := prog_6_method_2_code
def yX4_isNothing : MethodName := ⟨RX4, "isNothing", "()Z"⟩
abbrev cX4_begin : ByteArray := prog_6_method_3_code
def yX4_begin : MethodName := ⟨RX4, "begin", "(II)V"⟩
abbrev cX4_drop : ByteArray := prog_6_method_4_code
def yX4_drop : MethodName := ⟨RX4, "drop", "()V"⟩
abbrev cX4_hasCell : ByteArray := prog_6_method_5_code
def yX4_hasCell : MethodName := ⟨RX4, "hasCell", "(I)Z"⟩
abbrev cX4_hasCells : ByteArray := prog_6_method_6_code
def yX4_hasCells : MethodName := ⟨RX4, "hasCells", "(II)Z"⟩
abbrev cX4_read : ByteArray := prog_6_method_7_code
def yX4_read : MethodName := ⟨RX4, "read", "(I)I"⟩
abbrev cX4_write : ByteArray := prog_6_method_8_code
def yX4_write : MethodName := ⟨RX4, "write", "(II)V"⟩
abbrev cX4_cut : ByteArray := prog_6_method_9_code
def yX4_cut : MethodName := ⟨RX4, "cut", "(I)I"⟩
abbrev cX4_faultOfLane : ByteArray := prog_6_method_10_code
def yX4_faultOfLane : MethodName := ⟨RX4, "faultOfLane", "(I)I"⟩
abbrev cX4_faultOfCell : ByteArray := prog_6_method_11_code
def yX4_faultOfCell : MethodName := ⟨RX4, "faultOfCell", "(II)I"⟩
abbrev cX4_faultOfCells : ByteArray := prog_6_method_12_code
def yX4_faultOfCells : MethodName := ⟨RX4, "faultOfCells", "(III)I"⟩
def RX5 : String := "PlatePeas$Spoon"
def TX5 : u_T := fun k => match k with
  | 0 => ("PlatePeas$Fork", "number", "I", true)
  | _ => ("PlatePeas$Fork", "strength", "I", true)
def tyX5 : Nat → FieldType := fun k => match k with
  | 0 => .int
  | _ => .int
abbrev wsX50 : List Cond := u_ws RX5 TX5 2
theorem nmX5 : ∀ a, a < 2 → ∀ b, b < 2 → a ≠ b → (TX5 a).2.1 ≠ (TX5 b).2.1 := by decide +kernel
theorem tyX5_ok : ∀ k, k < 2 → parseFieldDescriptor (TX5 k).2.2.1 = some (tyX5 k) := by decide +kernel
abbrev cX5_init : ByteArray := prog_7_method_1_code
def yX5_init : MethodName := ⟨RX5, "<init>", "(II)V"⟩
abbrev cX5_kindNumber : ByteArray := prog_7_method_2_code
def yX5_kindNumber : MethodName := ⟨RX5, "kindNumber", "()I"⟩
abbrev cX5_pushForce : ByteArray := prog_7_method_3_code
def yX5_pushForce : MethodName := ⟨RX5, "pushForce", "()I"⟩
abbrev cX5_telling : ByteArray := prog_7_method_4_code
def yX5_telling : MethodName := ⟨RX5, "telling", "(LPlatePeas$Trace;)I"⟩
abbrev cX5_polished : ByteArray := prog_7_method_5_code
def yX5_polished : MethodName := ⟨RX5, "polished", "(LPlatePeas$Trace;)I"⟩
def RX6 : String := "PlatePeas$Spots"
def TX6 : u_T := fun k => match k with
  | 0 => ("PlatePeas$Spots", "plate", "LPlatePeas$Plate;", false)
  | 1 => ("PlatePeas$Spots", "had", "I", false)
  | 2 => ("PlatePeas$Spots", "off", "I", false)
  | 3 => ("PlatePeas$Spots", "law", "I", false)
  | _ => ("PlatePeas$Spots", "spots", "[I", true)
def tyX6 : Nat → FieldType := fun k => match k with
  | 0 => .object "PlatePeas$Plate"
  | 1 => .int
  | 2 => .int
  | 3 => .int
  | _ => .array .int
abbrev wsX60 : List Cond := u_ws RX6 TX6 5
theorem nmX6 : ∀ a, a < 5 → ∀ b, b < 5 → a ≠ b → (TX6 a).2.1 ≠ (TX6 b).2.1 := by decide +kernel
theorem tyX6_ok : ∀ k, k < 5 → parseFieldDescriptor (TX6 k).2.2.1 = some (tyX6 k) := by decide +kernel
abbrev cX6_init : ByteArray := prog_8_method_1_code
def yX6_init : MethodName := ⟨RX6, "<init>", "(LPlatePeas$Plate;)V"⟩
abbrev cX6_beginOn : ByteArray := prog_8_method_2_code
def yX6_beginOn : MethodName := ⟨RX6, "beginOn", "(LPlatePeas$Plate;I)V"⟩
abbrev cX6_copyFrom : ByteArray := prog_8_method_3_code
def yX6_copyFrom : MethodName := ⟨RX6, "copyFrom", "(LPlatePeas$Spots;)V"⟩
abbrev cX6_spotOf : ByteArray := prog_8_method_4_code
def yX6_spotOf : MethodName := ⟨RX6, "spotOf", "(I)I"⟩
abbrev cX6_isOn : ByteArray := prog_8_method_5_code
def yX6_isOn : MethodName := ⟨RX6, "isOn", "(I)Z"⟩
abbrev cX6_isHad : ByteArray := prog_8_method_6_code
def yX6_isHad : MethodName := ⟨RX6, "isHad", "(I)Z"⟩
abbrev cX6_countHad : ByteArray := prog_8_method_7_code
def yX6_countHad : MethodName := ⟨RX6, "countHad", "()I"⟩
abbrev cX6_elsewhereThan : ByteArray := prog_8_method_8_code
def yX6_elsewhereThan : MethodName := ⟨RX6, "elsewhereThan", "(LPlatePeas$Spots;)I"⟩
abbrev cX6_behindLine : ByteArray := prog_8_method_9_code
def yX6_behindLine : MethodName := ⟨RX6, "behindLine", "(II)I"⟩
abbrev cX6_isHeld : ByteArray := prog_8_method_10_code
def yX6_isHeld : MethodName := ⟨RX6, "isHeld", "(II)Z"⟩
abbrev cX6_heldSet : ByteArray := prog_8_method_11_code
def yX6_heldSet : MethodName := ⟨RX6, "heldSet", "(I)I"⟩
abbrev cX6_holdsAny : ByteArray := prog_8_method_12_code
def yX6_holdsAny : MethodName := ⟨RX6, "holdsAny", "()Z"⟩
abbrev cX6_firstHold : ByteArray := prog_8_method_13_code
def yX6_firstHold : MethodName := ⟨RX6, "firstHold", "(I)I"⟩
abbrev cX6_countHolds : ByteArray := prog_8_method_14_code
def yX6_countHolds : MethodName := ⟨RX6, "countHolds", "(I)I"⟩
abbrev cX6_pushByCode : ByteArray := prog_8_method_15_code
def yX6_pushByCode : MethodName := ⟨RX6, "pushByCode", "(I)V"⟩
abbrev cX6_roll : ByteArray := prog_8_method_16_code
def yX6_roll : MethodName := ⟨RX6, "roll", "(III)V"⟩
abbrev cX6_comeToRim : ByteArray := prog_8_method_17_code
def yX6_comeToRim : MethodName := ⟨RX6, "comeToRim", "(I)V"⟩
abbrev cX6_peaOn : ByteArray := prog_8_method_18_code
def yX6_peaOn : MethodName := ⟨RX6, "peaOn", "(I)I"⟩
def RX7 : String := "PlatePeas$Trace"
def TX7 : u_T := fun k => match k with
  | _ => ("PlatePeas$Trace", "value", "I", false)
def tyX7 : Nat → FieldType := fun k => match k with
  | _ => .int
abbrev wsX70 : List Cond := u_ws RX7 TX7 1
theorem nmX7 : ∀ a, a < 1 → ∀ b, b < 1 → a ≠ b → (TX7 a).2.1 ≠ (TX7 b).2.1 := by decide +kernel
theorem tyX7_ok : ∀ k, k < 1 → parseFieldDescriptor (TX7 k).2.2.1 = some (tyX7 k) := by decide +kernel
abbrev cX7_init : ByteArray := prog_9_method_1_code
def yX7_init : MethodName := ⟨RX7, "<init>", "()V"⟩
abbrev cX7_leave : ByteArray := prog_9_method_2_code
def yX7_leave : MethodName := ⟨RX7, "leave", "(I)V"⟩
def RX8 : String := "PlatePeas"
def TX8 : u_T := fun k => match k with
  | 0 => ("PlatePeas", "table", "LPlatePeas$Plate;", false)
  | 1 => ("PlatePeas", "draft", "LPlatePeas$Plate;", false)
  | 2 => ("PlatePeas", "lawNow", "I", false)
  | 3 => ("PlatePeas", "pushCodes", "[I", true)
  | 4 => ("PlatePeas", "pushCount", "I", false)
  | 5 => ("PlatePeas", "seenPeas", "[I", true)
  | 6 => ("PlatePeas", "seenSquares", "[I", true)
  | 7 => ("PlatePeas", "readingCount", "I", false)
  | 8 => ("PlatePeas", "now", "LPlatePeas$Spots;", true)
  | 9 => ("PlatePeas", "trial", "LPlatePeas$Spots;", true)
  | 10 => ("PlatePeas", "search", "LPlatePeas$Search;", true)
  | 11 => ("PlatePeas", "sheets", "[LPlatePeas$Sheet;", true)
  | 12 => ("PlatePeas", "traced", "LPlatePeas$Trace;", true)
  | _ => ("PlatePeas", "latestFault", "I", false)
def tyX8 : Nat → FieldType := fun k => match k with
  | 0 => .object "PlatePeas$Plate"
  | 1 => .object "PlatePeas$Plate"
  | 2 => .int
  | 3 => .array .int
  | 4 => .int
  | 5 => .array .int
  | 6 => .array .int
  | 7 => .int
  | 8 => .object "PlatePeas$Spots"
  | 9 => .object "PlatePeas$Spots"
  | 10 => .object "PlatePeas$Search"
  | 11 => .array (.object "PlatePeas$Sheet")
  | 12 => .object "PlatePeas$Trace"
  | _ => .int
abbrev wsX80 : List Cond := u_ws RX8 TX8 14
theorem nmX8 : ∀ a, a < 14 → ∀ b, b < 14 → a ≠ b → (TX8 a).2.1 ≠ (TX8 b).2.1 := by decide +kernel
theorem tyX8_ok : ∀ k, k < 14 → parseFieldDescriptor (TX8 k).2.2.1 = some (tyX8 k) := by decide +kernel
abbrev cX8_init : ByteArray := prog_1_method_1_code
def yX8_init : MethodName := ⟨RX8, "<init>", "()V"⟩
abbrev cX8_plate : ByteArray := prog_1_method_2_code
def yX8_plate : MethodName := ⟨RX8, "plate", "(IIII)I"⟩
abbrev cX8_sign : ByteArray := prog_1_method_3_code
def yX8_sign : MethodName := ⟨RX8, "sign", "(I)I"⟩
abbrev cX8_set : ByteArray := prog_1_method_4_code
def yX8_set : MethodName := ⟨RX8, "set", "(II)I"⟩
abbrev cX8_ofEater : ByteArray := prog_1_method_5_code
def yX8_ofEater : MethodName := ⟨RX8, "ofEater", "(II)I"⟩
abbrev cX8_law : ByteArray := prog_1_method_6_code
def yX8_law : MethodName := ⟨RX8, "law", "(I)I"⟩
abbrev cX8_push : ByteArray := prog_1_method_7_code
def yX8_push : MethodName := ⟨RX8, "push", "(III)I"⟩
abbrev cX8_undo : ByteArray := prog_1_method_8_code
def yX8_undo : MethodName := ⟨RX8, "undo", "(I)I"⟩
abbrev cX8_where : ByteArray := prog_1_method_9_code
def yX8_where : MethodName := ⟨RX8, "where", "(I)I"⟩
abbrev cX8_peas : ByteArray := prog_1_method_10_code
def yX8_peas : MethodName := ⟨RX8, "peas", "(I)I"⟩
abbrev cX8_would : ByteArray := prog_1_method_11_code
def yX8_would : MethodName := ⟨RX8, "would", "(IIII)I"⟩
abbrev cX8_fewest : ByteArray := prog_1_method_12_code
def yX8_fewest : MethodName := ⟨RX8, "fewest", "(II)I"⟩
abbrev cX8_most : ByteArray := prog_1_method_13_code
def yX8_most : MethodName := ⟨RX8, "most", "(I)I"⟩
abbrev cX8_wall : ByteArray := prog_1_method_14_code
def yX8_wall : MethodName := ⟨RX8, "wall", "(III)I"⟩
abbrev cX8_row : ByteArray := prog_1_method_15_code
def yX8_row : MethodName := ⟨RX8, "row", "(IIII)I"⟩
abbrev cX8_odds : ByteArray := prog_1_method_16_code
def yX8_odds : MethodName := ⟨RX8, "odds", "(III)J"⟩
abbrev cX8_reading : ByteArray := prog_1_method_17_code
def yX8_reading : MethodName := ⟨RX8, "reading", "(II)I"⟩
abbrev cX8_back : ByteArray := prog_1_method_18_code
def yX8_back : MethodName := ⟨RX8, "back", "(I)I"⟩
abbrev cX8_last : ByteArray := prog_1_method_19_code
def yX8_last : MethodName := ⟨RX8, "last", "(I)I"⟩
abbrev cX8_laws : ByteArray := prog_1_method_20_code
def yX8_laws : MethodName := ⟨RX8, "laws", "()I"⟩
abbrev cX8_never : ByteArray := prog_1_method_21_code
def yX8_never : MethodName := ⟨RX8, "never", "()I"⟩
abbrev cX8_sheet : ByteArray := prog_1_method_22_code
def yX8_sheet : MethodName := ⟨RX8, "sheet", "(III)I"⟩
abbrev cX8_lose : ByteArray := prog_1_method_23_code
def yX8_lose : MethodName := ⟨RX8, "lose", "(I)I"⟩
abbrev cX8_put : ByteArray := prog_1_method_24_code
def yX8_put : MethodName := ⟨RX8, "put", "(III)I"⟩
abbrev cX8_cell : ByteArray := prog_1_method_25_code
def yX8_cell : MethodName := ⟨RX8, "cell", "(III)J"⟩
abbrev cX8_copy : ByteArray := prog_1_method_26_code
def yX8_copy : MethodName := ⟨RX8, "copy", "(IIIII)I"⟩
abbrev cX8_tell : ByteArray := prog_1_method_27_code
def yX8_tell : MethodName := ⟨RX8, "tell", "(I)I"⟩
abbrev cX8_polish : ByteArray := prog_1_method_28_code
def yX8_polish : MethodName := ⟨RX8, "polish", "(I)I"⟩
abbrev cX8_as : ByteArray := prog_1_method_29_code
def yX8_as : MethodName := ⟨RX8, "as", "(II)I"⟩
abbrev cX8_trace : ByteArray := prog_1_method_30_code
def yX8_trace : MethodName := ⟨RX8, "trace", "()I"⟩
abbrev cX8_fault : ByteArray := prog_1_method_31_code
def yX8_fault : MethodName := ⟨RX8, "fault", "()I"⟩
abbrev cX8_many : ByteArray := prog_1_method_32_code
def yX8_many : MethodName := ⟨RX8, "many", "(I)I"⟩
abbrev cX8_isBelow : ByteArray := prog_1_method_33_code
def yX8_isBelow : MethodName := ⟨RX8, "isBelow", "(II)Z"⟩
abbrev cX8_codeOf : ByteArray := prog_1_method_34_code
def yX8_codeOf : MethodName := ⟨RX8, "codeOf", "(III)I"⟩
abbrev cX8_isOfKind : ByteArray := prog_1_method_35_code
def yX8_isOfKind : MethodName := ⟨RX8, "isOfKind", "(LPlatePeas$Fork;I)Z"⟩
abbrev cX8_failed : ByteArray := prog_1_method_36_code
def yX8_failed : MethodName := ⟨RX8, "failed", "(I)I"⟩
abbrev cX8_sheetAt : ByteArray := prog_1_method_37_code
def yX8_sheetAt : MethodName := ⟨RX8, "sheetAt", "(I)LPlatePeas$Sheet;"⟩
abbrev cX8_refusalOfPush : ByteArray := prog_1_method_38_code
def yX8_refusalOfPush : MethodName := ⟨RX8, "refusalOfPush", "(III)I"⟩
abbrev cX8_takeDraft : ByteArray := prog_1_method_39_code
def yX8_takeDraft : MethodName := ⟨RX8, "takeDraft", "()V"⟩
abbrev cX8_replayNow : ByteArray := prog_1_method_40_code
def yX8_replayNow : MethodName := ⟨RX8, "replayNow", "()V"⟩
abbrev cX8_replay : ByteArray := prog_1_method_41_code
def yX8_replay : MethodName := ⟨RX8, "replay", "(LPlatePeas$Spots;II)V"⟩
abbrev cX8_readingsAreSo : ByteArray := prog_1_method_42_code
def yX8_readingsAreSo : MethodName := ⟨RX8, "readingsAreSo", "(LPlatePeas$Spots;)Z"⟩
abbrev cX8_areCodes : ByteArray := prog_1_method_43_code
def yX8_areCodes : MethodName := ⟨RX8, "areCodes", "(LPlatePeas$Sheet;II)Z"⟩
abbrev cX8_hadByRow : ByteArray := prog_1_method_44_code
def yX8_hadByRow : MethodName := ⟨RX8, "hadByRow", "(LPlatePeas$Sheet;II)I"⟩
abbrev cX8_peaOf : ByteArray := prog_1_method_45_code
def yX8_peaOf : MethodName := ⟨RX8, "peaOf", "(I)I"⟩
abbrev cX8_findsRow : ByteArray := prog_1_method_46_code
def yX8_findsRow : MethodName := ⟨RX8, "findsRow", "(LPlatePeas$Search;III)Z"⟩
abbrev cX8_mostHad : ByteArray := prog_1_method_47_code
def yX8_mostHad : MethodName := ⟨RX8, "mostHad", "(LPlatePeas$Search;II)I"⟩
def RX9 : String := "PlatePeasModel"
def TX9 : u_T := fun k => match k with
  | 0 => ("PlatePeasModel", "wide", "I", false)
  | 1 => ("PlatePeasModel", "squares", "I", false)
  | 2 => ("PlatePeasModel", "signs", "[I", true)
  | 3 => ("PlatePeasModel", "peas", "I", false)
  | 4 => ("PlatePeasModel", "start", "[I", true)
  | 5 => ("PlatePeasModel", "eaters", "I", false)
  | 6 => ("PlatePeasModel", "kind", "[I", true)
  | 7 => ("PlatePeasModel", "strength", "[I", true)
  | 8 => ("PlatePeasModel", "law", "I", false)
  | 9 => ("PlatePeasModel", "pushes", "I", false)
  | 10 => ("PlatePeasModel", "pushCode", "[I", true)
  | 11 => ("PlatePeasModel", "readings", "I", false)
  | 12 => ("PlatePeasModel", "seenPea", "[I", true)
  | 13 => ("PlatePeasModel", "seenAt", "[I", true)
  | 14 => ("PlatePeasModel", "trace", "I", false)
  | 15 => ("PlatePeasModel", "fault", "I", false)
  | 16 => ("PlatePeasModel", "lane", "[I", true)
  | 17 => ("PlatePeasModel", "size", "[I", true)
  | 18 => ("PlatePeasModel", "cells", "[I", true)
  | 19 => ("PlatePeasModel", "copied", "[I", true)
  | 20 => ("PlatePeasModel", "textAt", "I", false)
  | 21 => ("PlatePeasModel", "textEnd", "I", false)
  | 22 => ("PlatePeasModel", "readHigh", "I", false)
  | 23 => ("PlatePeasModel", "readWide", "I", false)
  | 24 => ("PlatePeasModel", "readPeas", "I", false)
  | 25 => ("PlatePeasModel", "readSigns", "[I", true)
  | 26 => ("PlatePeasModel", "readStart", "[I", true)
  | 27 => ("PlatePeasModel", "readEaters", "I", false)
  | 28 => ("PlatePeasModel", "readKind", "[I", true)
  | 29 => ("PlatePeasModel", "readStrength", "[I", true)
  | 30 => ("PlatePeasModel", "at", "[I", true)
  | 31 => ("PlatePeasModel", "was", "[I", true)
  | _ => ("PlatePeasModel", "row", "[I", true)
def tyX9 : Nat → FieldType := fun k => match k with
  | 0 => .int
  | 1 => .int
  | 2 => .array .int
  | 3 => .int
  | 4 => .array .int
  | 5 => .int
  | 6 => .array .int
  | 7 => .array .int
  | 8 => .int
  | 9 => .int
  | 10 => .array .int
  | 11 => .int
  | 12 => .array .int
  | 13 => .array .int
  | 14 => .int
  | 15 => .int
  | 16 => .array .int
  | 17 => .array .int
  | 18 => .array .int
  | 19 => .array .int
  | 20 => .int
  | 21 => .int
  | 22 => .int
  | 23 => .int
  | 24 => .int
  | 25 => .array .int
  | 26 => .array .int
  | 27 => .int
  | 28 => .array .int
  | 29 => .array .int
  | 30 => .array .int
  | 31 => .array .int
  | _ => .array .int
abbrev wsX90 : List Cond := u_ws RX9 TX9 33
theorem nmX9 : ∀ a, a < 33 → ∀ b, b < 33 → a ≠ b → (TX9 a).2.1 ≠ (TX9 b).2.1 := by decide +kernel
theorem tyX9_ok : ∀ k, k < 33 → parseFieldDescriptor (TX9 k).2.2.1 = some (tyX9 k) := by decide +kernel
abbrev cX9_init : ByteArray := prog_11_method_1_code
def yX9_init : MethodName := ⟨RX9, "<init>", "()V"⟩
abbrev cX9_in : ByteArray := prog_11_method_3_code
def yX9_in : MethodName := ⟨RX9, "in", "(JJJ)Z"⟩
abbrev cX9_fails : ByteArray := prog_11_method_4_code
def yX9_fails : MethodName := ⟨RX9, "fails", "(I)I"⟩
abbrev cX9_refused : ByteArray := prog_11_method_5_code
def yX9_refused : MethodName := ⟨RX9, "refused", "(I)I"⟩
abbrev cX9_isSquare : ByteArray := prog_11_method_6_code
def yX9_isSquare : MethodName := ⟨RX9, "isSquare", "(I)Z"⟩
abbrev cX9_isPea : ByteArray := prog_11_method_7_code
def yX9_isPea : MethodName := ⟨RX9, "isPea", "(I)Z"⟩
abbrev cX9_isEater : ByteArray := prog_11_method_8_code
def yX9_isEater : MethodName := ⟨RX9, "isEater", "(I)Z"⟩
abbrev cX9_isSheet : ByteArray := prog_11_method_9_code
def yX9_isSheet : MethodName := ⟨RX9, "isSheet", "(I)Z"⟩
abbrev cX9_isLane : ByteArray := prog_11_method_10_code
def yX9_isLane : MethodName := ⟨RX9, "isLane", "(I)Z"⟩
abbrev cX9_cut : ByteArray := prog_11_method_11_code
def yX9_cut : MethodName := ⟨RX9, "cut", "(II)I"⟩
abbrev cX9_sheet : ByteArray := prog_11_method_12_code
def yX9_sheet : MethodName := ⟨RX9, "sheet", "(III)I"⟩
abbrev cX9_lose : ByteArray := prog_11_method_13_code
def yX9_lose : MethodName := ⟨RX9, "lose", "(I)I"⟩
abbrev cX9_put : ByteArray := prog_11_method_14_code
def yX9_put : MethodName := ⟨RX9, "put", "(III)I"⟩
abbrev cX9_lost : ByteArray := prog_11_method_15_code
def yX9_lost : MethodName := ⟨RX9, "lost", "(I)J"⟩
abbrev cX9_cell : ByteArray := prog_11_method_16_code
def yX9_cell : MethodName := ⟨RX9, "cell", "(III)J"⟩
abbrev cX9_copy : ByteArray := prog_11_method_17_code
def yX9_copy : MethodName := ⟨RX9, "copy", "(IIIII)I"⟩
abbrev cX9_faultOf : ByteArray := prog_11_method_18_code
def yX9_faultOf : MethodName := ⟨RX9, "faultOf", "(IIII)I"⟩
abbrev cX9_take : ByteArray := prog_11_method_19_code
def yX9_take : MethodName := ⟨RX9, "take", "(II)I"⟩
abbrev cX9_takeSquare : ByteArray := prog_11_method_20_code
def yX9_takeSquare : MethodName := ⟨RX9, "takeSquare", "(I)Z"⟩
abbrev cX9_takeSquares : ByteArray := prog_11_method_21_code
def yX9_takeSquares : MethodName := ⟨RX9, "takeSquares", "()Z"⟩
abbrev cX9_takeEater : ByteArray := prog_11_method_22_code
def yX9_takeEater : MethodName := ⟨RX9, "takeEater", "()Z"⟩
abbrev cX9_takeText : ByteArray := prog_11_method_23_code
def yX9_takeText : MethodName := ⟨RX9, "takeText", "()Z"⟩
abbrev cX9_plate : ByteArray := prog_11_method_24_code
def yX9_plate : MethodName := ⟨RX9, "plate", "(IIII)I"⟩
abbrev cX9_sign : ByteArray := prog_11_method_25_code
def yX9_sign : MethodName := ⟨RX9, "sign", "(I)I"⟩
abbrev cX9_startsAt : ByteArray := prog_11_method_26_code
def yX9_startsAt : MethodName := ⟨RX9, "startsAt", "(I)Z"⟩
abbrev cX9_set : ByteArray := prog_11_method_27_code
def yX9_set : MethodName := ⟨RX9, "set", "(II)I"⟩
abbrev cX9_forceOf : ByteArray := prog_11_method_28_code
def yX9_forceOf : MethodName := ⟨RX9, "forceOf", "(I)I"⟩
abbrev cX9_ofEater : ByteArray := prog_11_method_29_code
def yX9_ofEater : MethodName := ⟨RX9, "ofEater", "(II)I"⟩
abbrev cX9_law : ByteArray := prog_11_method_30_code
def yX9_law : MethodName := ⟨RX9, "law", "(I)I"⟩
abbrev cX9_next : ByteArray := prog_11_method_31_code
def yX9_next : MethodName := ⟨RX9, "next", "(II)I"⟩
abbrev cX9_peaAt : ByteArray := prog_11_method_32_code
def yX9_peaAt : MethodName := ⟨RX9, "peaAt", "(I)I"⟩
abbrev cX9_isHeld : ByteArray := prog_11_method_33_code
def yX9_isHeld : MethodName := ⟨RX9, "isHeld", "(II)Z"⟩
abbrev cX9_roll : ByteArray := prog_11_method_34_code
def yX9_roll : MethodName := ⟨RX9, "roll", "(III)V"⟩
abbrev cX9_eaterOf : ByteArray := prog_11_method_35_code
def yX9_eaterOf : MethodName := ⟨RX9, "eaterOf", "(I)I"⟩
abbrev cX9_peaOf : ByteArray := prog_11_method_36_code
def yX9_peaOf : MethodName := ⟨RX9, "peaOf", "(I)I"⟩
abbrev cX9_doPush : ByteArray := prog_11_method_37_code
def yX9_doPush : MethodName := ⟨RX9, "doPush", "(I)V"⟩
abbrev cX9_goThrough : ByteArray := prog_11_method_38_code
def yX9_goThrough : MethodName := ⟨RX9, "goThrough", "(I)V"⟩
abbrev cX9_isCode : ByteArray := prog_11_method_39_code
def yX9_isCode : MethodName := ⟨RX9, "isCode", "(I)Z"⟩
abbrev cX9_push : ByteArray := prog_11_method_40_code
def yX9_push : MethodName := ⟨RX9, "push", "(III)I"⟩
abbrev cX9_undo : ByteArray := prog_11_method_41_code
def yX9_undo : MethodName := ⟨RX9, "undo", "(I)I"⟩
abbrev cX9_where : ByteArray := prog_11_method_42_code
def yX9_where : MethodName := ⟨RX9, "where", "(I)I"⟩
abbrev cX9_setOf : ByteArray := prog_11_method_43_code
def yX9_setOf : MethodName := ⟨RX9, "setOf", "(I)I"⟩
abbrev cX9_peas : ByteArray := prog_11_method_44_code
def yX9_peas : MethodName := ⟨RX9, "peas", "(I)I"⟩
abbrev cX9_save : ByteArray := prog_11_method_45_code
def yX9_save : MethodName := ⟨RX9, "save", "(I)V"⟩
abbrev cX9_load : ByteArray := prog_11_method_46_code
def yX9_load : MethodName := ⟨RX9, "load", "(I)V"⟩
abbrev cX9_would : ByteArray := prog_11_method_47_code
def yX9_would : MethodName := ⟨RX9, "would", "(IIII)I"⟩
abbrev cX9_isPush : ByteArray := prog_11_method_48_code
def yX9_isPush : MethodName := ⟨RX9, "isPush", "(I)Z"⟩
abbrev cX9_lastPush : ByteArray := prog_11_method_49_code
def yX9_lastPush : MethodName := ⟨RX9, "lastPush", "(II)I"⟩
abbrev cX9_findFewest : ByteArray := prog_11_method_50_code
def yX9_findFewest : MethodName := ⟨RX9, "findFewest", "(I)I"⟩
abbrev cX9_findThree : ByteArray := prog_11_method_51_code
def yX9_findThree : MethodName := ⟨RX9, "findThree", "(I)Z"⟩
abbrev cX9_fewest : ByteArray := prog_11_method_52_code
def yX9_fewest : MethodName := ⟨RX9, "fewest", "(II)I"⟩
abbrev cX9_hadNow : ByteArray := prog_11_method_53_code
def yX9_hadNow : MethodName := ⟨RX9, "hadNow", "()I"⟩
abbrev cX9_mostByOne : ByteArray := prog_11_method_54_code
def yX9_mostByOne : MethodName := ⟨RX9, "mostByOne", "(I)I"⟩
abbrev cX9_mostByTwo : ByteArray := prog_11_method_55_code
def yX9_mostByTwo : MethodName := ⟨RX9, "mostByTwo", "(I)I"⟩
abbrev cX9_mostByThree : ByteArray := prog_11_method_56_code
def yX9_mostByThree : MethodName := ⟨RX9, "mostByThree", "()I"⟩
abbrev cX9_most : ByteArray := prog_11_method_57_code
def yX9_most : MethodName := ⟨RX9, "most", "(I)I"⟩
abbrev cX9_wall : ByteArray := prog_11_method_58_code
def yX9_wall : MethodName := ⟨RX9, "wall", "(III)I"⟩
abbrev cX9_areCodes : ByteArray := prog_11_method_59_code
def yX9_areCodes : MethodName := ⟨RX9, "areCodes", "(II)Z"⟩
abbrev cX9_row : ByteArray := prog_11_method_60_code
def yX9_row : MethodName := ⟨RX9, "row", "(IIII)I"⟩
abbrev cX9_divisor : ByteArray := prog_11_method_61_code
def yX9_divisor : MethodName := ⟨RX9, "divisor", "(II)I"⟩
abbrev cX9_odds : ByteArray := prog_11_method_62_code
def yX9_odds : MethodName := ⟨RX9, "odds", "(III)J"⟩
abbrev cX9_reading : ByteArray := prog_11_method_63_code
def yX9_reading : MethodName := ⟨RX9, "reading", "(II)I"⟩
abbrev cX9_back : ByteArray := prog_11_method_64_code
def yX9_back : MethodName := ⟨RX9, "back", "(I)I"⟩
abbrev cX9_areSo : ByteArray := prog_11_method_65_code
def yX9_areSo : MethodName := ⟨RX9, "areSo", "()Z"⟩
abbrev cX9_last : ByteArray := prog_11_method_66_code
def yX9_last : MethodName := ⟨RX9, "last", "(I)I"⟩
abbrev cX9_laws : ByteArray := prog_11_method_67_code
def yX9_laws : MethodName := ⟨RX9, "laws", "()I"⟩
abbrev cX9_never : ByteArray := prog_11_method_68_code
def yX9_never : MethodName := ⟨RX9, "never", "()I"⟩
abbrev cX9_begin : ByteArray := prog_11_method_69_code
def yX9_begin : MethodName := ⟨RX9, "begin", "(I)V"⟩
abbrev cX9_forkTells : ByteArray := prog_11_method_70_code
def yX9_forkTells : MethodName := ⟨RX9, "forkTells", "(I)I"⟩
abbrev cX9_knifeTells : ByteArray := prog_11_method_71_code
def yX9_knifeTells : MethodName := ⟨RX9, "knifeTells", "(I)I"⟩
abbrev cX9_spoonTells : ByteArray := prog_11_method_72_code
def yX9_spoonTells : MethodName := ⟨RX9, "spoonTells", "(I)I"⟩
abbrev cX9_tell : ByteArray := prog_11_method_73_code
def yX9_tell : MethodName := ⟨RX9, "tell", "(I)I"⟩
abbrev cX9_polish : ByteArray := prog_11_method_74_code
def yX9_polish : MethodName := ⟨RX9, "polish", "(I)I"⟩
abbrev cX9_as : ByteArray := prog_11_method_75_code
def yX9_as : MethodName := ⟨RX9, "as", "(II)I"⟩
abbrev cX9_trace : ByteArray := prog_11_method_76_code
def yX9_trace : MethodName := ⟨RX9, "trace", "()I"⟩
abbrev cX9_fault : ByteArray := prog_11_method_77_code
def yX9_fault : MethodName := ⟨RX9, "fault", "()I"⟩
abbrev cX9_many : ByteArray := prog_11_method_78_code
def yX9_many : MethodName := ⟨RX9, "many", "(I)I"⟩
def RJ6 : String := "java/lang/Integer"
abbrev cJ6_bitCount_0f7a4 : ByteArray := prog_12_method_49_code
def yJ6_bitCount_0f7a4 : MethodName := ⟨RJ6, "bitCount", "(I)I"⟩
def RJ9 : String := "java/lang/Math"
abbrev cJ9_max_7cf53 : ByteArray := prog_13_method_65_code
def yJ9_max_7cf53 : MethodName := ⟨RJ9, "max", "(II)I"⟩
abbrev cJ9_min_7cf53 : ByteArray := prog_13_method_69_code
def yJ9_min_7cf53 : MethodName := ⟨RJ9, "min", "(II)I"⟩
def RJ10 : String := "java/lang/System"
def RJ7 : String := "java/util/Arrays"
abbrev cJ7_fill_53178 : ByteArray := prog_15_method_103_code
def yJ7_fill_53178 : MethodName := ⟨RJ7, "fill", "([II)V"⟩
def RL : String := "PlatePeasLaw"
abbrev cL_law : ByteArray := code
abbrev vwCl : List vw_C := [(RX0, TX0, 2), (RX1, TX1, 2), (RX2, TX2, 12), (RX3, TX3, 2), (RX4, TX4, 3), (RX5, TX5, 2), (RX6, TX6, 5), (RX7, TX7, 1), (RX8, TX8, 14), (RX9, TX9, 33)]
theorem inX0 : ∀ w ∈ wsX00, w ∈ lw_tbl := by decide +kernel
theorem inX1 : ∀ w ∈ wsX10, w ∈ lw_tbl := by decide +kernel
theorem inX2 : ∀ w ∈ wsX20, w ∈ lw_tbl := by decide +kernel
theorem inX3 : ∀ w ∈ wsX30, w ∈ lw_tbl := by decide +kernel
theorem inX4 : ∀ w ∈ wsX40, w ∈ lw_tbl := by decide +kernel
theorem inX5 : ∀ w ∈ wsX50, w ∈ lw_tbl := by decide +kernel
theorem inX6 : ∀ w ∈ wsX60, w ∈ lw_tbl := by decide +kernel
theorem inX7 : ∀ w ∈ wsX70, w ∈ lw_tbl := by decide +kernel
theorem inX8 : ∀ w ∈ wsX80, w ∈ lw_tbl := by decide +kernel
theorem inX9 : ∀ w ∈ wsX90, w ∈ lw_tbl := by decide +kernel
end
section
theorem dX0_init_0 : decode cX0_init 0 = .ok (.aload_n 0, 1) := by decide +kernel
theorem dX0_init_1 : decode cX0_init 1 = .ok (.invokespecial 1, 3) := by decide +kernel
theorem dX0_init_4 : decode cX0_init 4 = .ok (.aload_n 0, 1) := by decide +kernel
theorem dX0_init_5 : decode cX0_init 5 = .ok (.iload_n 1, 1) := by decide +kernel
theorem dX0_init_6 : decode cX0_init 6 = .ok (.putfield 7, 3) := by decide +kernel
theorem dX0_init_9 : decode cX0_init 9 = .ok (.aload_n 0, 1) := by decide +kernel
theorem dX0_init_10 : decode cX0_init 10 = .ok (.iload_n 2, 1) := by decide +kernel
theorem dX0_init_11 : decode cX0_init 11 = .ok (.putfield 13, 3) := by decide +kernel
theorem dX0_init_14 : decode cX0_init 14 = .ok (.return_, 1) := by decide +kernel
theorem dX0_kindNumber_0 : decode cX0_kindNumber 0 = .ok (.iconst 0, 1) := by decide +kernel
theorem dX0_kindNumber_1 : decode cX0_kindNumber 1 = .ok (.ireturn, 1) := by decide +kernel
theorem dX0_pushForce_0 : decode cX0_pushForce 0 = .ok (.aload_n 0, 1) := by decide +kernel
theorem dX0_pushForce_1 : decode cX0_pushForce 1 = .ok (.getfield 13, 3) := by decide +kernel
theorem dX0_pushForce_4 : decode cX0_pushForce 4 = .ok (.ireturn, 1) := by decide +kernel
theorem dX0_telling_0 : decode cX0_telling 0 = .ok (.aload_n 0, 1) := by decide +kernel
theorem dX0_telling_1 : decode cX0_telling 1 = .ok (.aload_n 1, 1) := by decide +kernel
theorem dX0_telling_2 : decode cX0_telling 2 = .ok (.invokevirtual 16, 3) := by decide +kernel
theorem dX0_telling_5 : decode cX0_telling 5 = .ok (.ireturn, 1) := by decide +kernel
theorem dX0_forkTelling_0 : decode cX0_forkTelling 0 = .ok (.aload_n 1, 1) := by decide +kernel
theorem dX0_forkTelling_1 : decode cX0_forkTelling 1 = .ok (.iconst 1, 1) := by decide +kernel
theorem dX0_forkTelling_2 : decode cX0_forkTelling 2 = .ok (.invokevirtual 20, 3) := by decide +kernel
theorem dX0_forkTelling_5 : decode cX0_forkTelling 5 = .ok (.aload_n 0, 1) := by decide +kernel
theorem dX0_forkTelling_6 : decode cX0_forkTelling 6 = .ok (.getfield 13, 3) := by decide +kernel
theorem dX0_forkTelling_9 : decode cX0_forkTelling 9 = .ok (.ireturn, 1) := by decide +kernel
theorem dX0_polished_0 : decode cX0_polished 0 = .ok (.aload_n 1, 1) := by decide +kernel
theorem dX0_polished_1 : decode cX0_polished 1 = .ok (.iconst 4, 1) := by decide +kernel
theorem dX0_polished_2 : decode cX0_polished 2 = .ok (.invokevirtual 20, 3) := by decide +kernel
theorem dX0_polished_5 : decode cX0_polished 5 = .ok (.aload_n 0, 1) := by decide +kernel
theorem dX0_polished_6 : decode cX0_polished 6 = .ok (.getfield 7, 3) := by decide +kernel
theorem dX0_polished_9 : decode cX0_polished 9 = .ok (.ireturn, 1) := by decide +kernel
theorem dX1_init_0 : decode cX1_init 0 = .ok (.aload_n 0, 1) := by decide +kernel
theorem dX1_init_1 : decode cX1_init 1 = .ok (.iload_n 1, 1) := by decide +kernel
theorem dX1_init_2 : decode cX1_init 2 = .ok (.iload_n 2, 1) := by decide +kernel
theorem dX1_init_3 : decode cX1_init 3 = .ok (.invokespecial 1, 3) := by decide +kernel
theorem dX1_init_6 : decode cX1_init 6 = .ok (.return_, 1) := by decide +kernel
theorem dX1_kindNumber_0 : decode cX1_kindNumber 0 = .ok (.iconst 1, 1) := by decide +kernel
theorem dX1_kindNumber_1 : decode cX1_kindNumber 1 = .ok (.ireturn, 1) := by decide +kernel
theorem dX1_pushForce_0 : decode cX1_pushForce 0 = .ok (.aload_n 0, 1) := by decide +kernel
theorem dX1_pushForce_1 : decode cX1_pushForce 1 = .ok (.getfield 7, 3) := by decide +kernel
theorem dX1_pushForce_4 : decode cX1_pushForce 4 = .ok (.iconst 1, 1) := by decide +kernel
theorem dX1_pushForce_5 : decode cX1_pushForce 5 = .ok (.iadd, 1) := by decide +kernel
theorem dX1_pushForce_6 : decode cX1_pushForce 6 = .ok (.ireturn, 1) := by decide +kernel
theorem dX1_telling_0 : decode cX1_telling 0 = .ok (.aload_n 1, 1) := by decide +kernel
theorem dX1_telling_1 : decode cX1_telling 1 = .ok (.iconst 2, 1) := by decide +kernel
theorem dX1_telling_2 : decode cX1_telling 2 = .ok (.invokevirtual 13, 3) := by decide +kernel
theorem dX1_telling_5 : decode cX1_telling 5 = .ok (.aload_n 0, 1) := by decide +kernel
theorem dX1_telling_6 : decode cX1_telling 6 = .ok (.aload_n 1, 1) := by decide +kernel
theorem dX1_telling_7 : decode cX1_telling 7 = .ok (.invokespecial 19, 3) := by decide +kernel
theorem dX1_telling_10 : decode cX1_telling 10 = .ok (.bipush 100, 2) := by decide +kernel
theorem dX1_telling_12 : decode cX1_telling 12 = .ok (.iadd, 1) := by decide +kernel
theorem dX1_telling_13 : decode cX1_telling 13 = .ok (.ireturn, 1) := by decide +kernel
theorem dX2_init_0 : decode cX2_init 0 = .ok (.aload_n 0, 1) := by decide +kernel
theorem dX2_init_1 : decode cX2_init 1 = .ok (.invokespecial 3, 3) := by decide +kernel
theorem dX2_init_4 : decode cX2_init 4 = .ok (.aload_n 0, 1) := by decide +kernel
theorem dX2_init_5 : decode cX2_init 5 = .ok (.bipush 40, 2) := by decide +kernel
theorem dX2_init_7 : decode cX2_init 7 = .ok (.newarray .int, 2) := by decide +kernel
theorem dX2_init_9 : decode cX2_init 9 = .ok (.putfield 9, 3) := by decide +kernel
theorem dX2_init_12 : decode cX2_init 12 = .ok (.aload_n 0, 1) := by decide +kernel
theorem dX2_init_13 : decode cX2_init 13 = .ok (.bipush 30, 2) := by decide +kernel
theorem dX2_init_15 : decode cX2_init 15 = .ok (.newarray .int, 2) := by decide +kernel
theorem dX2_init_17 : decode cX2_init 17 = .ok (.putfield 15, 3) := by decide +kernel
theorem dX2_init_20 : decode cX2_init 20 = .ok (.aload_n 0, 1) := by decide +kernel
theorem dX2_init_21 : decode cX2_init 21 = .ok (.iconst 5, 1) := by decide +kernel
theorem dX2_init_22 : decode cX2_init 22 = .ok (.newarray .int, 2) := by decide +kernel
theorem dX2_init_24 : decode cX2_init 24 = .ok (.putfield 18, 3) := by decide +kernel
theorem dX2_init_27 : decode cX2_init 27 = .ok (.aload_n 0, 1) := by decide +kernel
theorem dX2_init_28 : decode cX2_init 28 = .ok (.iconst 2, 1) := by decide +kernel
theorem dX2_init_29 : decode cX2_init 29 = .ok (.anewarray 21, 3) := by decide +kernel
theorem dX2_init_32 : decode cX2_init 32 = .ok (.putfield 23, 3) := by decide +kernel
theorem dX2_init_35 : decode cX2_init 35 = .ok (.aload_n 0, 1) := by decide +kernel
theorem dX2_init_36 : decode cX2_init 36 = .ok (.iconst 2, 1) := by decide +kernel
theorem dX2_init_37 : decode cX2_init 37 = .ok (.newarray .int, 2) := by decide +kernel
theorem dX2_init_39 : decode cX2_init 39 = .ok (.putfield 27, 3) := by decide +kernel
theorem dX2_init_42 : decode cX2_init 42 = .ok (.aload_n 0, 1) := by decide +kernel
theorem dX2_init_43 : decode cX2_init 43 = .ok (.iconst 2, 1) := by decide +kernel
theorem dX2_init_44 : decode cX2_init 44 = .ok (.newarray .int, 2) := by decide +kernel
theorem dX2_init_46 : decode cX2_init 46 = .ok (.putfield 30, 3) := by decide +kernel
theorem dX2_init_49 : decode cX2_init 49 = .ok (.return_, 1) := by decide +kernel
theorem dX2_isLaid_0 : decode cX2_isLaid 0 = .ok (.aload_n 0, 1) := by decide +kernel
theorem dX2_isLaid_1 : decode cX2_isLaid 1 = .ok (.getfield 33, 3) := by decide +kernel
theorem dX2_isLaid_4 : decode cX2_isLaid 4 = .ok (.ifCond .le 7, 3) := by decide +kernel
theorem dX2_isLaid_7 : decode cX2_isLaid 7 = .ok (.iconst 1, 1) := by decide +kernel
theorem dX2_isLaid_8 : decode cX2_isLaid 8 = .ok (.goto 4, 3) := by decide +kernel
theorem dX2_isLaid_11 : decode cX2_isLaid 11 = .ok (.iconst 0, 1) := by decide +kernel
theorem dX2_isLaid_12 : decode cX2_isLaid 12 = .ok (.ireturn, 1) := by decide +kernel
theorem dX2_hasSquare_0 : decode cX2_hasSquare 0 = .ok (.iload_n 1, 1) := by decide +kernel
theorem dX2_hasSquare_1 : decode cX2_hasSquare 1 = .ok (.aload_n 0, 1) := by decide +kernel
theorem dX2_hasSquare_2 : decode cX2_hasSquare 2 = .ok (.getfield 37, 3) := by decide +kernel
theorem dX2_hasSquare_5 : decode cX2_hasSquare 5 = .ok (.invokestatic 40, 3) := by decide +kernel
theorem dX2_hasSquare_8 : decode cX2_hasSquare 8 = .ok (.ireturn, 1) := by decide +kernel
theorem dX2_hasPea_0 : decode cX2_hasPea 0 = .ok (.iload_n 1, 1) := by decide +kernel
theorem dX2_hasPea_1 : decode cX2_hasPea 1 = .ok (.aload_n 0, 1) := by decide +kernel
theorem dX2_hasPea_2 : decode cX2_hasPea 2 = .ok (.getfield 44, 3) := by decide +kernel
theorem dX2_hasPea_5 : decode cX2_hasPea 5 = .ok (.invokestatic 40, 3) := by decide +kernel
theorem dX2_hasPea_8 : decode cX2_hasPea 8 = .ok (.ireturn, 1) := by decide +kernel
theorem dX2_eaterAt_0 : decode cX2_eaterAt 0 = .ok (.iload_n 1, 1) := by decide +kernel
theorem dX2_eaterAt_1 : decode cX2_eaterAt 1 = .ok (.aload_n 0, 1) := by decide +kernel
theorem dX2_eaterAt_2 : decode cX2_eaterAt 2 = .ok (.getfield 33, 3) := by decide +kernel
theorem dX2_eaterAt_5 : decode cX2_eaterAt 5 = .ok (.invokestatic 40, 3) := by decide +kernel
theorem dX2_eaterAt_8 : decode cX2_eaterAt 8 = .ok (.ifCond .eq 12, 3) := by decide +kernel
theorem dX2_eaterAt_11 : decode cX2_eaterAt 11 = .ok (.aload_n 0, 1) := by decide +kernel
theorem dX2_eaterAt_12 : decode cX2_eaterAt 12 = .ok (.getfield 23, 3) := by decide +kernel
theorem dX2_eaterAt_15 : decode cX2_eaterAt 15 = .ok (.iload_n 1, 1) := by decide +kernel
theorem dX2_eaterAt_16 : decode cX2_eaterAt 16 = .ok (.aaload, 1) := by decide +kernel
theorem dX2_eaterAt_17 : decode cX2_eaterAt 17 = .ok (.goto 4, 3) := by decide +kernel
theorem dX2_eaterAt_20 : decode cX2_eaterAt 20 = .ok (.aconst_null, 1) := by decide +kernel
theorem dX2_eaterAt_21 : decode cX2_eaterAt 21 = .ok (.areturn, 1) := by decide +kernel
theorem dX2_signAt_0 : decode cX2_signAt 0 = .ok (.iload_n 1, 1) := by decide +kernel
theorem dX2_signAt_1 : decode cX2_signAt 1 = .ok (.ifCond .lt 11, 3) := by decide +kernel
theorem dX2_signAt_4 : decode cX2_signAt 4 = .ok (.iload_n 1, 1) := by decide +kernel
theorem dX2_signAt_5 : decode cX2_signAt 5 = .ok (.aload_n 0, 1) := by decide +kernel
theorem dX2_signAt_6 : decode cX2_signAt 6 = .ok (.getfield 37, 3) := by decide +kernel
theorem dX2_signAt_9 : decode cX2_signAt 9 = .ok (.if_icmp .lt 7, 3) := by decide +kernel
theorem dX2_signAt_12 : decode cX2_signAt 12 = .ok (.iconst 0, 1) := by decide +kernel
theorem dX2_signAt_13 : decode cX2_signAt 13 = .ok (.goto 9, 3) := by decide +kernel
theorem dX2_signAt_16 : decode cX2_signAt 16 = .ok (.aload_n 0, 1) := by decide +kernel
theorem dX2_signAt_17 : decode cX2_signAt 17 = .ok (.getfield 15, 3) := by decide +kernel
theorem dX2_signAt_20 : decode cX2_signAt 20 = .ok (.iload_n 1, 1) := by decide +kernel
theorem dX2_signAt_21 : decode cX2_signAt 21 = .ok (.iaload, 1) := by decide +kernel
theorem dX2_signAt_22 : decode cX2_signAt 22 = .ok (.ireturn, 1) := by decide +kernel
theorem dX2_changeSign_0 : decode cX2_changeSign 0 = .ok (.aload_n 0, 1) := by decide +kernel
theorem dX2_changeSign_1 : decode cX2_changeSign 1 = .ok (.iload_n 1, 1) := by decide +kernel
theorem dX2_changeSign_2 : decode cX2_changeSign 2 = .ok (.invokevirtual 47, 3) := by decide +kernel
theorem dX2_changeSign_5 : decode cX2_changeSign 5 = .ok (.ifCond .eq 10, 3) := by decide +kernel
theorem dX2_changeSign_8 : decode cX2_changeSign 8 = .ok (.aload_n 0, 1) := by decide +kernel
theorem dX2_changeSign_9 : decode cX2_changeSign 9 = .ok (.getfield 15, 3) := by decide +kernel
theorem dX2_changeSign_12 : decode cX2_changeSign 12 = .ok (.iload_n 1, 1) := by decide +kernel
theorem dX2_changeSign_13 : decode cX2_changeSign 13 = .ok (.iload_n 2, 1) := by decide +kernel
theorem dX2_changeSign_14 : decode cX2_changeSign 14 = .ok (.iastore, 1) := by decide +kernel
theorem dX2_changeSign_15 : decode cX2_changeSign 15 = .ok (.return_, 1) := by decide +kernel
theorem dX2_startOf_0 : decode cX2_startOf 0 = .ok (.aload_n 0, 1) := by decide +kernel
theorem dX2_startOf_1 : decode cX2_startOf 1 = .ok (.iload_n 1, 1) := by decide +kernel
theorem dX2_startOf_2 : decode cX2_startOf 2 = .ok (.invokevirtual 51, 3) := by decide +kernel
theorem dX2_startOf_5 : decode cX2_startOf 5 = .ok (.ifCond .eq 12, 3) := by decide +kernel
theorem dX2_startOf_8 : decode cX2_startOf 8 = .ok (.aload_n 0, 1) := by decide +kernel
theorem dX2_startOf_9 : decode cX2_startOf 9 = .ok (.getfield 18, 3) := by decide +kernel
theorem dX2_startOf_12 : decode cX2_startOf 12 = .ok (.iload_n 1, 1) := by decide +kernel
theorem dX2_startOf_13 : decode cX2_startOf 13 = .ok (.iaload, 1) := by decide +kernel
theorem dX2_startOf_14 : decode cX2_startOf 14 = .ok (.goto 5, 3) := by decide +kernel
theorem dX2_startOf_17 : decode cX2_startOf 17 = .ok (.bipush (-9), 2) := by decide +kernel
theorem dX2_startOf_19 : decode cX2_startOf 19 = .ok (.ireturn, 1) := by decide +kernel
theorem dX2_startsOn_0 : decode cX2_startsOn 0 = .ok (.iconst 0, 1) := by decide +kernel
theorem dX2_startsOn_1 : decode cX2_startsOn 1 = .ok (.istore_n 2, 1) := by decide +kernel
theorem dX2_startsOn_2 : decode cX2_startsOn 2 = .ok (.iload_n 2, 1) := by decide +kernel
theorem dX2_startsOn_3 : decode cX2_startsOn 3 = .ok (.aload_n 0, 1) := by decide +kernel
theorem dX2_startsOn_4 : decode cX2_startsOn 4 = .ok (.getfield 44, 3) := by decide +kernel
theorem dX2_startsOn_7 : decode cX2_startsOn 7 = .ok (.if_icmp .ge 21, 3) := by decide +kernel
theorem dX2_startsOn_10 : decode cX2_startsOn 10 = .ok (.aload_n 0, 1) := by decide +kernel
theorem dX2_startsOn_11 : decode cX2_startsOn 11 = .ok (.getfield 18, 3) := by decide +kernel
theorem dX2_startsOn_14 : decode cX2_startsOn 14 = .ok (.iload_n 2, 1) := by decide +kernel
theorem dX2_startsOn_15 : decode cX2_startsOn 15 = .ok (.iaload, 1) := by decide +kernel
theorem dX2_startsOn_16 : decode cX2_startsOn 16 = .ok (.iload_n 1, 1) := by decide +kernel
theorem dX2_startsOn_17 : decode cX2_startsOn 17 = .ok (.if_icmp .ne 5, 3) := by decide +kernel
theorem dX2_startsOn_20 : decode cX2_startsOn 20 = .ok (.iconst 1, 1) := by decide +kernel
theorem dX2_startsOn_21 : decode cX2_startsOn 21 = .ok (.ireturn, 1) := by decide +kernel
theorem dX2_startsOn_22 : decode cX2_startsOn 22 = .ok (.iinc 2 1, 3) := by decide +kernel
theorem dX2_startsOn_25 : decode cX2_startsOn 25 = .ok (.goto (-23), 3) := by decide +kernel
theorem dX2_startsOn_28 : decode cX2_startsOn 28 = .ok (.iconst 0, 1) := by decide +kernel
theorem dX2_startsOn_29 : decode cX2_startsOn 29 = .ok (.ireturn, 1) := by decide +kernel
theorem dX2_isCode_0 : decode cX2_isCode 0 = .ok (.iload_n 1, 1) := by decide +kernel
theorem dX2_isCode_1 : decode cX2_isCode 1 = .ok (.ifCond .lt 43, 3) := by decide +kernel
theorem dX2_isCode_4 : decode cX2_isCode 4 = .ok (.iload_n 1, 1) := by decide +kernel
theorem dX2_isCode_5 : decode cX2_isCode 5 = .ok (.bipush 100, 2) := by decide +kernel
theorem dX2_isCode_7 : decode cX2_isCode 7 = .ok (.idiv, 1) := by decide +kernel
theorem dX2_isCode_8 : decode cX2_isCode 8 = .ok (.aload_n 0, 1) := by decide +kernel
theorem dX2_isCode_9 : decode cX2_isCode 9 = .ok (.getfield 33, 3) := by decide +kernel
theorem dX2_isCode_12 : decode cX2_isCode 12 = .ok (.invokestatic 40, 3) := by decide +kernel
theorem dX2_isCode_15 : decode cX2_isCode 15 = .ok (.ifCond .eq 29, 3) := by decide +kernel
theorem dX2_isCode_18 : decode cX2_isCode 18 = .ok (.aload_n 0, 1) := by decide +kernel
theorem dX2_isCode_19 : decode cX2_isCode 19 = .ok (.iload_n 1, 1) := by decide +kernel
theorem dX2_isCode_20 : decode cX2_isCode 20 = .ok (.invokestatic 54, 3) := by decide +kernel
theorem dX2_isCode_23 : decode cX2_isCode 23 = .ok (.invokevirtual 51, 3) := by decide +kernel
theorem dX2_isCode_26 : decode cX2_isCode 26 = .ok (.ifCond .eq 18, 3) := by decide +kernel
theorem dX2_isCode_29 : decode cX2_isCode 29 = .ok (.iload_n 1, 1) := by decide +kernel
theorem dX2_isCode_30 : decode cX2_isCode 30 = .ok (.bipush 10, 2) := by decide +kernel
theorem dX2_isCode_32 : decode cX2_isCode 32 = .ok (.irem, 1) := by decide +kernel
theorem dX2_isCode_33 : decode cX2_isCode 33 = .ok (.iconst 4, 1) := by decide +kernel
theorem dX2_isCode_34 : decode cX2_isCode 34 = .ok (.invokestatic 40, 3) := by decide +kernel
theorem dX2_isCode_37 : decode cX2_isCode 37 = .ok (.ifCond .eq 7, 3) := by decide +kernel
theorem dX2_isCode_40 : decode cX2_isCode 40 = .ok (.iconst 1, 1) := by decide +kernel
theorem dX2_isCode_41 : decode cX2_isCode 41 = .ok (.goto 4, 3) := by decide +kernel
theorem dX2_isCode_44 : decode cX2_isCode 44 = .ok (.iconst 0, 1) := by decide +kernel
theorem dX2_isCode_45 : decode cX2_isCode 45 = .ok (.ireturn, 1) := by decide +kernel
theorem dX2_nextTo_0 : decode cX2_nextTo 0 = .ok (.aload_n 0, 1) := by decide +kernel
theorem dX2_nextTo_1 : decode cX2_nextTo 1 = .ok (.getfield 58, 3) := by decide +kernel
theorem dX2_nextTo_4 : decode cX2_nextTo 4 = .ok (.ifCond .le 24, 3) := by decide +kernel
theorem dX2_nextTo_7 : decode cX2_nextTo 7 = .ok (.iload_n 1, 1) := by decide +kernel
theorem dX2_nextTo_8 : decode cX2_nextTo 8 = .ok (.ifCond .lt 20, 3) := by decide +kernel
theorem dX2_nextTo_11 : decode cX2_nextTo 11 = .ok (.iload_n 1, 1) := by decide +kernel
theorem dX2_nextTo_12 : decode cX2_nextTo 12 = .ok (.aload_n 0, 1) := by decide +kernel
theorem dX2_nextTo_13 : decode cX2_nextTo 13 = .ok (.getfield 37, 3) := by decide +kernel
theorem dX2_nextTo_16 : decode cX2_nextTo 16 = .ok (.if_icmp .ge 12, 3) := by decide +kernel
theorem dX2_nextTo_19 : decode cX2_nextTo 19 = .ok (.iload_n 2, 1) := by decide +kernel
theorem dX2_nextTo_20 : decode cX2_nextTo 20 = .ok (.ifCond .lt 8, 3) := by decide +kernel
theorem dX2_nextTo_23 : decode cX2_nextTo 23 = .ok (.iload_n 2, 1) := by decide +kernel
theorem dX2_nextTo_24 : decode cX2_nextTo 24 = .ok (.iconst 4, 1) := by decide +kernel
theorem dX2_nextTo_25 : decode cX2_nextTo 25 = .ok (.if_icmp .lt 5, 3) := by decide +kernel
theorem dX2_nextTo_28 : decode cX2_nextTo 28 = .ok (.iconst (-1), 1) := by decide +kernel
theorem dX2_nextTo_29 : decode cX2_nextTo 29 = .ok (.ireturn, 1) := by decide +kernel
theorem dX2_nextTo_30 : decode cX2_nextTo 30 = .ok (.iload_n 1, 1) := by decide +kernel
theorem dX2_nextTo_31 : decode cX2_nextTo 31 = .ok (.aload_n 0, 1) := by decide +kernel
theorem dX2_nextTo_32 : decode cX2_nextTo 32 = .ok (.getfield 58, 3) := by decide +kernel
theorem dX2_nextTo_35 : decode cX2_nextTo 35 = .ok (.idiv, 1) := by decide +kernel
theorem dX2_nextTo_36 : decode cX2_nextTo 36 = .ok (.getstatic 61, 3) := by decide +kernel
theorem dX2_nextTo_39 : decode cX2_nextTo 39 = .ok (.iload_n 2, 1) := by decide +kernel
theorem dX2_nextTo_40 : decode cX2_nextTo 40 = .ok (.iaload, 1) := by decide +kernel
theorem dX2_nextTo_41 : decode cX2_nextTo 41 = .ok (.iadd, 1) := by decide +kernel
theorem dX2_nextTo_42 : decode cX2_nextTo 42 = .ok (.istore_n 3, 1) := by decide +kernel
theorem dX2_nextTo_43 : decode cX2_nextTo 43 = .ok (.iload_n 1, 1) := by decide +kernel
theorem dX2_nextTo_44 : decode cX2_nextTo 44 = .ok (.aload_n 0, 1) := by decide +kernel
theorem dX2_nextTo_45 : decode cX2_nextTo 45 = .ok (.getfield 58, 3) := by decide +kernel
theorem dX2_nextTo_48 : decode cX2_nextTo 48 = .ok (.irem, 1) := by decide +kernel
theorem dX2_nextTo_49 : decode cX2_nextTo 49 = .ok (.getstatic 64, 3) := by decide +kernel
theorem dX2_nextTo_52 : decode cX2_nextTo 52 = .ok (.iload_n 2, 1) := by decide +kernel
theorem dX2_nextTo_53 : decode cX2_nextTo 53 = .ok (.iaload, 1) := by decide +kernel
theorem dX2_nextTo_54 : decode cX2_nextTo 54 = .ok (.iadd, 1) := by decide +kernel
theorem dX2_nextTo_55 : decode cX2_nextTo 55 = .ok (.istore 4, 2) := by decide +kernel
theorem dX2_nextTo_57 : decode cX2_nextTo 57 = .ok (.iload_n 3, 1) := by decide +kernel
theorem dX2_nextTo_58 : decode cX2_nextTo 58 = .ok (.ifCond .lt 25, 3) := by decide +kernel
theorem dX2_nextTo_61 : decode cX2_nextTo 61 = .ok (.iload_n 3, 1) := by decide +kernel
theorem dX2_nextTo_62 : decode cX2_nextTo 62 = .ok (.aload_n 0, 1) := by decide +kernel
theorem dX2_nextTo_63 : decode cX2_nextTo 63 = .ok (.getfield 67, 3) := by decide +kernel
theorem dX2_nextTo_66 : decode cX2_nextTo 66 = .ok (.if_icmp .ge 17, 3) := by decide +kernel
theorem dX2_nextTo_69 : decode cX2_nextTo 69 = .ok (.iload 4, 2) := by decide +kernel
theorem dX2_nextTo_71 : decode cX2_nextTo 71 = .ok (.ifCond .lt 12, 3) := by decide +kernel
theorem dX2_nextTo_74 : decode cX2_nextTo 74 = .ok (.iload 4, 2) := by decide +kernel
theorem dX2_nextTo_76 : decode cX2_nextTo 76 = .ok (.aload_n 0, 1) := by decide +kernel
theorem dX2_nextTo_77 : decode cX2_nextTo 77 = .ok (.getfield 58, 3) := by decide +kernel
theorem dX2_nextTo_80 : decode cX2_nextTo 80 = .ok (.if_icmp .lt 7, 3) := by decide +kernel
theorem dX2_nextTo_83 : decode cX2_nextTo 83 = .ok (.iconst (-1), 1) := by decide +kernel
theorem dX2_nextTo_84 : decode cX2_nextTo 84 = .ok (.goto 12, 3) := by decide +kernel
theorem dX2_nextTo_87 : decode cX2_nextTo 87 = .ok (.iload_n 3, 1) := by decide +kernel
theorem dX2_nextTo_88 : decode cX2_nextTo 88 = .ok (.aload_n 0, 1) := by decide +kernel
theorem dX2_nextTo_89 : decode cX2_nextTo 89 = .ok (.getfield 58, 3) := by decide +kernel
theorem dX2_nextTo_92 : decode cX2_nextTo 92 = .ok (.imul, 1) := by decide +kernel
theorem dX2_nextTo_93 : decode cX2_nextTo 93 = .ok (.iload 4, 2) := by decide +kernel
theorem dX2_nextTo_95 : decode cX2_nextTo 95 = .ok (.iadd, 1) := by decide +kernel
theorem dX2_nextTo_96 : decode cX2_nextTo 96 = .ok (.ireturn, 1) := by decide +kernel
theorem dX2_readText_0 : decode cX2_readText 0 = .ok (.aload_n 0, 1) := by decide +kernel
theorem dX2_readText_1 : decode cX2_readText 1 = .ok (.invokevirtual 70, 3) := by decide +kernel
theorem dX2_readText_4 : decode cX2_readText 4 = .ok (.iconst 0, 1) := by decide +kernel
theorem dX2_readText_5 : decode cX2_readText 5 = .ok (.istore 4, 2) := by decide +kernel
theorem dX2_readText_7 : decode cX2_readText 7 = .ok (.iload 4, 2) := by decide +kernel
theorem dX2_readText_9 : decode cX2_readText 9 = .ok (.iload_n 3, 1) := by decide +kernel
theorem dX2_readText_10 : decode cX2_readText 10 = .ok (.if_icmp .ge 29, 3) := by decide +kernel
theorem dX2_readText_13 : decode cX2_readText 13 = .ok (.aload_n 0, 1) := by decide +kernel
theorem dX2_readText_14 : decode cX2_readText 14 = .ok (.iload 4, 2) := by decide +kernel
theorem dX2_readText_16 : decode cX2_readText 16 = .ok (.aload_n 1, 1) := by decide +kernel
theorem dX2_readText_17 : decode cX2_readText 17 = .ok (.iload_n 2, 1) := by decide +kernel
theorem dX2_readText_18 : decode cX2_readText 18 = .ok (.iload 4, 2) := by decide +kernel
theorem dX2_readText_20 : decode cX2_readText 20 = .ok (.iadd, 1) := by decide +kernel
theorem dX2_readText_21 : decode cX2_readText 21 = .ok (.invokevirtual 73, 3) := by decide +kernel
theorem dX2_readText_24 : decode cX2_readText 24 = .ok (.invokevirtual 78, 3) := by decide +kernel
theorem dX2_readText_27 : decode cX2_readText 27 = .ok (.ifCond .ne 6, 3) := by decide +kernel
theorem dX2_readText_30 : decode cX2_readText 30 = .ok (.iload 4, 2) := by decide +kernel
theorem dX2_readText_32 : decode cX2_readText 32 = .ok (.ireturn, 1) := by decide +kernel
theorem dX2_readText_33 : decode cX2_readText 33 = .ok (.iinc 4 1, 3) := by decide +kernel
theorem dX2_readText_36 : decode cX2_readText 36 = .ok (.goto (-29), 3) := by decide +kernel
theorem dX2_readText_39 : decode cX2_readText 39 = .ok (.aload_n 0, 1) := by decide +kernel
theorem dX2_readText_40 : decode cX2_readText 40 = .ok (.getfield 33, 3) := by decide +kernel
theorem dX2_readText_43 : decode cX2_readText 43 = .ok (.ifCond .eq 20, 3) := by decide +kernel
theorem dX2_readText_46 : decode cX2_readText 46 = .ok (.iload_n 3, 1) := by decide +kernel
theorem dX2_readText_47 : decode cX2_readText 47 = .ok (.iconst 3, 1) := by decide +kernel
theorem dX2_readText_48 : decode cX2_readText 48 = .ok (.aload_n 0, 1) := by decide +kernel
theorem dX2_readText_49 : decode cX2_readText 49 = .ok (.invokevirtual 81, 3) := by decide +kernel
theorem dX2_readText_52 : decode cX2_readText 52 = .ok (.iadd, 1) := by decide +kernel
theorem dX2_readText_53 : decode cX2_readText 53 = .ok (.iconst 3, 1) := by decide +kernel
theorem dX2_readText_54 : decode cX2_readText 54 = .ok (.aload_n 0, 1) := by decide +kernel
theorem dX2_readText_55 : decode cX2_readText 55 = .ok (.getfield 33, 3) := by decide +kernel
theorem dX2_readText_58 : decode cX2_readText 58 = .ok (.imul, 1) := by decide +kernel
theorem dX2_readText_59 : decode cX2_readText 59 = .ok (.iadd, 1) := by decide +kernel
theorem dX2_readText_60 : decode cX2_readText 60 = .ok (.if_icmp .eq 5, 3) := by decide +kernel
theorem dX2_readText_63 : decode cX2_readText 63 = .ok (.iload_n 3, 1) := by decide +kernel
theorem dX2_readText_64 : decode cX2_readText 64 = .ok (.ireturn, 1) := by decide +kernel
theorem dX2_readText_65 : decode cX2_readText 65 = .ok (.iconst 0, 1) := by decide +kernel
theorem dX2_readText_66 : decode cX2_readText 66 = .ok (.istore 4, 2) := by decide +kernel
theorem dX2_readText_68 : decode cX2_readText 68 = .ok (.iload 4, 2) := by decide +kernel
theorem dX2_readText_70 : decode cX2_readText 70 = .ok (.aload_n 0, 1) := by decide +kernel
theorem dX2_readText_71 : decode cX2_readText 71 = .ok (.getfield 33, 3) := by decide +kernel
theorem dX2_readText_74 : decode cX2_readText 74 = .ok (.if_icmp .ge 35, 3) := by decide +kernel
theorem dX2_readText_77 : decode cX2_readText 77 = .ok (.aload_n 0, 1) := by decide +kernel
theorem dX2_readText_78 : decode cX2_readText 78 = .ok (.getfield 23, 3) := by decide +kernel
theorem dX2_readText_81 : decode cX2_readText 81 = .ok (.iload 4, 2) := by decide +kernel
theorem dX2_readText_83 : decode cX2_readText 83 = .ok (.aload_n 0, 1) := by decide +kernel
theorem dX2_readText_84 : decode cX2_readText 84 = .ok (.getfield 27, 3) := by decide +kernel
theorem dX2_readText_87 : decode cX2_readText 87 = .ok (.iload 4, 2) := by decide +kernel
theorem dX2_readText_89 : decode cX2_readText 89 = .ok (.iaload, 1) := by decide +kernel
theorem dX2_readText_90 : decode cX2_readText 90 = .ok (.iload 4, 2) := by decide +kernel
theorem dX2_readText_92 : decode cX2_readText 92 = .ok (.aload_n 0, 1) := by decide +kernel
theorem dX2_readText_93 : decode cX2_readText 93 = .ok (.getfield 30, 3) := by decide +kernel
theorem dX2_readText_96 : decode cX2_readText 96 = .ok (.iload 4, 2) := by decide +kernel
theorem dX2_readText_98 : decode cX2_readText 98 = .ok (.iaload, 1) := by decide +kernel
theorem dX2_readText_99 : decode cX2_readText 99 = .ok (.invokestatic 85, 3) := by decide +kernel
theorem dX2_readText_102 : decode cX2_readText 102 = .ok (.aastore, 1) := by decide +kernel
theorem dX2_readText_103 : decode cX2_readText 103 = .ok (.iinc 4 1, 3) := by decide +kernel
theorem dX2_readText_106 : decode cX2_readText 106 = .ok (.goto (-38), 3) := by decide +kernel
theorem dX2_readText_109 : decode cX2_readText 109 = .ok (.aload_n 0, 1) := by decide +kernel
theorem dX2_readText_110 : decode cX2_readText 110 = .ok (.invokevirtual 89, 3) := by decide +kernel
theorem dX2_readText_113 : decode cX2_readText 113 = .ok (.bipush (-9), 2) := by decide +kernel
theorem dX2_readText_115 : decode cX2_readText 115 = .ok (.ireturn, 1) := by decide +kernel
theorem dX2_wipe_0 : decode cX2_wipe 0 = .ok (.aload_n 0, 1) := by decide +kernel
theorem dX2_wipe_1 : decode cX2_wipe 1 = .ok (.iconst 0, 1) := by decide +kernel
theorem dX2_wipe_2 : decode cX2_wipe 2 = .ok (.putfield 67, 3) := by decide +kernel
theorem dX2_wipe_5 : decode cX2_wipe 5 = .ok (.aload_n 0, 1) := by decide +kernel
theorem dX2_wipe_6 : decode cX2_wipe 6 = .ok (.iconst 0, 1) := by decide +kernel
theorem dX2_wipe_7 : decode cX2_wipe 7 = .ok (.putfield 58, 3) := by decide +kernel
theorem dX2_wipe_10 : decode cX2_wipe 10 = .ok (.aload_n 0, 1) := by decide +kernel
theorem dX2_wipe_11 : decode cX2_wipe 11 = .ok (.iconst 0, 1) := by decide +kernel
theorem dX2_wipe_12 : decode cX2_wipe 12 = .ok (.putfield 37, 3) := by decide +kernel
theorem dX2_wipe_15 : decode cX2_wipe 15 = .ok (.aload_n 0, 1) := by decide +kernel
theorem dX2_wipe_16 : decode cX2_wipe 16 = .ok (.iconst 0, 1) := by decide +kernel
theorem dX2_wipe_17 : decode cX2_wipe 17 = .ok (.putfield 44, 3) := by decide +kernel
theorem dX2_wipe_20 : decode cX2_wipe 20 = .ok (.aload_n 0, 1) := by decide +kernel
theorem dX2_wipe_21 : decode cX2_wipe 21 = .ok (.iconst 0, 1) := by decide +kernel
theorem dX2_wipe_22 : decode cX2_wipe 22 = .ok (.putfield 33, 3) := by decide +kernel
theorem dX2_wipe_25 : decode cX2_wipe 25 = .ok (.aload_n 0, 1) := by decide +kernel
theorem dX2_wipe_26 : decode cX2_wipe 26 = .ok (.iconst 0, 1) := by decide +kernel
theorem dX2_wipe_27 : decode cX2_wipe 27 = .ok (.putfield 92, 3) := by decide +kernel
theorem dX2_wipe_30 : decode cX2_wipe 30 = .ok (.return_, 1) := by decide +kernel
theorem dX2_rowCodes_0 : decode cX2_rowCodes 0 = .ok (.aload_n 0, 1) := by decide +kernel
theorem dX2_rowCodes_1 : decode cX2_rowCodes 1 = .ok (.getfield 67, 3) := by decide +kernel
theorem dX2_rowCodes_4 : decode cX2_rowCodes 4 = .ok (.aload_n 0, 1) := by decide +kernel
theorem dX2_rowCodes_5 : decode cX2_rowCodes 5 = .ok (.getfield 58, 3) := by decide +kernel
theorem dX2_rowCodes_8 : decode cX2_rowCodes 8 = .ok (.iconst 1, 1) := by decide +kernel
theorem dX2_rowCodes_9 : decode cX2_rowCodes 9 = .ok (.iadd, 1) := by decide +kernel
theorem dX2_rowCodes_10 : decode cX2_rowCodes 10 = .ok (.imul, 1) := by decide +kernel
theorem dX2_rowCodes_11 : decode cX2_rowCodes 11 = .ok (.ireturn, 1) := by decide +kernel
theorem dX2_takes_0 : decode cX2_takes 0 = .ok (.iload_n 1, 1) := by decide +kernel
theorem dX2_takes_1 : decode cX2_takes 1 = .ok (.tableswitch 100 0 2 #[27, 39, 69], 27) := by decide +kernel
theorem dX2_takes_28 : decode cX2_takes 28 = .ok (.iload_n 2, 1) := by decide +kernel
theorem dX2_takes_29 : decode cX2_takes 29 = .ok (.bipush 112, 2) := by decide +kernel
theorem dX2_takes_31 : decode cX2_takes 31 = .ok (.if_icmp .ne 7, 3) := by decide +kernel
theorem dX2_takes_34 : decode cX2_takes 34 = .ok (.iconst 1, 1) := by decide +kernel
theorem dX2_takes_35 : decode cX2_takes 35 = .ok (.goto 4, 3) := by decide +kernel
theorem dX2_takes_38 : decode cX2_takes 38 = .ok (.iconst 0, 1) := by decide +kernel
theorem dX2_takes_39 : decode cX2_takes 39 = .ok (.ireturn, 1) := by decide +kernel
theorem dX2_takes_40 : decode cX2_takes 40 = .ok (.aload_n 0, 1) := by decide +kernel
theorem dX2_takes_41 : decode cX2_takes 41 = .ok (.iload_n 2, 1) := by decide +kernel
theorem dX2_takes_42 : decode cX2_takes 42 = .ok (.bipush 48, 2) := by decide +kernel
theorem dX2_takes_44 : decode cX2_takes 44 = .ok (.isub, 1) := by decide +kernel
theorem dX2_takes_45 : decode cX2_takes 45 = .ok (.putfield 67, 3) := by decide +kernel
theorem dX2_takes_48 : decode cX2_takes 48 = .ok (.aload_n 0, 1) := by decide +kernel
theorem dX2_takes_49 : decode cX2_takes 49 = .ok (.getfield 67, 3) := by decide +kernel
theorem dX2_takes_52 : decode cX2_takes 52 = .ok (.iconst 2, 1) := by decide +kernel
theorem dX2_takes_53 : decode cX2_takes 53 = .ok (.if_icmp .lt 15, 3) := by decide +kernel
theorem dX2_takes_56 : decode cX2_takes 56 = .ok (.aload_n 0, 1) := by decide +kernel
theorem dX2_takes_57 : decode cX2_takes 57 = .ok (.getfield 67, 3) := by decide +kernel
theorem dX2_takes_60 : decode cX2_takes 60 = .ok (.iconst 5, 1) := by decide +kernel
theorem dX2_takes_61 : decode cX2_takes 61 = .ok (.if_icmp .gt 7, 3) := by decide +kernel
theorem dX2_takes_64 : decode cX2_takes 64 = .ok (.iconst 1, 1) := by decide +kernel
theorem dX2_takes_65 : decode cX2_takes 65 = .ok (.goto 4, 3) := by decide +kernel
theorem dX2_takes_68 : decode cX2_takes 68 = .ok (.iconst 0, 1) := by decide +kernel
theorem dX2_takes_69 : decode cX2_takes 69 = .ok (.ireturn, 1) := by decide +kernel
theorem dX2_takes_70 : decode cX2_takes 70 = .ok (.aload_n 0, 1) := by decide +kernel
theorem dX2_takes_71 : decode cX2_takes 71 = .ok (.iload_n 2, 1) := by decide +kernel
theorem dX2_takes_72 : decode cX2_takes 72 = .ok (.bipush 48, 2) := by decide +kernel
theorem dX2_takes_74 : decode cX2_takes 74 = .ok (.isub, 1) := by decide +kernel
theorem dX2_takes_75 : decode cX2_takes 75 = .ok (.putfield 58, 3) := by decide +kernel
theorem dX2_takes_78 : decode cX2_takes 78 = .ok (.aload_n 0, 1) := by decide +kernel
theorem dX2_takes_79 : decode cX2_takes 79 = .ok (.getfield 58, 3) := by decide +kernel
theorem dX2_takes_82 : decode cX2_takes 82 = .ok (.iconst 2, 1) := by decide +kernel
theorem dX2_takes_83 : decode cX2_takes 83 = .ok (.if_icmp .lt 16, 3) := by decide +kernel
theorem dX2_takes_86 : decode cX2_takes 86 = .ok (.aload_n 0, 1) := by decide +kernel
theorem dX2_takes_87 : decode cX2_takes 87 = .ok (.getfield 58, 3) := by decide +kernel
theorem dX2_takes_90 : decode cX2_takes 90 = .ok (.bipush 6, 2) := by decide +kernel
theorem dX2_takes_92 : decode cX2_takes 92 = .ok (.if_icmp .gt 7, 3) := by decide +kernel
theorem dX2_takes_95 : decode cX2_takes 95 = .ok (.iconst 1, 1) := by decide +kernel
theorem dX2_takes_96 : decode cX2_takes 96 = .ok (.goto 4, 3) := by decide +kernel
theorem dX2_takes_99 : decode cX2_takes 99 = .ok (.iconst 0, 1) := by decide +kernel
theorem dX2_takes_100 : decode cX2_takes 100 = .ok (.ireturn, 1) := by decide +kernel
theorem dX2_takes_101 : decode cX2_takes 101 = .ok (.aload_n 0, 1) := by decide +kernel
theorem dX2_takes_102 : decode cX2_takes 102 = .ok (.iload_n 1, 1) := by decide +kernel
theorem dX2_takes_103 : decode cX2_takes 103 = .ok (.iconst 3, 1) := by decide +kernel
theorem dX2_takes_104 : decode cX2_takes 104 = .ok (.isub, 1) := by decide +kernel
theorem dX2_takes_105 : decode cX2_takes 105 = .ok (.iload_n 2, 1) := by decide +kernel
theorem dX2_takes_106 : decode cX2_takes 106 = .ok (.invokevirtual 95, 3) := by decide +kernel
theorem dX2_takes_109 : decode cX2_takes 109 = .ok (.ireturn, 1) := by decide +kernel
theorem dX2_takesBehindHead_0 : decode cX2_takesBehindHead 0 = .ok (.aload_n 0, 1) := by decide +kernel
theorem dX2_takesBehindHead_1 : decode cX2_takesBehindHead 1 = .ok (.invokevirtual 81, 3) := by decide +kernel
theorem dX2_takesBehindHead_4 : decode cX2_takesBehindHead 4 = .ok (.istore_n 3, 1) := by decide +kernel
theorem dX2_takesBehindHead_5 : decode cX2_takesBehindHead 5 = .ok (.iload_n 1, 1) := by decide +kernel
theorem dX2_takesBehindHead_6 : decode cX2_takesBehindHead 6 = .ok (.iload_n 3, 1) := by decide +kernel
theorem dX2_takesBehindHead_7 : decode cX2_takesBehindHead 7 = .ok (.if_icmp .ge 12, 3) := by decide +kernel
theorem dX2_takesBehindHead_10 : decode cX2_takesBehindHead 10 = .ok (.aload_n 0, 1) := by decide +kernel
theorem dX2_takesBehindHead_11 : decode cX2_takesBehindHead 11 = .ok (.iload_n 1, 1) := by decide +kernel
theorem dX2_takesBehindHead_12 : decode cX2_takesBehindHead 12 = .ok (.iload_n 2, 1) := by decide +kernel
theorem dX2_takesBehindHead_13 : decode cX2_takesBehindHead 13 = .ok (.invokevirtual 98, 3) := by decide +kernel
theorem dX2_takesBehindHead_16 : decode cX2_takesBehindHead 16 = .ok (.goto 11, 3) := by decide +kernel
theorem dX2_takesBehindHead_19 : decode cX2_takesBehindHead 19 = .ok (.aload_n 0, 1) := by decide +kernel
theorem dX2_takesBehindHead_20 : decode cX2_takesBehindHead 20 = .ok (.iload_n 1, 1) := by decide +kernel
theorem dX2_takesBehindHead_21 : decode cX2_takesBehindHead 21 = .ok (.iload_n 3, 1) := by decide +kernel
theorem dX2_takesBehindHead_22 : decode cX2_takesBehindHead 22 = .ok (.isub, 1) := by decide +kernel
theorem dX2_takesBehindHead_23 : decode cX2_takesBehindHead 23 = .ok (.iload_n 2, 1) := by decide +kernel
theorem dX2_takesBehindHead_24 : decode cX2_takesBehindHead 24 = .ok (.invokevirtual 101, 3) := by decide +kernel
theorem dX2_takesBehindHead_27 : decode cX2_takesBehindHead 27 = .ok (.ireturn, 1) := by decide +kernel
theorem dX2_takesInRow_0 : decode cX2_takesInRow 0 = .ok (.aload_n 0, 1) := by decide +kernel
theorem dX2_takesInRow_1 : decode cX2_takesInRow 1 = .ok (.getfield 58, 3) := by decide +kernel
theorem dX2_takesInRow_4 : decode cX2_takesInRow 4 = .ok (.ifCond .lt 14, 3) := by decide +kernel
theorem dX2_takesInRow_7 : decode cX2_takesInRow 7 = .ok (.iload_n 1, 1) := by decide +kernel
theorem dX2_takesInRow_8 : decode cX2_takesInRow 8 = .ok (.aload_n 0, 1) := by decide +kernel
theorem dX2_takesInRow_9 : decode cX2_takesInRow 9 = .ok (.getfield 58, 3) := by decide +kernel
theorem dX2_takesInRow_12 : decode cX2_takesInRow 12 = .ok (.iconst 1, 1) := by decide +kernel
theorem dX2_takesInRow_13 : decode cX2_takesInRow 13 = .ok (.iadd, 1) := by decide +kernel
theorem dX2_takesInRow_14 : decode cX2_takesInRow 14 = .ok (.irem, 1) := by decide +kernel
theorem dX2_takesInRow_15 : decode cX2_takesInRow 15 = .ok (.ifCond .ne 15, 3) := by decide +kernel
theorem dX2_takesInRow_18 : decode cX2_takesInRow 18 = .ok (.iload_n 2, 1) := by decide +kernel
theorem dX2_takesInRow_19 : decode cX2_takesInRow 19 = .ok (.bipush 59, 2) := by decide +kernel
theorem dX2_takesInRow_21 : decode cX2_takesInRow 21 = .ok (.if_icmp .ne 7, 3) := by decide +kernel
theorem dX2_takesInRow_24 : decode cX2_takesInRow 24 = .ok (.iconst 1, 1) := by decide +kernel
theorem dX2_takesInRow_25 : decode cX2_takesInRow 25 = .ok (.goto 4, 3) := by decide +kernel
theorem dX2_takesInRow_28 : decode cX2_takesInRow 28 = .ok (.iconst 0, 1) := by decide +kernel
theorem dX2_takesInRow_29 : decode cX2_takesInRow 29 = .ok (.ireturn, 1) := by decide +kernel
theorem dX2_takesInRow_30 : decode cX2_takesInRow 30 = .ok (.iload_n 2, 1) := by decide +kernel
theorem dX2_takesInRow_31 : decode cX2_takesInRow 31 = .ok (.invokestatic 104, 3) := by decide +kernel
theorem dX2_takesInRow_34 : decode cX2_takesInRow 34 = .ok (.istore_n 3, 1) := by decide +kernel
theorem dX2_takesInRow_35 : decode cX2_takesInRow 35 = .ok (.iload_n 3, 1) := by decide +kernel
theorem dX2_takesInRow_36 : decode cX2_takesInRow 36 = .ok (.bipush (-9), 2) := by decide +kernel
theorem dX2_takesInRow_38 : decode cX2_takesInRow 38 = .ok (.if_icmp .eq 12, 3) := by decide +kernel
theorem dX2_takesInRow_41 : decode cX2_takesInRow 41 = .ok (.aload_n 0, 1) := by decide +kernel
theorem dX2_takesInRow_42 : decode cX2_takesInRow 42 = .ok (.getfield 37, 3) := by decide +kernel
theorem dX2_takesInRow_45 : decode cX2_takesInRow 45 = .ok (.bipush 30, 2) := by decide +kernel
theorem dX2_takesInRow_47 : decode cX2_takesInRow 47 = .ok (.if_icmp .lt 5, 3) := by decide +kernel
theorem dX2_takesInRow_50 : decode cX2_takesInRow 50 = .ok (.iconst 0, 1) := by decide +kernel
theorem dX2_takesInRow_51 : decode cX2_takesInRow 51 = .ok (.ireturn, 1) := by decide +kernel
theorem dX2_takesInRow_52 : decode cX2_takesInRow 52 = .ok (.iload_n 2, 1) := by decide +kernel
theorem dX2_takesInRow_53 : decode cX2_takesInRow 53 = .ok (.bipush 111, 2) := by decide +kernel
theorem dX2_takesInRow_55 : decode cX2_takesInRow 55 = .ok (.if_icmp .ne 36, 3) := by decide +kernel
theorem dX2_takesInRow_58 : decode cX2_takesInRow 58 = .ok (.aload_n 0, 1) := by decide +kernel
theorem dX2_takesInRow_59 : decode cX2_takesInRow 59 = .ok (.getfield 44, 3) := by decide +kernel
theorem dX2_takesInRow_62 : decode cX2_takesInRow 62 = .ok (.iconst 5, 1) := by decide +kernel
theorem dX2_takesInRow_63 : decode cX2_takesInRow 63 = .ok (.if_icmp .lt 5, 3) := by decide +kernel
theorem dX2_takesInRow_66 : decode cX2_takesInRow 66 = .ok (.iconst 0, 1) := by decide +kernel
theorem dX2_takesInRow_67 : decode cX2_takesInRow 67 = .ok (.ireturn, 1) := by decide +kernel
theorem dX2_takesInRow_68 : decode cX2_takesInRow 68 = .ok (.aload_n 0, 1) := by decide +kernel
theorem dX2_takesInRow_69 : decode cX2_takesInRow 69 = .ok (.getfield 18, 3) := by decide +kernel
theorem dX2_takesInRow_72 : decode cX2_takesInRow 72 = .ok (.aload_n 0, 1) := by decide +kernel
theorem dX2_takesInRow_73 : decode cX2_takesInRow 73 = .ok (.getfield 44, 3) := by decide +kernel
theorem dX2_takesInRow_76 : decode cX2_takesInRow 76 = .ok (.aload_n 0, 1) := by decide +kernel
theorem dX2_takesInRow_77 : decode cX2_takesInRow 77 = .ok (.getfield 37, 3) := by decide +kernel
theorem dX2_takesInRow_80 : decode cX2_takesInRow 80 = .ok (.iastore, 1) := by decide +kernel
theorem dX2_takesInRow_81 : decode cX2_takesInRow 81 = .ok (.aload_n 0, 1) := by decide +kernel
theorem dX2_takesInRow_82 : decode cX2_takesInRow 82 = .ok (.dup, 1) := by decide +kernel
theorem dX2_takesInRow_83 : decode cX2_takesInRow 83 = .ok (.getfield 44, 3) := by decide +kernel
theorem dX2_takesInRow_86 : decode cX2_takesInRow 86 = .ok (.iconst 1, 1) := by decide +kernel
theorem dX2_takesInRow_87 : decode cX2_takesInRow 87 = .ok (.iadd, 1) := by decide +kernel
theorem dX2_takesInRow_88 : decode cX2_takesInRow 88 = .ok (.putfield 44, 3) := by decide +kernel
theorem dX2_takesInRow_91 : decode cX2_takesInRow 91 = .ok (.aload_n 0, 1) := by decide +kernel
theorem dX2_takesInRow_92 : decode cX2_takesInRow 92 = .ok (.getfield 15, 3) := by decide +kernel
theorem dX2_takesInRow_95 : decode cX2_takesInRow 95 = .ok (.aload_n 0, 1) := by decide +kernel
theorem dX2_takesInRow_96 : decode cX2_takesInRow 96 = .ok (.getfield 37, 3) := by decide +kernel
theorem dX2_takesInRow_99 : decode cX2_takesInRow 99 = .ok (.iload_n 3, 1) := by decide +kernel
theorem dX2_takesInRow_100 : decode cX2_takesInRow 100 = .ok (.iastore, 1) := by decide +kernel
theorem dX2_takesInRow_101 : decode cX2_takesInRow 101 = .ok (.aload_n 0, 1) := by decide +kernel
theorem dX2_takesInRow_102 : decode cX2_takesInRow 102 = .ok (.dup, 1) := by decide +kernel
theorem dX2_takesInRow_103 : decode cX2_takesInRow 103 = .ok (.getfield 37, 3) := by decide +kernel
theorem dX2_takesInRow_106 : decode cX2_takesInRow 106 = .ok (.iconst 1, 1) := by decide +kernel
theorem dX2_takesInRow_107 : decode cX2_takesInRow 107 = .ok (.iadd, 1) := by decide +kernel
theorem dX2_takesInRow_108 : decode cX2_takesInRow 108 = .ok (.putfield 37, 3) := by decide +kernel
theorem dX2_takesInRow_111 : decode cX2_takesInRow 111 = .ok (.iconst 1, 1) := by decide +kernel
theorem dX2_takesInRow_112 : decode cX2_takesInRow 112 = .ok (.ireturn, 1) := by decide +kernel
theorem dX2_signOf_0 : decode cX2_signOf 0 = .ok (.iload_n 0, 1) := by decide +kernel
theorem dX2_signOf_1 : decode cX2_signOf 1 = .ok (.lookupswitch 49 #[(46, 43), (103, 45), (109, 47), (111, 43)], 43) := by decide +kernel
theorem dX2_signOf_44 : decode cX2_signOf 44 = .ok (.iconst 0, 1) := by decide +kernel
theorem dX2_signOf_45 : decode cX2_signOf 45 = .ok (.ireturn, 1) := by decide +kernel
theorem dX2_signOf_46 : decode cX2_signOf 46 = .ok (.iconst 1, 1) := by decide +kernel
theorem dX2_signOf_47 : decode cX2_signOf 47 = .ok (.ireturn, 1) := by decide +kernel
theorem dX2_signOf_48 : decode cX2_signOf 48 = .ok (.iconst 2, 1) := by decide +kernel
theorem dX2_signOf_49 : decode cX2_signOf 49 = .ok (.ireturn, 1) := by decide +kernel
theorem dX2_signOf_50 : decode cX2_signOf 50 = .ok (.bipush (-9), 2) := by decide +kernel
theorem dX2_signOf_52 : decode cX2_signOf 52 = .ok (.ireturn, 1) := by decide +kernel
theorem dX2_takesEater_0 : decode cX2_takesEater 0 = .ok (.aload_n 0, 1) := by decide +kernel
theorem dX2_takesEater_1 : decode cX2_takesEater 1 = .ok (.getfield 33, 3) := by decide +kernel
theorem dX2_takesEater_4 : decode cX2_takesEater 4 = .ok (.iconst 2, 1) := by decide +kernel
theorem dX2_takesEater_5 : decode cX2_takesEater 5 = .ok (.if_icmp .lt 5, 3) := by decide +kernel
theorem dX2_takesEater_8 : decode cX2_takesEater 8 = .ok (.iconst 0, 1) := by decide +kernel
theorem dX2_takesEater_9 : decode cX2_takesEater 9 = .ok (.ireturn, 1) := by decide +kernel
theorem dX2_takesEater_10 : decode cX2_takesEater 10 = .ok (.iload_n 1, 1) := by decide +kernel
theorem dX2_takesEater_11 : decode cX2_takesEater 11 = .ok (.iconst 3, 1) := by decide +kernel
theorem dX2_takesEater_12 : decode cX2_takesEater 12 = .ok (.irem, 1) := by decide +kernel
theorem dX2_takesEater_13 : decode cX2_takesEater 13 = .ok (.lookupswitch 73 #[(0, 27), (1, 39)], 27) := by decide +kernel
theorem dX2_takesEater_40 : decode cX2_takesEater 40 = .ok (.iload_n 2, 1) := by decide +kernel
theorem dX2_takesEater_41 : decode cX2_takesEater 41 = .ok (.bipush 59, 2) := by decide +kernel
theorem dX2_takesEater_43 : decode cX2_takesEater 43 = .ok (.if_icmp .ne 7, 3) := by decide +kernel
theorem dX2_takesEater_46 : decode cX2_takesEater 46 = .ok (.iconst 1, 1) := by decide +kernel
theorem dX2_takesEater_47 : decode cX2_takesEater 47 = .ok (.goto 4, 3) := by decide +kernel
theorem dX2_takesEater_50 : decode cX2_takesEater 50 = .ok (.iconst 0, 1) := by decide +kernel
theorem dX2_takesEater_51 : decode cX2_takesEater 51 = .ok (.ireturn, 1) := by decide +kernel
theorem dX2_takesEater_52 : decode cX2_takesEater 52 = .ok (.aload_n 0, 1) := by decide +kernel
theorem dX2_takesEater_53 : decode cX2_takesEater 53 = .ok (.getfield 27, 3) := by decide +kernel
theorem dX2_takesEater_56 : decode cX2_takesEater 56 = .ok (.aload_n 0, 1) := by decide +kernel
theorem dX2_takesEater_57 : decode cX2_takesEater 57 = .ok (.getfield 33, 3) := by decide +kernel
theorem dX2_takesEater_60 : decode cX2_takesEater 60 = .ok (.iload_n 2, 1) := by decide +kernel
theorem dX2_takesEater_61 : decode cX2_takesEater 61 = .ok (.iastore, 1) := by decide +kernel
theorem dX2_takesEater_62 : decode cX2_takesEater 62 = .ok (.iload_n 2, 1) := by decide +kernel
theorem dX2_takesEater_63 : decode cX2_takesEater 63 = .ok (.bipush 102, 2) := by decide +kernel
theorem dX2_takesEater_65 : decode cX2_takesEater 65 = .ok (.if_icmp .eq 15, 3) := by decide +kernel
theorem dX2_takesEater_68 : decode cX2_takesEater 68 = .ok (.iload_n 2, 1) := by decide +kernel
theorem dX2_takesEater_69 : decode cX2_takesEater 69 = .ok (.bipush 107, 2) := by decide +kernel
theorem dX2_takesEater_71 : decode cX2_takesEater 71 = .ok (.if_icmp .eq 9, 3) := by decide +kernel
theorem dX2_takesEater_74 : decode cX2_takesEater 74 = .ok (.iload_n 2, 1) := by decide +kernel
theorem dX2_takesEater_75 : decode cX2_takesEater 75 = .ok (.bipush 115, 2) := by decide +kernel
theorem dX2_takesEater_77 : decode cX2_takesEater 77 = .ok (.if_icmp .ne 7, 3) := by decide +kernel
theorem dX2_takesEater_80 : decode cX2_takesEater 80 = .ok (.iconst 1, 1) := by decide +kernel
theorem dX2_takesEater_81 : decode cX2_takesEater 81 = .ok (.goto 4, 3) := by decide +kernel
theorem dX2_takesEater_84 : decode cX2_takesEater 84 = .ok (.iconst 0, 1) := by decide +kernel
theorem dX2_takesEater_85 : decode cX2_takesEater 85 = .ok (.ireturn, 1) := by decide +kernel
theorem dX2_takesEater_86 : decode cX2_takesEater 86 = .ok (.aload_n 0, 1) := by decide +kernel
theorem dX2_takesEater_87 : decode cX2_takesEater 87 = .ok (.iload_n 2, 1) := by decide +kernel
theorem dX2_takesEater_88 : decode cX2_takesEater 88 = .ok (.bipush 48, 2) := by decide +kernel
theorem dX2_takesEater_90 : decode cX2_takesEater 90 = .ok (.isub, 1) := by decide +kernel
theorem dX2_takesEater_91 : decode cX2_takesEater 91 = .ok (.invokevirtual 107, 3) := by decide +kernel
theorem dX2_takesEater_94 : decode cX2_takesEater 94 = .ok (.ireturn, 1) := by decide +kernel
theorem dX2_takesStrength_0 : decode cX2_takesStrength 0 = .ok (.aload_n 0, 1) := by decide +kernel
theorem dX2_takesStrength_1 : decode cX2_takesStrength 1 = .ok (.getfield 33, 3) := by decide +kernel
theorem dX2_takesStrength_4 : decode cX2_takesStrength 4 = .ok (.iconst 2, 1) := by decide +kernel
theorem dX2_takesStrength_5 : decode cX2_takesStrength 5 = .ok (.if_icmp .ge 13, 3) := by decide +kernel
theorem dX2_takesStrength_8 : decode cX2_takesStrength 8 = .ok (.iload_n 1, 1) := by decide +kernel
theorem dX2_takesStrength_9 : decode cX2_takesStrength 9 = .ok (.iconst 1, 1) := by decide +kernel
theorem dX2_takesStrength_10 : decode cX2_takesStrength 10 = .ok (.if_icmp .lt 8, 3) := by decide +kernel
theorem dX2_takesStrength_13 : decode cX2_takesStrength 13 = .ok (.iload_n 1, 1) := by decide +kernel
theorem dX2_takesStrength_14 : decode cX2_takesStrength 14 = .ok (.iconst 4, 1) := by decide +kernel
theorem dX2_takesStrength_15 : decode cX2_takesStrength 15 = .ok (.if_icmp .le 5, 3) := by decide +kernel
theorem dX2_takesStrength_18 : decode cX2_takesStrength 18 = .ok (.iconst 0, 1) := by decide +kernel
theorem dX2_takesStrength_19 : decode cX2_takesStrength 19 = .ok (.ireturn, 1) := by decide +kernel
theorem dX2_takesStrength_20 : decode cX2_takesStrength 20 = .ok (.aload_n 0, 1) := by decide +kernel
theorem dX2_takesStrength_21 : decode cX2_takesStrength 21 = .ok (.getfield 30, 3) := by decide +kernel
theorem dX2_takesStrength_24 : decode cX2_takesStrength 24 = .ok (.aload_n 0, 1) := by decide +kernel
theorem dX2_takesStrength_25 : decode cX2_takesStrength 25 = .ok (.getfield 33, 3) := by decide +kernel
theorem dX2_takesStrength_28 : decode cX2_takesStrength 28 = .ok (.iload_n 1, 1) := by decide +kernel
theorem dX2_takesStrength_29 : decode cX2_takesStrength 29 = .ok (.iastore, 1) := by decide +kernel
theorem dX2_takesStrength_30 : decode cX2_takesStrength 30 = .ok (.aload_n 0, 1) := by decide +kernel
theorem dX2_takesStrength_31 : decode cX2_takesStrength 31 = .ok (.dup, 1) := by decide +kernel
theorem dX2_takesStrength_32 : decode cX2_takesStrength 32 = .ok (.getfield 33, 3) := by decide +kernel
theorem dX2_takesStrength_35 : decode cX2_takesStrength 35 = .ok (.iconst 1, 1) := by decide +kernel
theorem dX2_takesStrength_36 : decode cX2_takesStrength 36 = .ok (.iadd, 1) := by decide +kernel
theorem dX2_takesStrength_37 : decode cX2_takesStrength 37 = .ok (.putfield 33, 3) := by decide +kernel
theorem dX2_takesStrength_40 : decode cX2_takesStrength 40 = .ok (.iconst 1, 1) := by decide +kernel
theorem dX2_takesStrength_41 : decode cX2_takesStrength 41 = .ok (.ireturn, 1) := by decide +kernel
theorem dX2_eaterByLetter_0 : decode cX2_eaterByLetter 0 = .ok (.iload_n 0, 1) := by decide +kernel
theorem dX2_eaterByLetter_1 : decode cX2_eaterByLetter 1 = .ok (.lookupswitch 47 #[(107, 27), (115, 37)], 27) := by decide +kernel
theorem dX2_eaterByLetter_28 : decode cX2_eaterByLetter 28 = .ok (.new 110, 3) := by decide +kernel
theorem dX2_eaterByLetter_31 : decode cX2_eaterByLetter 31 = .ok (.dup, 1) := by decide +kernel
theorem dX2_eaterByLetter_32 : decode cX2_eaterByLetter 32 = .ok (.iload_n 1, 1) := by decide +kernel
theorem dX2_eaterByLetter_33 : decode cX2_eaterByLetter 33 = .ok (.iload_n 2, 1) := by decide +kernel
theorem dX2_eaterByLetter_34 : decode cX2_eaterByLetter 34 = .ok (.invokespecial 112, 3) := by decide +kernel
theorem dX2_eaterByLetter_37 : decode cX2_eaterByLetter 37 = .ok (.areturn, 1) := by decide +kernel
theorem dX2_eaterByLetter_38 : decode cX2_eaterByLetter 38 = .ok (.new 115, 3) := by decide +kernel
theorem dX2_eaterByLetter_41 : decode cX2_eaterByLetter 41 = .ok (.dup, 1) := by decide +kernel
theorem dX2_eaterByLetter_42 : decode cX2_eaterByLetter 42 = .ok (.iload_n 1, 1) := by decide +kernel
theorem dX2_eaterByLetter_43 : decode cX2_eaterByLetter 43 = .ok (.iload_n 2, 1) := by decide +kernel
theorem dX2_eaterByLetter_44 : decode cX2_eaterByLetter 44 = .ok (.invokespecial 117, 3) := by decide +kernel
theorem dX2_eaterByLetter_47 : decode cX2_eaterByLetter 47 = .ok (.areturn, 1) := by decide +kernel
theorem dX2_eaterByLetter_48 : decode cX2_eaterByLetter 48 = .ok (.new 21, 3) := by decide +kernel
theorem dX2_eaterByLetter_51 : decode cX2_eaterByLetter 51 = .ok (.dup, 1) := by decide +kernel
theorem dX2_eaterByLetter_52 : decode cX2_eaterByLetter 52 = .ok (.iload_n 1, 1) := by decide +kernel
theorem dX2_eaterByLetter_53 : decode cX2_eaterByLetter 53 = .ok (.iload_n 2, 1) := by decide +kernel
theorem dX2_eaterByLetter_54 : decode cX2_eaterByLetter 54 = .ok (.invokespecial 118, 3) := by decide +kernel
theorem dX2_eaterByLetter_57 : decode cX2_eaterByLetter 57 = .ok (.areturn, 1) := by decide +kernel
theorem dX2_listCodes_0 : decode cX2_listCodes 0 = .ok (.iconst 0, 1) := by decide +kernel
theorem dX2_listCodes_1 : decode cX2_listCodes 1 = .ok (.istore_n 1, 1) := by decide +kernel
theorem dX2_listCodes_2 : decode cX2_listCodes 2 = .ok (.iload_n 1, 1) := by decide +kernel
theorem dX2_listCodes_3 : decode cX2_listCodes 3 = .ok (.aload_n 0, 1) := by decide +kernel
theorem dX2_listCodes_4 : decode cX2_listCodes 4 = .ok (.getfield 33, 3) := by decide +kernel
theorem dX2_listCodes_7 : decode cX2_listCodes 7 = .ok (.if_icmp .ge 72, 3) := by decide +kernel
theorem dX2_listCodes_10 : decode cX2_listCodes 10 = .ok (.iconst 0, 1) := by decide +kernel
theorem dX2_listCodes_11 : decode cX2_listCodes 11 = .ok (.istore_n 2, 1) := by decide +kernel
theorem dX2_listCodes_12 : decode cX2_listCodes 12 = .ok (.iload_n 2, 1) := by decide +kernel
theorem dX2_listCodes_13 : decode cX2_listCodes 13 = .ok (.aload_n 0, 1) := by decide +kernel
theorem dX2_listCodes_14 : decode cX2_listCodes 14 = .ok (.getfield 44, 3) := by decide +kernel
theorem dX2_listCodes_17 : decode cX2_listCodes 17 = .ok (.if_icmp .ge 56, 3) := by decide +kernel
theorem dX2_listCodes_20 : decode cX2_listCodes 20 = .ok (.iconst 0, 1) := by decide +kernel
theorem dX2_listCodes_21 : decode cX2_listCodes 21 = .ok (.istore_n 3, 1) := by decide +kernel
theorem dX2_listCodes_22 : decode cX2_listCodes 22 = .ok (.iload_n 3, 1) := by decide +kernel
theorem dX2_listCodes_23 : decode cX2_listCodes 23 = .ok (.iconst 4, 1) := by decide +kernel
theorem dX2_listCodes_24 : decode cX2_listCodes 24 = .ok (.if_icmp .ge 43, 3) := by decide +kernel
theorem dX2_listCodes_27 : decode cX2_listCodes 27 = .ok (.aload_n 0, 1) := by decide +kernel
theorem dX2_listCodes_28 : decode cX2_listCodes 28 = .ok (.getfield 92, 3) := by decide +kernel
theorem dX2_listCodes_31 : decode cX2_listCodes 31 = .ok (.bipush 40, 2) := by decide +kernel
theorem dX2_listCodes_33 : decode cX2_listCodes 33 = .ok (.if_icmp .ge 34, 3) := by decide +kernel
theorem dX2_listCodes_36 : decode cX2_listCodes 36 = .ok (.aload_n 0, 1) := by decide +kernel
theorem dX2_listCodes_37 : decode cX2_listCodes 37 = .ok (.getfield 9, 3) := by decide +kernel
theorem dX2_listCodes_40 : decode cX2_listCodes 40 = .ok (.aload_n 0, 1) := by decide +kernel
theorem dX2_listCodes_41 : decode cX2_listCodes 41 = .ok (.getfield 92, 3) := by decide +kernel
theorem dX2_listCodes_44 : decode cX2_listCodes 44 = .ok (.iload_n 1, 1) := by decide +kernel
theorem dX2_listCodes_45 : decode cX2_listCodes 45 = .ok (.iload_n 2, 1) := by decide +kernel
theorem dX2_listCodes_46 : decode cX2_listCodes 46 = .ok (.iload_n 3, 1) := by decide +kernel
theorem dX2_listCodes_47 : decode cX2_listCodes 47 = .ok (.invokestatic 119, 3) := by decide +kernel
theorem dX2_listCodes_50 : decode cX2_listCodes 50 = .ok (.iastore, 1) := by decide +kernel
theorem dX2_listCodes_51 : decode cX2_listCodes 51 = .ok (.aload_n 0, 1) := by decide +kernel
theorem dX2_listCodes_52 : decode cX2_listCodes 52 = .ok (.dup, 1) := by decide +kernel
theorem dX2_listCodes_53 : decode cX2_listCodes 53 = .ok (.getfield 92, 3) := by decide +kernel
theorem dX2_listCodes_56 : decode cX2_listCodes 56 = .ok (.iconst 1, 1) := by decide +kernel
theorem dX2_listCodes_57 : decode cX2_listCodes 57 = .ok (.iadd, 1) := by decide +kernel
theorem dX2_listCodes_58 : decode cX2_listCodes 58 = .ok (.putfield 92, 3) := by decide +kernel
theorem dX2_listCodes_61 : decode cX2_listCodes 61 = .ok (.iinc 3 1, 3) := by decide +kernel
theorem dX2_listCodes_64 : decode cX2_listCodes 64 = .ok (.goto (-42), 3) := by decide +kernel
theorem dX2_listCodes_67 : decode cX2_listCodes 67 = .ok (.iinc 2 1, 3) := by decide +kernel
theorem dX2_listCodes_70 : decode cX2_listCodes 70 = .ok (.goto (-58), 3) := by decide +kernel
theorem dX2_listCodes_73 : decode cX2_listCodes 73 = .ok (.iinc 1 1, 3) := by decide +kernel
theorem dX2_listCodes_76 : decode cX2_listCodes 76 = .ok (.goto (-74), 3) := by decide +kernel
theorem dX2_listCodes_79 : decode cX2_listCodes 79 = .ok (.return_, 1) := by decide +kernel
theorem dX3_init_0 : decode cX3_init 0 = .ok (.aload_n 0, 1) := by decide +kernel
theorem dX3_init_1 : decode cX3_init 1 = .ok (.invokespecial 3, 3) := by decide +kernel
theorem dX3_init_4 : decode cX3_init 4 = .ok (.aload_n 0, 1) := by decide +kernel
theorem dX3_init_5 : decode cX3_init 5 = .ok (.iconst 3, 1) := by decide +kernel
theorem dX3_init_6 : decode cX3_init 6 = .ok (.anewarray 9, 3) := by decide +kernel
theorem dX3_init_9 : decode cX3_init 9 = .ok (.putfield 11, 3) := by decide +kernel
theorem dX3_init_12 : decode cX3_init 12 = .ok (.aload_n 0, 1) := by decide +kernel
theorem dX3_init_13 : decode cX3_init 13 = .ok (.iconst 3, 1) := by decide +kernel
theorem dX3_init_14 : decode cX3_init 14 = .ok (.newarray .int, 2) := by decide +kernel
theorem dX3_init_16 : decode cX3_init 16 = .ok (.putfield 17, 3) := by decide +kernel
theorem dX3_init_19 : decode cX3_init 19 = .ok (.iconst 0, 1) := by decide +kernel
theorem dX3_init_20 : decode cX3_init 20 = .ok (.istore_n 2, 1) := by decide +kernel
theorem dX3_init_21 : decode cX3_init 21 = .ok (.iload_n 2, 1) := by decide +kernel
theorem dX3_init_22 : decode cX3_init 22 = .ok (.iconst 3, 1) := by decide +kernel
theorem dX3_init_23 : decode cX3_init 23 = .ok (.if_icmp .ge 23, 3) := by decide +kernel
theorem dX3_init_26 : decode cX3_init 26 = .ok (.aload_n 0, 1) := by decide +kernel
theorem dX3_init_27 : decode cX3_init 27 = .ok (.getfield 11, 3) := by decide +kernel
theorem dX3_init_30 : decode cX3_init 30 = .ok (.iload_n 2, 1) := by decide +kernel
theorem dX3_init_31 : decode cX3_init 31 = .ok (.new 9, 3) := by decide +kernel
theorem dX3_init_34 : decode cX3_init 34 = .ok (.dup, 1) := by decide +kernel
theorem dX3_init_35 : decode cX3_init 35 = .ok (.aload_n 1, 1) := by decide +kernel
theorem dX3_init_36 : decode cX3_init 36 = .ok (.invokespecial 21, 3) := by decide +kernel
theorem dX3_init_39 : decode cX3_init 39 = .ok (.aastore, 1) := by decide +kernel
theorem dX3_init_40 : decode cX3_init 40 = .ok (.iinc 2 1, 3) := by decide +kernel
theorem dX3_init_43 : decode cX3_init 43 = .ok (.goto (-22), 3) := by decide +kernel
theorem dX3_init_46 : decode cX3_init 46 = .ok (.return_, 1) := by decide +kernel
theorem dX3_stepsOn_0 : decode cX3_stepsOn 0 = .ok (.iload_n 1, 1) := by decide +kernel
theorem dX3_stepsOn_1 : decode cX3_stepsOn 1 = .ok (.iconst 2, 1) := by decide +kernel
theorem dX3_stepsOn_2 : decode cX3_stepsOn 2 = .ok (.invokestatic 24, 3) := by decide +kernel
theorem dX3_stepsOn_5 : decode cX3_stepsOn 5 = .ok (.ifCond .eq 19, 3) := by decide +kernel
theorem dX3_stepsOn_8 : decode cX3_stepsOn 8 = .ok (.aload_n 0, 1) := by decide +kernel
theorem dX3_stepsOn_9 : decode cX3_stepsOn 9 = .ok (.getfield 11, 3) := by decide +kernel
theorem dX3_stepsOn_12 : decode cX3_stepsOn 12 = .ok (.iload_n 1, 1) := by decide +kernel
theorem dX3_stepsOn_13 : decode cX3_stepsOn 13 = .ok (.aaload, 1) := by decide +kernel
theorem dX3_stepsOn_14 : decode cX3_stepsOn 14 = .ok (.iload_n 2, 1) := by decide +kernel
theorem dX3_stepsOn_15 : decode cX3_stepsOn 15 = .ok (.invokestatic 28, 3) := by decide +kernel
theorem dX3_stepsOn_18 : decode cX3_stepsOn 18 = .ok (.invokevirtual 32, 3) := by decide +kernel
theorem dX3_stepsOn_21 : decode cX3_stepsOn 21 = .ok (.ifCond .ne 5, 3) := by decide +kernel
theorem dX3_stepsOn_24 : decode cX3_stepsOn 24 = .ok (.iconst 0, 1) := by decide +kernel
theorem dX3_stepsOn_25 : decode cX3_stepsOn 25 = .ok (.ireturn, 1) := by decide +kernel
theorem dX3_stepsOn_26 : decode cX3_stepsOn 26 = .ok (.aload_n 0, 1) := by decide +kernel
theorem dX3_stepsOn_27 : decode cX3_stepsOn 27 = .ok (.getfield 11, 3) := by decide +kernel
theorem dX3_stepsOn_30 : decode cX3_stepsOn 30 = .ok (.iload_n 1, 1) := by decide +kernel
theorem dX3_stepsOn_31 : decode cX3_stepsOn 31 = .ok (.iconst 1, 1) := by decide +kernel
theorem dX3_stepsOn_32 : decode cX3_stepsOn 32 = .ok (.iadd, 1) := by decide +kernel
theorem dX3_stepsOn_33 : decode cX3_stepsOn 33 = .ok (.aaload, 1) := by decide +kernel
theorem dX3_stepsOn_34 : decode cX3_stepsOn 34 = .ok (.aload_n 0, 1) := by decide +kernel
theorem dX3_stepsOn_35 : decode cX3_stepsOn 35 = .ok (.getfield 11, 3) := by decide +kernel
theorem dX3_stepsOn_38 : decode cX3_stepsOn 38 = .ok (.iload_n 1, 1) := by decide +kernel
theorem dX3_stepsOn_39 : decode cX3_stepsOn 39 = .ok (.aaload, 1) := by decide +kernel
theorem dX3_stepsOn_40 : decode cX3_stepsOn 40 = .ok (.invokevirtual 36, 3) := by decide +kernel
theorem dX3_stepsOn_43 : decode cX3_stepsOn 43 = .ok (.aload_n 0, 1) := by decide +kernel
theorem dX3_stepsOn_44 : decode cX3_stepsOn 44 = .ok (.getfield 11, 3) := by decide +kernel
theorem dX3_stepsOn_47 : decode cX3_stepsOn 47 = .ok (.iload_n 1, 1) := by decide +kernel
theorem dX3_stepsOn_48 : decode cX3_stepsOn 48 = .ok (.iconst 1, 1) := by decide +kernel
theorem dX3_stepsOn_49 : decode cX3_stepsOn 49 = .ok (.iadd, 1) := by decide +kernel
theorem dX3_stepsOn_50 : decode cX3_stepsOn 50 = .ok (.aaload, 1) := by decide +kernel
theorem dX3_stepsOn_51 : decode cX3_stepsOn 51 = .ok (.iload_n 2, 1) := by decide +kernel
theorem dX3_stepsOn_52 : decode cX3_stepsOn 52 = .ok (.invokevirtual 40, 3) := by decide +kernel
theorem dX3_stepsOn_55 : decode cX3_stepsOn 55 = .ok (.iconst 1, 1) := by decide +kernel
theorem dX3_stepsOn_56 : decode cX3_stepsOn 56 = .ok (.ireturn, 1) := by decide +kernel
theorem dX4_init_0 : decode cX4_init 0 = .ok (.aload_n 0, 1) := by decide +kernel
theorem dX4_init_1 : decode cX4_init 1 = .ok (.invokespecial 3, 3) := by decide +kernel
theorem dX4_init_4 : decode cX4_init 4 = .ok (.aload_n 0, 1) := by decide +kernel
theorem dX4_init_5 : decode cX4_init 5 = .ok (.bipush 60, 2) := by decide +kernel
theorem dX4_init_7 : decode cX4_init 7 = .ok (.newarray .int, 2) := by decide +kernel
theorem dX4_init_9 : decode cX4_init 9 = .ok (.putfield 9, 3) := by decide +kernel
theorem dX4_init_12 : decode cX4_init 12 = .ok (.aload_n 0, 1) := by decide +kernel
theorem dX4_init_13 : decode cX4_init 13 = .ok (.iconst (-1), 1) := by decide +kernel
theorem dX4_init_14 : decode cX4_init 14 = .ok (.putfield 15, 3) := by decide +kernel
theorem dX4_init_17 : decode cX4_init 17 = .ok (.return_, 1) := by decide +kernel
theorem dX4_isNothing_0 : decode cX4_isNothing 0 = .ok (.aload_n 0, 1) := by decide +kernel
theorem dX4_isNothing_1 : decode cX4_isNothing 1 = .ok (.getfield 15, 3) := by decide +kernel
theorem dX4_isNothing_4 : decode cX4_isNothing 4 = .ok (.iconst (-1), 1) := by decide +kernel
theorem dX4_isNothing_5 : decode cX4_isNothing 5 = .ok (.if_icmp .ne 7, 3) := by decide +kernel
theorem dX4_isNothing_8 : decode cX4_isNothing 8 = .ok (.iconst 1, 1) := by decide +kernel
theorem dX4_isNothing_9 : decode cX4_isNothing 9 = .ok (.goto 4, 3) := by decide +kernel
theorem dX4_isNothing_12 : decode cX4_isNothing 12 = .ok (.iconst 0, 1) := by decide +kernel
theorem dX4_isNothing_13 : decode cX4_isNothing 13 = .ok (.ireturn, 1) := by decide +kernel
theorem dX4_begin_0 : decode cX4_begin 0 = .ok (.aload_n 0, 1) := by decide +kernel
theorem dX4_begin_1 : decode cX4_begin 1 = .ok (.iload_n 1, 1) := by decide +kernel
theorem dX4_begin_2 : decode cX4_begin 2 = .ok (.putfield 19, 3) := by decide +kernel
theorem dX4_begin_5 : decode cX4_begin 5 = .ok (.aload_n 0, 1) := by decide +kernel
theorem dX4_begin_6 : decode cX4_begin 6 = .ok (.iload_n 2, 1) := by decide +kernel
theorem dX4_begin_7 : decode cX4_begin 7 = .ok (.bipush 60, 2) := by decide +kernel
theorem dX4_begin_9 : decode cX4_begin 9 = .ok (.invokestatic 22, 3) := by decide +kernel
theorem dX4_begin_12 : decode cX4_begin 12 = .ok (.putfield 15, 3) := by decide +kernel
theorem dX4_begin_15 : decode cX4_begin 15 = .ok (.aload_n 0, 1) := by decide +kernel
theorem dX4_begin_16 : decode cX4_begin 16 = .ok (.getfield 9, 3) := by decide +kernel
theorem dX4_begin_19 : decode cX4_begin 19 = .ok (.iconst 0, 1) := by decide +kernel
theorem dX4_begin_20 : decode cX4_begin 20 = .ok (.invokestatic 28, 3) := by decide +kernel
theorem dX4_begin_23 : decode cX4_begin 23 = .ok (.return_, 1) := by decide +kernel
theorem dX4_drop_0 : decode cX4_drop 0 = .ok (.aload_n 0, 1) := by decide +kernel
theorem dX4_drop_1 : decode cX4_drop 1 = .ok (.iconst (-1), 1) := by decide +kernel
theorem dX4_drop_2 : decode cX4_drop 2 = .ok (.putfield 15, 3) := by decide +kernel
theorem dX4_drop_5 : decode cX4_drop 5 = .ok (.return_, 1) := by decide +kernel
theorem dX4_hasCell_0 : decode cX4_hasCell 0 = .ok (.iload_n 1, 1) := by decide +kernel
theorem dX4_hasCell_1 : decode cX4_hasCell 1 = .ok (.aload_n 0, 1) := by decide +kernel
theorem dX4_hasCell_2 : decode cX4_hasCell 2 = .ok (.getfield 15, 3) := by decide +kernel
theorem dX4_hasCell_5 : decode cX4_hasCell 5 = .ok (.invokestatic 34, 3) := by decide +kernel
theorem dX4_hasCell_8 : decode cX4_hasCell 8 = .ok (.ireturn, 1) := by decide +kernel
theorem dX4_hasCells_0 : decode cX4_hasCells 0 = .ok (.iload_n 1, 1) := by decide +kernel
theorem dX4_hasCells_1 : decode cX4_hasCells 1 = .ok (.ifCond .lt 29, 3) := by decide +kernel
theorem dX4_hasCells_4 : decode cX4_hasCells 4 = .ok (.iload_n 2, 1) := by decide +kernel
theorem dX4_hasCells_5 : decode cX4_hasCells 5 = .ok (.ifCond .lt 25, 3) := by decide +kernel
theorem dX4_hasCells_8 : decode cX4_hasCells 8 = .ok (.iload_n 1, 1) := by decide +kernel
theorem dX4_hasCells_9 : decode cX4_hasCells 9 = .ok (.aload_n 0, 1) := by decide +kernel
theorem dX4_hasCells_10 : decode cX4_hasCells 10 = .ok (.getfield 15, 3) := by decide +kernel
theorem dX4_hasCells_13 : decode cX4_hasCells 13 = .ok (.if_icmp .gt 17, 3) := by decide +kernel
theorem dX4_hasCells_16 : decode cX4_hasCells 16 = .ok (.iload_n 2, 1) := by decide +kernel
theorem dX4_hasCells_17 : decode cX4_hasCells 17 = .ok (.aload_n 0, 1) := by decide +kernel
theorem dX4_hasCells_18 : decode cX4_hasCells 18 = .ok (.getfield 15, 3) := by decide +kernel
theorem dX4_hasCells_21 : decode cX4_hasCells 21 = .ok (.iload_n 1, 1) := by decide +kernel
theorem dX4_hasCells_22 : decode cX4_hasCells 22 = .ok (.isub, 1) := by decide +kernel
theorem dX4_hasCells_23 : decode cX4_hasCells 23 = .ok (.if_icmp .gt 7, 3) := by decide +kernel
theorem dX4_hasCells_26 : decode cX4_hasCells 26 = .ok (.iconst 1, 1) := by decide +kernel
theorem dX4_hasCells_27 : decode cX4_hasCells 27 = .ok (.goto 4, 3) := by decide +kernel
theorem dX4_hasCells_30 : decode cX4_hasCells 30 = .ok (.iconst 0, 1) := by decide +kernel
theorem dX4_hasCells_31 : decode cX4_hasCells 31 = .ok (.ireturn, 1) := by decide +kernel
theorem dX4_read_0 : decode cX4_read 0 = .ok (.aload_n 0, 1) := by decide +kernel
theorem dX4_read_1 : decode cX4_read 1 = .ok (.iload_n 1, 1) := by decide +kernel
theorem dX4_read_2 : decode cX4_read 2 = .ok (.invokevirtual 38, 3) := by decide +kernel
theorem dX4_read_5 : decode cX4_read 5 = .ok (.ifCond .eq 12, 3) := by decide +kernel
theorem dX4_read_8 : decode cX4_read 8 = .ok (.aload_n 0, 1) := by decide +kernel
theorem dX4_read_9 : decode cX4_read 9 = .ok (.getfield 9, 3) := by decide +kernel
theorem dX4_read_12 : decode cX4_read 12 = .ok (.iload_n 1, 1) := by decide +kernel
theorem dX4_read_13 : decode cX4_read 13 = .ok (.iaload, 1) := by decide +kernel
theorem dX4_read_14 : decode cX4_read 14 = .ok (.goto 4, 3) := by decide +kernel
theorem dX4_read_17 : decode cX4_read 17 = .ok (.iconst 0, 1) := by decide +kernel
theorem dX4_read_18 : decode cX4_read 18 = .ok (.ireturn, 1) := by decide +kernel
theorem dX4_write_0 : decode cX4_write 0 = .ok (.aload_n 0, 1) := by decide +kernel
theorem dX4_write_1 : decode cX4_write 1 = .ok (.iload_n 1, 1) := by decide +kernel
theorem dX4_write_2 : decode cX4_write 2 = .ok (.invokevirtual 38, 3) := by decide +kernel
theorem dX4_write_5 : decode cX4_write 5 = .ok (.ifCond .eq 14, 3) := by decide +kernel
theorem dX4_write_8 : decode cX4_write 8 = .ok (.aload_n 0, 1) := by decide +kernel
theorem dX4_write_9 : decode cX4_write 9 = .ok (.getfield 9, 3) := by decide +kernel
theorem dX4_write_12 : decode cX4_write 12 = .ok (.iload_n 1, 1) := by decide +kernel
theorem dX4_write_13 : decode cX4_write 13 = .ok (.aload_n 0, 1) := by decide +kernel
theorem dX4_write_14 : decode cX4_write 14 = .ok (.iload_n 2, 1) := by decide +kernel
theorem dX4_write_15 : decode cX4_write 15 = .ok (.invokevirtual 42, 3) := by decide +kernel
theorem dX4_write_18 : decode cX4_write 18 = .ok (.iastore, 1) := by decide +kernel
theorem dX4_write_19 : decode cX4_write 19 = .ok (.return_, 1) := by decide +kernel
theorem dX4_cut_0 : decode cX4_cut 0 = .ok (.aload_n 0, 1) := by decide +kernel
theorem dX4_cut_1 : decode cX4_cut 1 = .ok (.getfield 19, 3) := by decide +kernel
theorem dX4_cut_4 : decode cX4_cut 4 = .ok (.lookupswitch 34 #[(0, 28), (1, 31)], 28) := by decide +kernel
theorem dX4_cut_32 : decode cX4_cut 32 = .ok (.iload_n 1, 1) := by decide +kernel
theorem dX4_cut_33 : decode cX4_cut 33 = .ok (.i2b, 1) := by decide +kernel
theorem dX4_cut_34 : decode cX4_cut 34 = .ok (.ireturn, 1) := by decide +kernel
theorem dX4_cut_35 : decode cX4_cut 35 = .ok (.iload_n 1, 1) := by decide +kernel
theorem dX4_cut_36 : decode cX4_cut 36 = .ok (.i2s, 1) := by decide +kernel
theorem dX4_cut_37 : decode cX4_cut 37 = .ok (.ireturn, 1) := by decide +kernel
theorem dX4_cut_38 : decode cX4_cut 38 = .ok (.iload_n 1, 1) := by decide +kernel
theorem dX4_cut_39 : decode cX4_cut 39 = .ok (.ireturn, 1) := by decide +kernel
theorem dX4_faultOfLane_0 : decode cX4_faultOfLane 0 = .ok (.aload_n 0, 1) := by decide +kernel
theorem dX4_faultOfLane_1 : decode cX4_faultOfLane 1 = .ok (.invokevirtual 46, 3) := by decide +kernel
theorem dX4_faultOfLane_4 : decode cX4_faultOfLane 4 = .ok (.ifCond .eq 5, 3) := by decide +kernel
theorem dX4_faultOfLane_7 : decode cX4_faultOfLane 7 = .ok (.iconst 1, 1) := by decide +kernel
theorem dX4_faultOfLane_8 : decode cX4_faultOfLane 8 = .ok (.ireturn, 1) := by decide +kernel
theorem dX4_faultOfLane_9 : decode cX4_faultOfLane 9 = .ok (.aload_n 0, 1) := by decide +kernel
theorem dX4_faultOfLane_10 : decode cX4_faultOfLane 10 = .ok (.getfield 19, 3) := by decide +kernel
theorem dX4_faultOfLane_13 : decode cX4_faultOfLane 13 = .ok (.iload_n 1, 1) := by decide +kernel
theorem dX4_faultOfLane_14 : decode cX4_faultOfLane 14 = .ok (.if_icmp .ne 7, 3) := by decide +kernel
theorem dX4_faultOfLane_17 : decode cX4_faultOfLane 17 = .ok (.iconst 0, 1) := by decide +kernel
theorem dX4_faultOfLane_18 : decode cX4_faultOfLane 18 = .ok (.goto 4, 3) := by decide +kernel
theorem dX4_faultOfLane_21 : decode cX4_faultOfLane 21 = .ok (.iconst 2, 1) := by decide +kernel
theorem dX4_faultOfLane_22 : decode cX4_faultOfLane 22 = .ok (.ireturn, 1) := by decide +kernel
theorem dX4_faultOfCell_0 : decode cX4_faultOfCell 0 = .ok (.aload_n 0, 1) := by decide +kernel
theorem dX4_faultOfCell_1 : decode cX4_faultOfCell 1 = .ok (.iload_n 1, 1) := by decide +kernel
theorem dX4_faultOfCell_2 : decode cX4_faultOfCell 2 = .ok (.invokevirtual 50, 3) := by decide +kernel
theorem dX4_faultOfCell_5 : decode cX4_faultOfCell 5 = .ok (.istore_n 3, 1) := by decide +kernel
theorem dX4_faultOfCell_6 : decode cX4_faultOfCell 6 = .ok (.iload_n 3, 1) := by decide +kernel
theorem dX4_faultOfCell_7 : decode cX4_faultOfCell 7 = .ok (.ifCond .eq 5, 3) := by decide +kernel
theorem dX4_faultOfCell_10 : decode cX4_faultOfCell 10 = .ok (.iload_n 3, 1) := by decide +kernel
theorem dX4_faultOfCell_11 : decode cX4_faultOfCell 11 = .ok (.ireturn, 1) := by decide +kernel
theorem dX4_faultOfCell_12 : decode cX4_faultOfCell 12 = .ok (.aload_n 0, 1) := by decide +kernel
theorem dX4_faultOfCell_13 : decode cX4_faultOfCell 13 = .ok (.iload_n 2, 1) := by decide +kernel
theorem dX4_faultOfCell_14 : decode cX4_faultOfCell 14 = .ok (.invokevirtual 38, 3) := by decide +kernel
theorem dX4_faultOfCell_17 : decode cX4_faultOfCell 17 = .ok (.ifCond .eq 7, 3) := by decide +kernel
theorem dX4_faultOfCell_20 : decode cX4_faultOfCell 20 = .ok (.iconst 0, 1) := by decide +kernel
theorem dX4_faultOfCell_21 : decode cX4_faultOfCell 21 = .ok (.goto 4, 3) := by decide +kernel
theorem dX4_faultOfCell_24 : decode cX4_faultOfCell 24 = .ok (.iconst 3, 1) := by decide +kernel
theorem dX4_faultOfCell_25 : decode cX4_faultOfCell 25 = .ok (.ireturn, 1) := by decide +kernel
theorem dX4_faultOfCells_0 : decode cX4_faultOfCells 0 = .ok (.aload_n 0, 1) := by decide +kernel
theorem dX4_faultOfCells_1 : decode cX4_faultOfCells 1 = .ok (.iload_n 1, 1) := by decide +kernel
theorem dX4_faultOfCells_2 : decode cX4_faultOfCells 2 = .ok (.invokevirtual 50, 3) := by decide +kernel
theorem dX4_faultOfCells_5 : decode cX4_faultOfCells 5 = .ok (.istore 4, 2) := by decide +kernel
theorem dX4_faultOfCells_7 : decode cX4_faultOfCells 7 = .ok (.iload 4, 2) := by decide +kernel
theorem dX4_faultOfCells_9 : decode cX4_faultOfCells 9 = .ok (.ifCond .eq 6, 3) := by decide +kernel
theorem dX4_faultOfCells_12 : decode cX4_faultOfCells 12 = .ok (.iload 4, 2) := by decide +kernel
theorem dX4_faultOfCells_14 : decode cX4_faultOfCells 14 = .ok (.ireturn, 1) := by decide +kernel
theorem dX4_faultOfCells_15 : decode cX4_faultOfCells 15 = .ok (.iload_n 3, 1) := by decide +kernel
theorem dX4_faultOfCells_16 : decode cX4_faultOfCells 16 = .ok (.ifCond .ge 5, 3) := by decide +kernel
theorem dX4_faultOfCells_19 : decode cX4_faultOfCells 19 = .ok (.iconst 4, 1) := by decide +kernel
theorem dX4_faultOfCells_20 : decode cX4_faultOfCells 20 = .ok (.ireturn, 1) := by decide +kernel
theorem dX4_faultOfCells_21 : decode cX4_faultOfCells 21 = .ok (.aload_n 0, 1) := by decide +kernel
theorem dX4_faultOfCells_22 : decode cX4_faultOfCells 22 = .ok (.iload_n 2, 1) := by decide +kernel
theorem dX4_faultOfCells_23 : decode cX4_faultOfCells 23 = .ok (.iload_n 3, 1) := by decide +kernel
theorem dX4_faultOfCells_24 : decode cX4_faultOfCells 24 = .ok (.invokevirtual 53, 3) := by decide +kernel
theorem dX4_faultOfCells_27 : decode cX4_faultOfCells 27 = .ok (.ifCond .eq 7, 3) := by decide +kernel
theorem dX4_faultOfCells_30 : decode cX4_faultOfCells 30 = .ok (.iconst 0, 1) := by decide +kernel
theorem dX4_faultOfCells_31 : decode cX4_faultOfCells 31 = .ok (.goto 4, 3) := by decide +kernel
theorem dX4_faultOfCells_34 : decode cX4_faultOfCells 34 = .ok (.iconst 3, 1) := by decide +kernel
theorem dX4_faultOfCells_35 : decode cX4_faultOfCells 35 = .ok (.ireturn, 1) := by decide +kernel
theorem dX5_init_0 : decode cX5_init 0 = .ok (.aload_n 0, 1) := by decide +kernel
theorem dX5_init_1 : decode cX5_init 1 = .ok (.iload_n 1, 1) := by decide +kernel
theorem dX5_init_2 : decode cX5_init 2 = .ok (.iload_n 2, 1) := by decide +kernel
theorem dX5_init_3 : decode cX5_init 3 = .ok (.invokespecial 1, 3) := by decide +kernel
theorem dX5_init_6 : decode cX5_init 6 = .ok (.return_, 1) := by decide +kernel
theorem dX5_kindNumber_0 : decode cX5_kindNumber 0 = .ok (.iconst 2, 1) := by decide +kernel
theorem dX5_kindNumber_1 : decode cX5_kindNumber 1 = .ok (.ireturn, 1) := by decide +kernel
theorem dX5_pushForce_0 : decode cX5_pushForce 0 = .ok (.iconst 2, 1) := by decide +kernel
theorem dX5_pushForce_1 : decode cX5_pushForce 1 = .ok (.aload_n 0, 1) := by decide +kernel
theorem dX5_pushForce_2 : decode cX5_pushForce 2 = .ok (.invokespecial 7, 3) := by decide +kernel
theorem dX5_pushForce_5 : decode cX5_pushForce 5 = .ok (.imul, 1) := by decide +kernel
theorem dX5_pushForce_6 : decode cX5_pushForce 6 = .ok (.ireturn, 1) := by decide +kernel
theorem dX5_telling_0 : decode cX5_telling 0 = .ok (.aload_n 1, 1) := by decide +kernel
theorem dX5_telling_1 : decode cX5_telling 1 = .ok (.iconst 3, 1) := by decide +kernel
theorem dX5_telling_2 : decode cX5_telling 2 = .ok (.invokevirtual 11, 3) := by decide +kernel
theorem dX5_telling_5 : decode cX5_telling 5 = .ok (.aload_n 0, 1) := by decide +kernel
theorem dX5_telling_6 : decode cX5_telling 6 = .ok (.aload_n 1, 1) := by decide +kernel
theorem dX5_telling_7 : decode cX5_telling 7 = .ok (.invokespecial 17, 3) := by decide +kernel
theorem dX5_telling_10 : decode cX5_telling 10 = .ok (.istore_n 2, 1) := by decide +kernel
theorem dX5_telling_11 : decode cX5_telling 11 = .ok (.iload_n 2, 1) := by decide +kernel
theorem dX5_telling_12 : decode cX5_telling 12 = .ok (.aload_n 0, 1) := by decide +kernel
theorem dX5_telling_13 : decode cX5_telling 13 = .ok (.aload_n 1, 1) := by decide +kernel
theorem dX5_telling_14 : decode cX5_telling 14 = .ok (.invokevirtual 21, 3) := by decide +kernel
theorem dX5_telling_17 : decode cX5_telling 17 = .ok (.iadd, 1) := by decide +kernel
theorem dX5_telling_18 : decode cX5_telling 18 = .ok (.ireturn, 1) := by decide +kernel
theorem dX5_polished_0 : decode cX5_polished 0 = .ok (.aload_n 1, 1) := by decide +kernel
theorem dX5_polished_1 : decode cX5_polished 1 = .ok (.iconst 5, 1) := by decide +kernel
theorem dX5_polished_2 : decode cX5_polished 2 = .ok (.invokevirtual 11, 3) := by decide +kernel
theorem dX5_polished_5 : decode cX5_polished 5 = .ok (.bipush 30, 2) := by decide +kernel
theorem dX5_polished_7 : decode cX5_polished 7 = .ok (.ireturn, 1) := by decide +kernel
theorem dX6_init_0 : decode cX6_init 0 = .ok (.aload_n 0, 1) := by decide +kernel
theorem dX6_init_1 : decode cX6_init 1 = .ok (.invokespecial 3, 3) := by decide +kernel
theorem dX6_init_4 : decode cX6_init 4 = .ok (.aload_n 0, 1) := by decide +kernel
theorem dX6_init_5 : decode cX6_init 5 = .ok (.iconst 5, 1) := by decide +kernel
theorem dX6_init_6 : decode cX6_init 6 = .ok (.newarray .int, 2) := by decide +kernel
theorem dX6_init_8 : decode cX6_init 8 = .ok (.putfield 9, 3) := by decide +kernel
theorem dX6_init_11 : decode cX6_init 11 = .ok (.aload_n 0, 1) := by decide +kernel
theorem dX6_init_12 : decode cX6_init 12 = .ok (.aload_n 1, 1) := by decide +kernel
theorem dX6_init_13 : decode cX6_init 13 = .ok (.putfield 15, 3) := by decide +kernel
theorem dX6_init_16 : decode cX6_init 16 = .ok (.return_, 1) := by decide +kernel
theorem dX6_beginOn_0 : decode cX6_beginOn 0 = .ok (.aload_n 0, 1) := by decide +kernel
theorem dX6_beginOn_1 : decode cX6_beginOn 1 = .ok (.aload_n 1, 1) := by decide +kernel
theorem dX6_beginOn_2 : decode cX6_beginOn 2 = .ok (.putfield 15, 3) := by decide +kernel
theorem dX6_beginOn_5 : decode cX6_beginOn 5 = .ok (.aload_n 0, 1) := by decide +kernel
theorem dX6_beginOn_6 : decode cX6_beginOn 6 = .ok (.iload_n 2, 1) := by decide +kernel
theorem dX6_beginOn_7 : decode cX6_beginOn 7 = .ok (.putfield 19, 3) := by decide +kernel
theorem dX6_beginOn_10 : decode cX6_beginOn 10 = .ok (.aload_n 0, 1) := by decide +kernel
theorem dX6_beginOn_11 : decode cX6_beginOn 11 = .ok (.iconst 0, 1) := by decide +kernel
theorem dX6_beginOn_12 : decode cX6_beginOn 12 = .ok (.putfield 23, 3) := by decide +kernel
theorem dX6_beginOn_15 : decode cX6_beginOn 15 = .ok (.aload_n 0, 1) := by decide +kernel
theorem dX6_beginOn_16 : decode cX6_beginOn 16 = .ok (.iconst 0, 1) := by decide +kernel
theorem dX6_beginOn_17 : decode cX6_beginOn 17 = .ok (.putfield 26, 3) := by decide +kernel
theorem dX6_beginOn_20 : decode cX6_beginOn 20 = .ok (.iconst 0, 1) := by decide +kernel
theorem dX6_beginOn_21 : decode cX6_beginOn 21 = .ok (.istore_n 3, 1) := by decide +kernel
theorem dX6_beginOn_22 : decode cX6_beginOn 22 = .ok (.iload_n 3, 1) := by decide +kernel
theorem dX6_beginOn_23 : decode cX6_beginOn 23 = .ok (.iconst 5, 1) := by decide +kernel
theorem dX6_beginOn_24 : decode cX6_beginOn 24 = .ok (.if_icmp .ge 20, 3) := by decide +kernel
theorem dX6_beginOn_27 : decode cX6_beginOn 27 = .ok (.aload_n 0, 1) := by decide +kernel
theorem dX6_beginOn_28 : decode cX6_beginOn 28 = .ok (.getfield 9, 3) := by decide +kernel
theorem dX6_beginOn_31 : decode cX6_beginOn 31 = .ok (.iload_n 3, 1) := by decide +kernel
theorem dX6_beginOn_32 : decode cX6_beginOn 32 = .ok (.aload_n 1, 1) := by decide +kernel
theorem dX6_beginOn_33 : decode cX6_beginOn 33 = .ok (.iload_n 3, 1) := by decide +kernel
theorem dX6_beginOn_34 : decode cX6_beginOn 34 = .ok (.invokevirtual 29, 3) := by decide +kernel
theorem dX6_beginOn_37 : decode cX6_beginOn 37 = .ok (.iastore, 1) := by decide +kernel
theorem dX6_beginOn_38 : decode cX6_beginOn 38 = .ok (.iinc 3 1, 3) := by decide +kernel
theorem dX6_beginOn_41 : decode cX6_beginOn 41 = .ok (.goto (-19), 3) := by decide +kernel
theorem dX6_beginOn_44 : decode cX6_beginOn 44 = .ok (.return_, 1) := by decide +kernel
theorem dX6_copyFrom_0 : decode cX6_copyFrom 0 = .ok (.aload_n 0, 1) := by decide +kernel
theorem dX6_copyFrom_1 : decode cX6_copyFrom 1 = .ok (.aload_n 1, 1) := by decide +kernel
theorem dX6_copyFrom_2 : decode cX6_copyFrom 2 = .ok (.getfield 15, 3) := by decide +kernel
theorem dX6_copyFrom_5 : decode cX6_copyFrom 5 = .ok (.putfield 15, 3) := by decide +kernel
theorem dX6_copyFrom_8 : decode cX6_copyFrom 8 = .ok (.aload_n 0, 1) := by decide +kernel
theorem dX6_copyFrom_9 : decode cX6_copyFrom 9 = .ok (.aload_n 1, 1) := by decide +kernel
theorem dX6_copyFrom_10 : decode cX6_copyFrom 10 = .ok (.getfield 19, 3) := by decide +kernel
theorem dX6_copyFrom_13 : decode cX6_copyFrom 13 = .ok (.putfield 19, 3) := by decide +kernel
theorem dX6_copyFrom_16 : decode cX6_copyFrom 16 = .ok (.aload_n 0, 1) := by decide +kernel
theorem dX6_copyFrom_17 : decode cX6_copyFrom 17 = .ok (.aload_n 1, 1) := by decide +kernel
theorem dX6_copyFrom_18 : decode cX6_copyFrom 18 = .ok (.getfield 23, 3) := by decide +kernel
theorem dX6_copyFrom_21 : decode cX6_copyFrom 21 = .ok (.putfield 23, 3) := by decide +kernel
theorem dX6_copyFrom_24 : decode cX6_copyFrom 24 = .ok (.aload_n 0, 1) := by decide +kernel
theorem dX6_copyFrom_25 : decode cX6_copyFrom 25 = .ok (.aload_n 1, 1) := by decide +kernel
theorem dX6_copyFrom_26 : decode cX6_copyFrom 26 = .ok (.getfield 26, 3) := by decide +kernel
theorem dX6_copyFrom_29 : decode cX6_copyFrom 29 = .ok (.putfield 26, 3) := by decide +kernel
theorem dX6_copyFrom_32 : decode cX6_copyFrom 32 = .ok (.iconst 0, 1) := by decide +kernel
theorem dX6_copyFrom_33 : decode cX6_copyFrom 33 = .ok (.istore_n 2, 1) := by decide +kernel
theorem dX6_copyFrom_34 : decode cX6_copyFrom 34 = .ok (.iload_n 2, 1) := by decide +kernel
theorem dX6_copyFrom_35 : decode cX6_copyFrom 35 = .ok (.iconst 5, 1) := by decide +kernel
theorem dX6_copyFrom_36 : decode cX6_copyFrom 36 = .ok (.if_icmp .ge 21, 3) := by decide +kernel
theorem dX6_copyFrom_39 : decode cX6_copyFrom 39 = .ok (.aload_n 0, 1) := by decide +kernel
theorem dX6_copyFrom_40 : decode cX6_copyFrom 40 = .ok (.getfield 9, 3) := by decide +kernel
theorem dX6_copyFrom_43 : decode cX6_copyFrom 43 = .ok (.iload_n 2, 1) := by decide +kernel
theorem dX6_copyFrom_44 : decode cX6_copyFrom 44 = .ok (.aload_n 1, 1) := by decide +kernel
theorem dX6_copyFrom_45 : decode cX6_copyFrom 45 = .ok (.getfield 9, 3) := by decide +kernel
theorem dX6_copyFrom_48 : decode cX6_copyFrom 48 = .ok (.iload_n 2, 1) := by decide +kernel
theorem dX6_copyFrom_49 : decode cX6_copyFrom 49 = .ok (.iaload, 1) := by decide +kernel
theorem dX6_copyFrom_50 : decode cX6_copyFrom 50 = .ok (.iastore, 1) := by decide +kernel
theorem dX6_copyFrom_51 : decode cX6_copyFrom 51 = .ok (.iinc 2 1, 3) := by decide +kernel
theorem dX6_copyFrom_54 : decode cX6_copyFrom 54 = .ok (.goto (-20), 3) := by decide +kernel
theorem dX6_copyFrom_57 : decode cX6_copyFrom 57 = .ok (.return_, 1) := by decide +kernel
theorem dX6_spotOf_0 : decode cX6_spotOf 0 = .ok (.iload_n 1, 1) := by decide +kernel
theorem dX6_spotOf_1 : decode cX6_spotOf 1 = .ok (.ifCond .lt 8, 3) := by decide +kernel
theorem dX6_spotOf_4 : decode cX6_spotOf 4 = .ok (.iload_n 1, 1) := by decide +kernel
theorem dX6_spotOf_5 : decode cX6_spotOf 5 = .ok (.iconst 5, 1) := by decide +kernel
theorem dX6_spotOf_6 : decode cX6_spotOf 6 = .ok (.if_icmp .lt 8, 3) := by decide +kernel
theorem dX6_spotOf_9 : decode cX6_spotOf 9 = .ok (.bipush (-9), 2) := by decide +kernel
theorem dX6_spotOf_11 : decode cX6_spotOf 11 = .ok (.goto 9, 3) := by decide +kernel
theorem dX6_spotOf_14 : decode cX6_spotOf 14 = .ok (.aload_n 0, 1) := by decide +kernel
theorem dX6_spotOf_15 : decode cX6_spotOf 15 = .ok (.getfield 9, 3) := by decide +kernel
theorem dX6_spotOf_18 : decode cX6_spotOf 18 = .ok (.iload_n 1, 1) := by decide +kernel
theorem dX6_spotOf_19 : decode cX6_spotOf 19 = .ok (.iaload, 1) := by decide +kernel
theorem dX6_spotOf_20 : decode cX6_spotOf 20 = .ok (.ireturn, 1) := by decide +kernel
theorem dX6_isOn_0 : decode cX6_isOn 0 = .ok (.aload_n 0, 1) := by decide +kernel
theorem dX6_isOn_1 : decode cX6_isOn 1 = .ok (.iload_n 1, 1) := by decide +kernel
theorem dX6_isOn_2 : decode cX6_isOn 2 = .ok (.invokevirtual 35, 3) := by decide +kernel
theorem dX6_isOn_5 : decode cX6_isOn 5 = .ok (.bipush (-9), 2) := by decide +kernel
theorem dX6_isOn_7 : decode cX6_isOn 7 = .ok (.if_icmp .eq 7, 3) := by decide +kernel
theorem dX6_isOn_10 : decode cX6_isOn 10 = .ok (.iconst 1, 1) := by decide +kernel
theorem dX6_isOn_11 : decode cX6_isOn 11 = .ok (.goto 4, 3) := by decide +kernel
theorem dX6_isOn_14 : decode cX6_isOn 14 = .ok (.iconst 0, 1) := by decide +kernel
theorem dX6_isOn_15 : decode cX6_isOn 15 = .ok (.ireturn, 1) := by decide +kernel
theorem dX6_isHad_0 : decode cX6_isHad 0 = .ok (.iload_n 1, 1) := by decide +kernel
theorem dX6_isHad_1 : decode cX6_isHad 1 = .ok (.iconst 5, 1) := by decide +kernel
theorem dX6_isHad_2 : decode cX6_isHad 2 = .ok (.invokestatic 38, 3) := by decide +kernel
theorem dX6_isHad_5 : decode cX6_isHad 5 = .ok (.ifCond .eq 18, 3) := by decide +kernel
theorem dX6_isHad_8 : decode cX6_isHad 8 = .ok (.aload_n 0, 1) := by decide +kernel
theorem dX6_isHad_9 : decode cX6_isHad 9 = .ok (.getfield 23, 3) := by decide +kernel
theorem dX6_isHad_12 : decode cX6_isHad 12 = .ok (.iconst 1, 1) := by decide +kernel
theorem dX6_isHad_13 : decode cX6_isHad 13 = .ok (.iload_n 1, 1) := by decide +kernel
theorem dX6_isHad_14 : decode cX6_isHad 14 = .ok (.ishl, 1) := by decide +kernel
theorem dX6_isHad_15 : decode cX6_isHad 15 = .ok (.iand, 1) := by decide +kernel
theorem dX6_isHad_16 : decode cX6_isHad 16 = .ok (.ifCond .eq 7, 3) := by decide +kernel
theorem dX6_isHad_19 : decode cX6_isHad 19 = .ok (.iconst 1, 1) := by decide +kernel
theorem dX6_isHad_20 : decode cX6_isHad 20 = .ok (.goto 4, 3) := by decide +kernel
theorem dX6_isHad_23 : decode cX6_isHad 23 = .ok (.iconst 0, 1) := by decide +kernel
theorem dX6_isHad_24 : decode cX6_isHad 24 = .ok (.ireturn, 1) := by decide +kernel
theorem dX6_countHad_0 : decode cX6_countHad 0 = .ok (.aload_n 0, 1) := by decide +kernel
theorem dX6_countHad_1 : decode cX6_countHad 1 = .ok (.getfield 23, 3) := by decide +kernel
theorem dX6_countHad_4 : decode cX6_countHad 4 = .ok (.invokestatic 42, 3) := by decide +kernel
theorem dX6_countHad_7 : decode cX6_countHad 7 = .ok (.ireturn, 1) := by decide +kernel
theorem dX6_elsewhereThan_0 : decode cX6_elsewhereThan 0 = .ok (.iconst 0, 1) := by decide +kernel
theorem dX6_elsewhereThan_1 : decode cX6_elsewhereThan 1 = .ok (.istore_n 2, 1) := by decide +kernel
theorem dX6_elsewhereThan_2 : decode cX6_elsewhereThan 2 = .ok (.iconst 0, 1) := by decide +kernel
theorem dX6_elsewhereThan_3 : decode cX6_elsewhereThan 3 = .ok (.istore_n 3, 1) := by decide +kernel
theorem dX6_elsewhereThan_4 : decode cX6_elsewhereThan 4 = .ok (.iload_n 3, 1) := by decide +kernel
theorem dX6_elsewhereThan_5 : decode cX6_elsewhereThan 5 = .ok (.iconst 5, 1) := by decide +kernel
theorem dX6_elsewhereThan_6 : decode cX6_elsewhereThan 6 = .ok (.if_icmp .ge 30, 3) := by decide +kernel
theorem dX6_elsewhereThan_9 : decode cX6_elsewhereThan 9 = .ok (.aload_n 0, 1) := by decide +kernel
theorem dX6_elsewhereThan_10 : decode cX6_elsewhereThan 10 = .ok (.getfield 9, 3) := by decide +kernel
theorem dX6_elsewhereThan_13 : decode cX6_elsewhereThan 13 = .ok (.iload_n 3, 1) := by decide +kernel
theorem dX6_elsewhereThan_14 : decode cX6_elsewhereThan 14 = .ok (.iaload, 1) := by decide +kernel
theorem dX6_elsewhereThan_15 : decode cX6_elsewhereThan 15 = .ok (.aload_n 1, 1) := by decide +kernel
theorem dX6_elsewhereThan_16 : decode cX6_elsewhereThan 16 = .ok (.getfield 9, 3) := by decide +kernel
theorem dX6_elsewhereThan_19 : decode cX6_elsewhereThan 19 = .ok (.iload_n 3, 1) := by decide +kernel
theorem dX6_elsewhereThan_20 : decode cX6_elsewhereThan 20 = .ok (.iaload, 1) := by decide +kernel
theorem dX6_elsewhereThan_21 : decode cX6_elsewhereThan 21 = .ok (.if_icmp .eq 9, 3) := by decide +kernel
theorem dX6_elsewhereThan_24 : decode cX6_elsewhereThan 24 = .ok (.iload_n 2, 1) := by decide +kernel
theorem dX6_elsewhereThan_25 : decode cX6_elsewhereThan 25 = .ok (.iconst 1, 1) := by decide +kernel
theorem dX6_elsewhereThan_26 : decode cX6_elsewhereThan 26 = .ok (.iload_n 3, 1) := by decide +kernel
theorem dX6_elsewhereThan_27 : decode cX6_elsewhereThan 27 = .ok (.ishl, 1) := by decide +kernel
theorem dX6_elsewhereThan_28 : decode cX6_elsewhereThan 28 = .ok (.ior, 1) := by decide +kernel
theorem dX6_elsewhereThan_29 : decode cX6_elsewhereThan 29 = .ok (.istore_n 2, 1) := by decide +kernel
theorem dX6_elsewhereThan_30 : decode cX6_elsewhereThan 30 = .ok (.iinc 3 1, 3) := by decide +kernel
theorem dX6_elsewhereThan_33 : decode cX6_elsewhereThan 33 = .ok (.goto (-29), 3) := by decide +kernel
theorem dX6_elsewhereThan_36 : decode cX6_elsewhereThan 36 = .ok (.iload_n 2, 1) := by decide +kernel
theorem dX6_elsewhereThan_37 : decode cX6_elsewhereThan 37 = .ok (.ireturn, 1) := by decide +kernel
theorem dX6_behindLine_0 : decode cX6_behindLine 0 = .ok (.aload_n 0, 1) := by decide +kernel
theorem dX6_behindLine_1 : decode cX6_behindLine 1 = .ok (.getfield 15, 3) := by decide +kernel
theorem dX6_behindLine_4 : decode cX6_behindLine 4 = .ok (.aload_n 0, 1) := by decide +kernel
theorem dX6_behindLine_5 : decode cX6_behindLine 5 = .ok (.iload_n 1, 1) := by decide +kernel
theorem dX6_behindLine_6 : decode cX6_behindLine 6 = .ok (.invokevirtual 35, 3) := by decide +kernel
theorem dX6_behindLine_9 : decode cX6_behindLine 9 = .ok (.iload_n 2, 1) := by decide +kernel
theorem dX6_behindLine_10 : decode cX6_behindLine 10 = .ok (.invokevirtual 47, 3) := by decide +kernel
theorem dX6_behindLine_13 : decode cX6_behindLine 13 = .ok (.istore_n 3, 1) := by decide +kernel
theorem dX6_behindLine_14 : decode cX6_behindLine 14 = .ok (.iconst 0, 1) := by decide +kernel
theorem dX6_behindLine_15 : decode cX6_behindLine 15 = .ok (.istore 4, 2) := by decide +kernel
theorem dX6_behindLine_17 : decode cX6_behindLine 17 = .ok (.iload 4, 2) := by decide +kernel
theorem dX6_behindLine_19 : decode cX6_behindLine 19 = .ok (.iconst 5, 1) := by decide +kernel
theorem dX6_behindLine_20 : decode cX6_behindLine 20 = .ok (.if_icmp .ge 34, 3) := by decide +kernel
theorem dX6_behindLine_23 : decode cX6_behindLine 23 = .ok (.iload_n 3, 1) := by decide +kernel
theorem dX6_behindLine_24 : decode cX6_behindLine 24 = .ok (.iconst (-1), 1) := by decide +kernel
theorem dX6_behindLine_25 : decode cX6_behindLine 25 = .ok (.if_icmp .eq 29, 3) := by decide +kernel
theorem dX6_behindLine_28 : decode cX6_behindLine 28 = .ok (.aload_n 0, 1) := by decide +kernel
theorem dX6_behindLine_29 : decode cX6_behindLine 29 = .ok (.iload_n 3, 1) := by decide +kernel
theorem dX6_behindLine_30 : decode cX6_behindLine 30 = .ok (.invokevirtual 51, 3) := by decide +kernel
theorem dX6_behindLine_33 : decode cX6_behindLine 33 = .ok (.bipush (-9), 2) := by decide +kernel
theorem dX6_behindLine_35 : decode cX6_behindLine 35 = .ok (.if_icmp .eq 19, 3) := by decide +kernel
theorem dX6_behindLine_38 : decode cX6_behindLine 38 = .ok (.aload_n 0, 1) := by decide +kernel
theorem dX6_behindLine_39 : decode cX6_behindLine 39 = .ok (.getfield 15, 3) := by decide +kernel
theorem dX6_behindLine_42 : decode cX6_behindLine 42 = .ok (.iload_n 3, 1) := by decide +kernel
theorem dX6_behindLine_43 : decode cX6_behindLine 43 = .ok (.iload_n 2, 1) := by decide +kernel
theorem dX6_behindLine_44 : decode cX6_behindLine 44 = .ok (.invokevirtual 47, 3) := by decide +kernel
theorem dX6_behindLine_47 : decode cX6_behindLine 47 = .ok (.istore_n 3, 1) := by decide +kernel
theorem dX6_behindLine_48 : decode cX6_behindLine 48 = .ok (.iinc 4 1, 3) := by decide +kernel
theorem dX6_behindLine_51 : decode cX6_behindLine 51 = .ok (.goto (-34), 3) := by decide +kernel
theorem dX6_behindLine_54 : decode cX6_behindLine 54 = .ok (.iload_n 3, 1) := by decide +kernel
theorem dX6_behindLine_55 : decode cX6_behindLine 55 = .ok (.ireturn, 1) := by decide +kernel
theorem dX6_isHeld_0 : decode cX6_isHeld 0 = .ok (.aload_n 0, 1) := by decide +kernel
theorem dX6_isHeld_1 : decode cX6_isHeld 1 = .ok (.iload_n 1, 1) := by decide +kernel
theorem dX6_isHeld_2 : decode cX6_isHeld 2 = .ok (.invokevirtual 54, 3) := by decide +kernel
theorem dX6_isHeld_5 : decode cX6_isHeld 5 = .ok (.ifCond .ne 5, 3) := by decide +kernel
theorem dX6_isHeld_8 : decode cX6_isHeld 8 = .ok (.iconst 0, 1) := by decide +kernel
theorem dX6_isHeld_9 : decode cX6_isHeld 9 = .ok (.ireturn, 1) := by decide +kernel
theorem dX6_isHeld_10 : decode cX6_isHeld 10 = .ok (.aload_n 0, 1) := by decide +kernel
theorem dX6_isHeld_11 : decode cX6_isHeld 11 = .ok (.iload_n 1, 1) := by decide +kernel
theorem dX6_isHeld_12 : decode cX6_isHeld 12 = .ok (.iload_n 2, 1) := by decide +kernel
theorem dX6_isHeld_13 : decode cX6_isHeld 13 = .ok (.invokevirtual 58, 3) := by decide +kernel
theorem dX6_isHeld_16 : decode cX6_isHeld 16 = .ok (.istore_n 3, 1) := by decide +kernel
theorem dX6_isHeld_17 : decode cX6_isHeld 17 = .ok (.iload_n 3, 1) := by decide +kernel
theorem dX6_isHeld_18 : decode cX6_isHeld 18 = .ok (.iconst (-1), 1) := by decide +kernel
theorem dX6_isHeld_19 : decode cX6_isHeld 19 = .ok (.if_icmp .ne 19, 3) := by decide +kernel
theorem dX6_isHeld_22 : decode cX6_isHeld 22 = .ok (.aload_n 0, 1) := by decide +kernel
theorem dX6_isHeld_23 : decode cX6_isHeld 23 = .ok (.getfield 19, 3) := by decide +kernel
theorem dX6_isHeld_26 : decode cX6_isHeld 26 = .ok (.iconst 2, 1) := by decide +kernel
theorem dX6_isHeld_27 : decode cX6_isHeld 27 = .ok (.if_icmp .ne 7, 3) := by decide +kernel
theorem dX6_isHeld_30 : decode cX6_isHeld 30 = .ok (.iconst 1, 1) := by decide +kernel
theorem dX6_isHeld_31 : decode cX6_isHeld 31 = .ok (.goto 24, 3) := by decide +kernel
theorem dX6_isHeld_34 : decode cX6_isHeld 34 = .ok (.iconst 0, 1) := by decide +kernel
theorem dX6_isHeld_35 : decode cX6_isHeld 35 = .ok (.goto 20, 3) := by decide +kernel
theorem dX6_isHeld_38 : decode cX6_isHeld 38 = .ok (.aload_n 0, 1) := by decide +kernel
theorem dX6_isHeld_39 : decode cX6_isHeld 39 = .ok (.getfield 15, 3) := by decide +kernel
theorem dX6_isHeld_42 : decode cX6_isHeld 42 = .ok (.iload_n 3, 1) := by decide +kernel
theorem dX6_isHeld_43 : decode cX6_isHeld 43 = .ok (.invokevirtual 61, 3) := by decide +kernel
theorem dX6_isHeld_46 : decode cX6_isHeld 46 = .ok (.iconst 2, 1) := by decide +kernel
theorem dX6_isHeld_47 : decode cX6_isHeld 47 = .ok (.if_icmp .ne 7, 3) := by decide +kernel
theorem dX6_isHeld_50 : decode cX6_isHeld 50 = .ok (.iconst 1, 1) := by decide +kernel
theorem dX6_isHeld_51 : decode cX6_isHeld 51 = .ok (.goto 4, 3) := by decide +kernel
theorem dX6_isHeld_54 : decode cX6_isHeld 54 = .ok (.iconst 0, 1) := by decide +kernel
theorem dX6_isHeld_55 : decode cX6_isHeld 55 = .ok (.ireturn, 1) := by decide +kernel
theorem dX6_heldSet_0 : decode cX6_heldSet 0 = .ok (.iconst 0, 1) := by decide +kernel
theorem dX6_heldSet_1 : decode cX6_heldSet 1 = .ok (.istore_n 2, 1) := by decide +kernel
theorem dX6_heldSet_2 : decode cX6_heldSet 2 = .ok (.iconst 0, 1) := by decide +kernel
theorem dX6_heldSet_3 : decode cX6_heldSet 3 = .ok (.istore_n 3, 1) := by decide +kernel
theorem dX6_heldSet_4 : decode cX6_heldSet 4 = .ok (.iload_n 3, 1) := by decide +kernel
theorem dX6_heldSet_5 : decode cX6_heldSet 5 = .ok (.iconst 5, 1) := by decide +kernel
theorem dX6_heldSet_6 : decode cX6_heldSet 6 = .ok (.if_icmp .ge 24, 3) := by decide +kernel
theorem dX6_heldSet_9 : decode cX6_heldSet 9 = .ok (.aload_n 0, 1) := by decide +kernel
theorem dX6_heldSet_10 : decode cX6_heldSet 10 = .ok (.iload_n 3, 1) := by decide +kernel
theorem dX6_heldSet_11 : decode cX6_heldSet 11 = .ok (.iload_n 1, 1) := by decide +kernel
theorem dX6_heldSet_12 : decode cX6_heldSet 12 = .ok (.invokevirtual 64, 3) := by decide +kernel
theorem dX6_heldSet_15 : decode cX6_heldSet 15 = .ok (.ifCond .eq 9, 3) := by decide +kernel
theorem dX6_heldSet_18 : decode cX6_heldSet 18 = .ok (.iload_n 2, 1) := by decide +kernel
theorem dX6_heldSet_19 : decode cX6_heldSet 19 = .ok (.iconst 1, 1) := by decide +kernel
theorem dX6_heldSet_20 : decode cX6_heldSet 20 = .ok (.iload_n 3, 1) := by decide +kernel
theorem dX6_heldSet_21 : decode cX6_heldSet 21 = .ok (.ishl, 1) := by decide +kernel
theorem dX6_heldSet_22 : decode cX6_heldSet 22 = .ok (.ior, 1) := by decide +kernel
theorem dX6_heldSet_23 : decode cX6_heldSet 23 = .ok (.istore_n 2, 1) := by decide +kernel
theorem dX6_heldSet_24 : decode cX6_heldSet 24 = .ok (.iinc 3 1, 3) := by decide +kernel
theorem dX6_heldSet_27 : decode cX6_heldSet 27 = .ok (.goto (-23), 3) := by decide +kernel
theorem dX6_heldSet_30 : decode cX6_heldSet 30 = .ok (.iload_n 2, 1) := by decide +kernel
theorem dX6_heldSet_31 : decode cX6_heldSet 31 = .ok (.ireturn, 1) := by decide +kernel
theorem dX6_holdsAny_0 : decode cX6_holdsAny 0 = .ok (.iconst 0, 1) := by decide +kernel
theorem dX6_holdsAny_1 : decode cX6_holdsAny 1 = .ok (.istore_n 1, 1) := by decide +kernel
theorem dX6_holdsAny_2 : decode cX6_holdsAny 2 = .ok (.iload_n 1, 1) := by decide +kernel
theorem dX6_holdsAny_3 : decode cX6_holdsAny 3 = .ok (.iconst 5, 1) := by decide +kernel
theorem dX6_holdsAny_4 : decode cX6_holdsAny 4 = .ok (.if_icmp .ge 21, 3) := by decide +kernel
theorem dX6_holdsAny_7 : decode cX6_holdsAny 7 = .ok (.aload_n 0, 1) := by decide +kernel
theorem dX6_holdsAny_8 : decode cX6_holdsAny 8 = .ok (.iload_n 1, 1) := by decide +kernel
theorem dX6_holdsAny_9 : decode cX6_holdsAny 9 = .ok (.invokevirtual 67, 3) := by decide +kernel
theorem dX6_holdsAny_12 : decode cX6_holdsAny 12 = .ok (.bipush (-9), 2) := by decide +kernel
theorem dX6_holdsAny_14 : decode cX6_holdsAny 14 = .ok (.if_icmp .eq 5, 3) := by decide +kernel
theorem dX6_holdsAny_17 : decode cX6_holdsAny 17 = .ok (.iconst 1, 1) := by decide +kernel
theorem dX6_holdsAny_18 : decode cX6_holdsAny 18 = .ok (.ireturn, 1) := by decide +kernel
theorem dX6_holdsAny_19 : decode cX6_holdsAny 19 = .ok (.iinc 1 1, 3) := by decide +kernel
theorem dX6_holdsAny_22 : decode cX6_holdsAny 22 = .ok (.goto (-20), 3) := by decide +kernel
theorem dX6_holdsAny_25 : decode cX6_holdsAny 25 = .ok (.iconst 0, 1) := by decide +kernel
theorem dX6_holdsAny_26 : decode cX6_holdsAny 26 = .ok (.ireturn, 1) := by decide +kernel
theorem dX6_firstHold_0 : decode cX6_firstHold 0 = .ok (.iconst 0, 1) := by decide +kernel
theorem dX6_firstHold_1 : decode cX6_firstHold 1 = .ok (.istore_n 2, 1) := by decide +kernel
theorem dX6_firstHold_2 : decode cX6_firstHold 2 = .ok (.iload_n 2, 1) := by decide +kernel
theorem dX6_firstHold_3 : decode cX6_firstHold 3 = .ok (.iconst 4, 1) := by decide +kernel
theorem dX6_firstHold_4 : decode cX6_firstHold 4 = .ok (.if_icmp .ge 20, 3) := by decide +kernel
theorem dX6_firstHold_7 : decode cX6_firstHold 7 = .ok (.aload_n 0, 1) := by decide +kernel
theorem dX6_firstHold_8 : decode cX6_firstHold 8 = .ok (.iload_n 1, 1) := by decide +kernel
theorem dX6_firstHold_9 : decode cX6_firstHold 9 = .ok (.iload_n 2, 1) := by decide +kernel
theorem dX6_firstHold_10 : decode cX6_firstHold 10 = .ok (.invokevirtual 64, 3) := by decide +kernel
theorem dX6_firstHold_13 : decode cX6_firstHold 13 = .ok (.ifCond .eq 5, 3) := by decide +kernel
theorem dX6_firstHold_16 : decode cX6_firstHold 16 = .ok (.iload_n 2, 1) := by decide +kernel
theorem dX6_firstHold_17 : decode cX6_firstHold 17 = .ok (.ireturn, 1) := by decide +kernel
theorem dX6_firstHold_18 : decode cX6_firstHold 18 = .ok (.iinc 2 1, 3) := by decide +kernel
theorem dX6_firstHold_21 : decode cX6_firstHold 21 = .ok (.goto (-19), 3) := by decide +kernel
theorem dX6_firstHold_24 : decode cX6_firstHold 24 = .ok (.bipush (-9), 2) := by decide +kernel
theorem dX6_firstHold_26 : decode cX6_firstHold 26 = .ok (.ireturn, 1) := by decide +kernel
theorem dX6_countHolds_0 : decode cX6_countHolds 0 = .ok (.iconst 0, 1) := by decide +kernel
theorem dX6_countHolds_1 : decode cX6_countHolds 1 = .ok (.istore_n 2, 1) := by decide +kernel
theorem dX6_countHolds_2 : decode cX6_countHolds 2 = .ok (.iconst 0, 1) := by decide +kernel
theorem dX6_countHolds_3 : decode cX6_countHolds 3 = .ok (.istore_n 3, 1) := by decide +kernel
theorem dX6_countHolds_4 : decode cX6_countHolds 4 = .ok (.iload_n 3, 1) := by decide +kernel
theorem dX6_countHolds_5 : decode cX6_countHolds 5 = .ok (.iconst 4, 1) := by decide +kernel
theorem dX6_countHolds_6 : decode cX6_countHolds 6 = .ok (.if_icmp .ge 21, 3) := by decide +kernel
theorem dX6_countHolds_9 : decode cX6_countHolds 9 = .ok (.aload_n 0, 1) := by decide +kernel
theorem dX6_countHolds_10 : decode cX6_countHolds 10 = .ok (.iload_n 1, 1) := by decide +kernel
theorem dX6_countHolds_11 : decode cX6_countHolds 11 = .ok (.iload_n 3, 1) := by decide +kernel
theorem dX6_countHolds_12 : decode cX6_countHolds 12 = .ok (.invokevirtual 64, 3) := by decide +kernel
theorem dX6_countHolds_15 : decode cX6_countHolds 15 = .ok (.ifCond .eq 6, 3) := by decide +kernel
theorem dX6_countHolds_18 : decode cX6_countHolds 18 = .ok (.iinc 2 1, 3) := by decide +kernel
theorem dX6_countHolds_21 : decode cX6_countHolds 21 = .ok (.iinc 3 1, 3) := by decide +kernel
theorem dX6_countHolds_24 : decode cX6_countHolds 24 = .ok (.goto (-20), 3) := by decide +kernel
theorem dX6_countHolds_27 : decode cX6_countHolds 27 = .ok (.iload_n 2, 1) := by decide +kernel
theorem dX6_countHolds_28 : decode cX6_countHolds 28 = .ok (.ireturn, 1) := by decide +kernel
theorem dX6_pushByCode_0 : decode cX6_pushByCode 0 = .ok (.aload_n 0, 1) := by decide +kernel
theorem dX6_pushByCode_1 : decode cX6_pushByCode 1 = .ok (.getfield 15, 3) := by decide +kernel
theorem dX6_pushByCode_4 : decode cX6_pushByCode 4 = .ok (.iload_n 1, 1) := by decide +kernel
theorem dX6_pushByCode_5 : decode cX6_pushByCode 5 = .ok (.bipush 100, 2) := by decide +kernel
theorem dX6_pushByCode_7 : decode cX6_pushByCode 7 = .ok (.idiv, 1) := by decide +kernel
theorem dX6_pushByCode_8 : decode cX6_pushByCode 8 = .ok (.invokevirtual 70, 3) := by decide +kernel
theorem dX6_pushByCode_11 : decode cX6_pushByCode 11 = .ok (.astore_n 2, 1) := by decide +kernel
theorem dX6_pushByCode_12 : decode cX6_pushByCode 12 = .ok (.iload_n 1, 1) := by decide +kernel
theorem dX6_pushByCode_13 : decode cX6_pushByCode 13 = .ok (.invokestatic 74, 3) := by decide +kernel
theorem dX6_pushByCode_16 : decode cX6_pushByCode 16 = .ok (.istore_n 3, 1) := by decide +kernel
theorem dX6_pushByCode_17 : decode cX6_pushByCode 17 = .ok (.iload_n 1, 1) := by decide +kernel
theorem dX6_pushByCode_18 : decode cX6_pushByCode 18 = .ok (.bipush 10, 2) := by decide +kernel
theorem dX6_pushByCode_20 : decode cX6_pushByCode 20 = .ok (.irem, 1) := by decide +kernel
theorem dX6_pushByCode_21 : decode cX6_pushByCode 21 = .ok (.istore 4, 2) := by decide +kernel
theorem dX6_pushByCode_23 : decode cX6_pushByCode 23 = .ok (.aload_n 2, 1) := by decide +kernel
theorem dX6_pushByCode_24 : decode cX6_pushByCode 24 = .ok (.ifnull 11, 3) := by decide +kernel
theorem dX6_pushByCode_27 : decode cX6_pushByCode 27 = .ok (.aload_n 0, 1) := by decide +kernel
theorem dX6_pushByCode_28 : decode cX6_pushByCode 28 = .ok (.iload_n 3, 1) := by decide +kernel
theorem dX6_pushByCode_29 : decode cX6_pushByCode 29 = .ok (.invokevirtual 54, 3) := by decide +kernel
theorem dX6_pushByCode_32 : decode cX6_pushByCode 32 = .ok (.ifCond .ne 4, 3) := by decide +kernel
theorem dX6_pushByCode_35 : decode cX6_pushByCode 35 = .ok (.return_, 1) := by decide +kernel
theorem dX6_pushByCode_36 : decode cX6_pushByCode 36 = .ok (.aload_n 0, 1) := by decide +kernel
theorem dX6_pushByCode_37 : decode cX6_pushByCode 37 = .ok (.iload_n 3, 1) := by decide +kernel
theorem dX6_pushByCode_38 : decode cX6_pushByCode 38 = .ok (.iload 4, 2) := by decide +kernel
theorem dX6_pushByCode_40 : decode cX6_pushByCode 40 = .ok (.invokevirtual 64, 3) := by decide +kernel
theorem dX6_pushByCode_43 : decode cX6_pushByCode 43 = .ok (.ifCond .eq 26, 3) := by decide +kernel
theorem dX6_pushByCode_46 : decode cX6_pushByCode 46 = .ok (.aload_n 0, 1) := by decide +kernel
theorem dX6_pushByCode_47 : decode cX6_pushByCode 47 = .ok (.dup, 1) := by decide +kernel
theorem dX6_pushByCode_48 : decode cX6_pushByCode 48 = .ok (.getfield 23, 3) := by decide +kernel
theorem dX6_pushByCode_51 : decode cX6_pushByCode 51 = .ok (.iconst 1, 1) := by decide +kernel
theorem dX6_pushByCode_52 : decode cX6_pushByCode 52 = .ok (.iload_n 3, 1) := by decide +kernel
theorem dX6_pushByCode_53 : decode cX6_pushByCode 53 = .ok (.ishl, 1) := by decide +kernel
theorem dX6_pushByCode_54 : decode cX6_pushByCode 54 = .ok (.ior, 1) := by decide +kernel
theorem dX6_pushByCode_55 : decode cX6_pushByCode 55 = .ok (.putfield 23, 3) := by decide +kernel
theorem dX6_pushByCode_58 : decode cX6_pushByCode 58 = .ok (.aload_n 0, 1) := by decide +kernel
theorem dX6_pushByCode_59 : decode cX6_pushByCode 59 = .ok (.getfield 9, 3) := by decide +kernel
theorem dX6_pushByCode_62 : decode cX6_pushByCode 62 = .ok (.iload_n 3, 1) := by decide +kernel
theorem dX6_pushByCode_63 : decode cX6_pushByCode 63 = .ok (.bipush (-9), 2) := by decide +kernel
theorem dX6_pushByCode_65 : decode cX6_pushByCode 65 = .ok (.iastore, 1) := by decide +kernel
theorem dX6_pushByCode_66 : decode cX6_pushByCode 66 = .ok (.goto 14, 3) := by decide +kernel
theorem dX6_pushByCode_69 : decode cX6_pushByCode 69 = .ok (.aload_n 0, 1) := by decide +kernel
theorem dX6_pushByCode_70 : decode cX6_pushByCode 70 = .ok (.iload_n 3, 1) := by decide +kernel
theorem dX6_pushByCode_71 : decode cX6_pushByCode 71 = .ok (.iload 4, 2) := by decide +kernel
theorem dX6_pushByCode_73 : decode cX6_pushByCode 73 = .ok (.aload_n 2, 1) := by decide +kernel
theorem dX6_pushByCode_74 : decode cX6_pushByCode 74 = .ok (.invokevirtual 77, 3) := by decide +kernel
theorem dX6_pushByCode_77 : decode cX6_pushByCode 77 = .ok (.invokevirtual 83, 3) := by decide +kernel
theorem dX6_pushByCode_80 : decode cX6_pushByCode 80 = .ok (.return_, 1) := by decide +kernel
theorem dX6_roll_0 : decode cX6_roll 0 = .ok (.iload_n 1, 1) := by decide +kernel
theorem dX6_roll_1 : decode cX6_roll 1 = .ok (.istore 4, 2) := by decide +kernel
theorem dX6_roll_3 : decode cX6_roll 3 = .ok (.iload_n 2, 1) := by decide +kernel
theorem dX6_roll_4 : decode cX6_roll 4 = .ok (.istore 5, 2) := by decide +kernel
theorem dX6_roll_6 : decode cX6_roll 6 = .ok (.iload_n 3, 1) := by decide +kernel
theorem dX6_roll_7 : decode cX6_roll 7 = .ok (.istore 6, 2) := by decide +kernel
theorem dX6_roll_9 : decode cX6_roll 9 = .ok (.iload 6, 2) := by decide +kernel
theorem dX6_roll_11 : decode cX6_roll 11 = .ok (.ifCond .le 117, 3) := by decide +kernel
theorem dX6_roll_14 : decode cX6_roll 14 = .ok (.aload_n 0, 1) := by decide +kernel
theorem dX6_roll_15 : decode cX6_roll 15 = .ok (.getfield 15, 3) := by decide +kernel
theorem dX6_roll_18 : decode cX6_roll 18 = .ok (.aload_n 0, 1) := by decide +kernel
theorem dX6_roll_19 : decode cX6_roll 19 = .ok (.getfield 9, 3) := by decide +kernel
theorem dX6_roll_22 : decode cX6_roll 22 = .ok (.iload 4, 2) := by decide +kernel
theorem dX6_roll_24 : decode cX6_roll 24 = .ok (.iaload, 1) := by decide +kernel
theorem dX6_roll_25 : decode cX6_roll 25 = .ok (.iload 5, 2) := by decide +kernel
theorem dX6_roll_27 : decode cX6_roll 27 = .ok (.invokevirtual 47, 3) := by decide +kernel
theorem dX6_roll_30 : decode cX6_roll 30 = .ok (.istore 7, 2) := by decide +kernel
theorem dX6_roll_32 : decode cX6_roll 32 = .ok (.iload 7, 2) := by decide +kernel
theorem dX6_roll_34 : decode cX6_roll 34 = .ok (.iconst (-1), 1) := by decide +kernel
theorem dX6_roll_35 : decode cX6_roll 35 = .ok (.if_icmp .ne 28, 3) := by decide +kernel
theorem dX6_roll_38 : decode cX6_roll 38 = .ok (.aload_n 0, 1) := by decide +kernel
theorem dX6_roll_39 : decode cX6_roll 39 = .ok (.getfield 19, 3) := by decide +kernel
theorem dX6_roll_42 : decode cX6_roll 42 = .ok (.ifCond .eq 10, 3) := by decide +kernel
theorem dX6_roll_45 : decode cX6_roll 45 = .ok (.aload_n 0, 1) := by decide +kernel
theorem dX6_roll_46 : decode cX6_roll 46 = .ok (.iload 4, 2) := by decide +kernel
theorem dX6_roll_48 : decode cX6_roll 48 = .ok (.invokevirtual 87, 3) := by decide +kernel
theorem dX6_roll_51 : decode cX6_roll 51 = .ok (.return_, 1) := by decide +kernel
theorem dX6_roll_52 : decode cX6_roll 52 = .ok (.iload 5, 2) := by decide +kernel
theorem dX6_roll_54 : decode cX6_roll 54 = .ok (.iconst 2, 1) := by decide +kernel
theorem dX6_roll_55 : decode cX6_roll 55 = .ok (.iadd, 1) := by decide +kernel
theorem dX6_roll_56 : decode cX6_roll 56 = .ok (.iconst 4, 1) := by decide +kernel
theorem dX6_roll_57 : decode cX6_roll 57 = .ok (.irem, 1) := by decide +kernel
theorem dX6_roll_58 : decode cX6_roll 58 = .ok (.istore 5, 2) := by decide +kernel
theorem dX6_roll_60 : decode cX6_roll 60 = .ok (.goto 62, 3) := by decide +kernel
theorem dX6_roll_63 : decode cX6_roll 63 = .ok (.aload_n 0, 1) := by decide +kernel
theorem dX6_roll_64 : decode cX6_roll 64 = .ok (.getfield 15, 3) := by decide +kernel
theorem dX6_roll_67 : decode cX6_roll 67 = .ok (.iload 7, 2) := by decide +kernel
theorem dX6_roll_69 : decode cX6_roll 69 = .ok (.invokevirtual 61, 3) := by decide +kernel
theorem dX6_roll_72 : decode cX6_roll 72 = .ok (.iconst 2, 1) := by decide +kernel
theorem dX6_roll_73 : decode cX6_roll 73 = .ok (.if_icmp .ne 4, 3) := by decide +kernel
theorem dX6_roll_76 : decode cX6_roll 76 = .ok (.return_, 1) := by decide +kernel
theorem dX6_roll_77 : decode cX6_roll 77 = .ok (.aload_n 0, 1) := by decide +kernel
theorem dX6_roll_78 : decode cX6_roll 78 = .ok (.iload 7, 2) := by decide +kernel
theorem dX6_roll_80 : decode cX6_roll 80 = .ok (.invokevirtual 51, 3) := by decide +kernel
theorem dX6_roll_83 : decode cX6_roll 83 = .ok (.bipush (-9), 2) := by decide +kernel
theorem dX6_roll_85 : decode cX6_roll 85 = .ok (.if_icmp .eq 14, 3) := by decide +kernel
theorem dX6_roll_88 : decode cX6_roll 88 = .ok (.aload_n 0, 1) := by decide +kernel
theorem dX6_roll_89 : decode cX6_roll 89 = .ok (.iload 7, 2) := by decide +kernel
theorem dX6_roll_91 : decode cX6_roll 91 = .ok (.invokevirtual 51, 3) := by decide +kernel
theorem dX6_roll_94 : decode cX6_roll 94 = .ok (.istore 4, 2) := by decide +kernel
theorem dX6_roll_96 : decode cX6_roll 96 = .ok (.goto 26, 3) := by decide +kernel
theorem dX6_roll_99 : decode cX6_roll 99 = .ok (.aload_n 0, 1) := by decide +kernel
theorem dX6_roll_100 : decode cX6_roll 100 = .ok (.getfield 9, 3) := by decide +kernel
theorem dX6_roll_103 : decode cX6_roll 103 = .ok (.iload 4, 2) := by decide +kernel
theorem dX6_roll_105 : decode cX6_roll 105 = .ok (.iload 7, 2) := by decide +kernel
theorem dX6_roll_107 : decode cX6_roll 107 = .ok (.iastore, 1) := by decide +kernel
theorem dX6_roll_108 : decode cX6_roll 108 = .ok (.aload_n 0, 1) := by decide +kernel
theorem dX6_roll_109 : decode cX6_roll 109 = .ok (.getfield 15, 3) := by decide +kernel
theorem dX6_roll_112 : decode cX6_roll 112 = .ok (.iload 7, 2) := by decide +kernel
theorem dX6_roll_114 : decode cX6_roll 114 = .ok (.invokevirtual 61, 3) := by decide +kernel
theorem dX6_roll_117 : decode cX6_roll 117 = .ok (.iconst 1, 1) := by decide +kernel
theorem dX6_roll_118 : decode cX6_roll 118 = .ok (.if_icmp .ne 4, 3) := by decide +kernel
theorem dX6_roll_121 : decode cX6_roll 121 = .ok (.return_, 1) := by decide +kernel
theorem dX6_roll_122 : decode cX6_roll 122 = .ok (.iinc 6 (-1), 3) := by decide +kernel
theorem dX6_roll_125 : decode cX6_roll 125 = .ok (.goto (-116), 3) := by decide +kernel
theorem dX6_roll_128 : decode cX6_roll 128 = .ok (.return_, 1) := by decide +kernel
theorem dX6_comeToRim_0 : decode cX6_comeToRim 0 = .ok (.aload_n 0, 1) := by decide +kernel
theorem dX6_comeToRim_1 : decode cX6_comeToRim 1 = .ok (.getfield 19, 3) := by decide +kernel
theorem dX6_comeToRim_4 : decode cX6_comeToRim 4 = .ok (.iconst 1, 1) := by decide +kernel
theorem dX6_comeToRim_5 : decode cX6_comeToRim 5 = .ok (.if_icmp .ne 23, 3) := by decide +kernel
theorem dX6_comeToRim_8 : decode cX6_comeToRim 8 = .ok (.aload_n 0, 1) := by decide +kernel
theorem dX6_comeToRim_9 : decode cX6_comeToRim 9 = .ok (.dup, 1) := by decide +kernel
theorem dX6_comeToRim_10 : decode cX6_comeToRim 10 = .ok (.getfield 26, 3) := by decide +kernel
theorem dX6_comeToRim_13 : decode cX6_comeToRim 13 = .ok (.iconst 1, 1) := by decide +kernel
theorem dX6_comeToRim_14 : decode cX6_comeToRim 14 = .ok (.iload_n 1, 1) := by decide +kernel
theorem dX6_comeToRim_15 : decode cX6_comeToRim 15 = .ok (.ishl, 1) := by decide +kernel
theorem dX6_comeToRim_16 : decode cX6_comeToRim 16 = .ok (.ior, 1) := by decide +kernel
theorem dX6_comeToRim_17 : decode cX6_comeToRim 17 = .ok (.putfield 26, 3) := by decide +kernel
theorem dX6_comeToRim_20 : decode cX6_comeToRim 20 = .ok (.aload_n 0, 1) := by decide +kernel
theorem dX6_comeToRim_21 : decode cX6_comeToRim 21 = .ok (.getfield 9, 3) := by decide +kernel
theorem dX6_comeToRim_24 : decode cX6_comeToRim 24 = .ok (.iload_n 1, 1) := by decide +kernel
theorem dX6_comeToRim_25 : decode cX6_comeToRim 25 = .ok (.bipush (-9), 2) := by decide +kernel
theorem dX6_comeToRim_27 : decode cX6_comeToRim 27 = .ok (.iastore, 1) := by decide +kernel
theorem dX6_comeToRim_28 : decode cX6_comeToRim 28 = .ok (.return_, 1) := by decide +kernel
theorem dX6_peaOn_0 : decode cX6_peaOn 0 = .ok (.iconst 0, 1) := by decide +kernel
theorem dX6_peaOn_1 : decode cX6_peaOn 1 = .ok (.istore_n 2, 1) := by decide +kernel
theorem dX6_peaOn_2 : decode cX6_peaOn 2 = .ok (.iload_n 2, 1) := by decide +kernel
theorem dX6_peaOn_3 : decode cX6_peaOn 3 = .ok (.iconst 5, 1) := by decide +kernel
theorem dX6_peaOn_4 : decode cX6_peaOn 4 = .ok (.if_icmp .ge 21, 3) := by decide +kernel
theorem dX6_peaOn_7 : decode cX6_peaOn 7 = .ok (.aload_n 0, 1) := by decide +kernel
theorem dX6_peaOn_8 : decode cX6_peaOn 8 = .ok (.getfield 9, 3) := by decide +kernel
theorem dX6_peaOn_11 : decode cX6_peaOn 11 = .ok (.iload_n 2, 1) := by decide +kernel
theorem dX6_peaOn_12 : decode cX6_peaOn 12 = .ok (.iaload, 1) := by decide +kernel
theorem dX6_peaOn_13 : decode cX6_peaOn 13 = .ok (.iload_n 1, 1) := by decide +kernel
theorem dX6_peaOn_14 : decode cX6_peaOn 14 = .ok (.if_icmp .ne 5, 3) := by decide +kernel
theorem dX6_peaOn_17 : decode cX6_peaOn 17 = .ok (.iload_n 2, 1) := by decide +kernel
theorem dX6_peaOn_18 : decode cX6_peaOn 18 = .ok (.ireturn, 1) := by decide +kernel
theorem dX6_peaOn_19 : decode cX6_peaOn 19 = .ok (.iinc 2 1, 3) := by decide +kernel
theorem dX6_peaOn_22 : decode cX6_peaOn 22 = .ok (.goto (-20), 3) := by decide +kernel
theorem dX6_peaOn_25 : decode cX6_peaOn 25 = .ok (.bipush (-9), 2) := by decide +kernel
theorem dX6_peaOn_27 : decode cX6_peaOn 27 = .ok (.ireturn, 1) := by decide +kernel
theorem dX7_init_0 : decode cX7_init 0 = .ok (.aload_n 0, 1) := by decide +kernel
theorem dX7_init_1 : decode cX7_init 1 = .ok (.invokespecial 1, 3) := by decide +kernel
theorem dX7_init_4 : decode cX7_init 4 = .ok (.return_, 1) := by decide +kernel
theorem dX7_leave_0 : decode cX7_leave 0 = .ok (.aload_n 0, 1) := by decide +kernel
theorem dX7_leave_1 : decode cX7_leave 1 = .ok (.bipush 31, 2) := by decide +kernel
theorem dX7_leave_3 : decode cX7_leave 3 = .ok (.aload_n 0, 1) := by decide +kernel
theorem dX7_leave_4 : decode cX7_leave 4 = .ok (.getfield 7, 3) := by decide +kernel
theorem dX7_leave_7 : decode cX7_leave 7 = .ok (.imul, 1) := by decide +kernel
theorem dX7_leave_8 : decode cX7_leave 8 = .ok (.iload_n 1, 1) := by decide +kernel
theorem dX7_leave_9 : decode cX7_leave 9 = .ok (.iadd, 1) := by decide +kernel
theorem dX7_leave_10 : decode cX7_leave 10 = .ok (.putfield 7, 3) := by decide +kernel
theorem dX7_leave_13 : decode cX7_leave 13 = .ok (.return_, 1) := by decide +kernel
theorem dX8_init_0 : decode cX8_init 0 = .ok (.aload_n 0, 1) := by decide +kernel
theorem dX8_init_1 : decode cX8_init 1 = .ok (.invokespecial 3, 3) := by decide +kernel
theorem dX8_init_4 : decode cX8_init 4 = .ok (.aload_n 0, 1) := by decide +kernel
theorem dX8_init_5 : decode cX8_init 5 = .ok (.bipush 30, 2) := by decide +kernel
theorem dX8_init_7 : decode cX8_init 7 = .ok (.newarray .int, 2) := by decide +kernel
theorem dX8_init_9 : decode cX8_init 9 = .ok (.putfield 11, 3) := by decide +kernel
theorem dX8_init_12 : decode cX8_init 12 = .ok (.aload_n 0, 1) := by decide +kernel
theorem dX8_init_13 : decode cX8_init 13 = .ok (.bipush 8, 2) := by decide +kernel
theorem dX8_init_15 : decode cX8_init 15 = .ok (.newarray .int, 2) := by decide +kernel
theorem dX8_init_17 : decode cX8_init 17 = .ok (.putfield 15, 3) := by decide +kernel
theorem dX8_init_20 : decode cX8_init 20 = .ok (.aload_n 0, 1) := by decide +kernel
theorem dX8_init_21 : decode cX8_init 21 = .ok (.bipush 8, 2) := by decide +kernel
theorem dX8_init_23 : decode cX8_init 23 = .ok (.newarray .int, 2) := by decide +kernel
theorem dX8_init_25 : decode cX8_init 25 = .ok (.putfield 18, 3) := by decide +kernel
theorem dX8_init_28 : decode cX8_init 28 = .ok (.aload_n 0, 1) := by decide +kernel
theorem dX8_init_29 : decode cX8_init 29 = .ok (.iconst 4, 1) := by decide +kernel
theorem dX8_init_30 : decode cX8_init 30 = .ok (.anewarray 21, 3) := by decide +kernel
theorem dX8_init_33 : decode cX8_init 33 = .ok (.putfield 23, 3) := by decide +kernel
theorem dX8_init_36 : decode cX8_init 36 = .ok (.aload_n 0, 1) := by decide +kernel
theorem dX8_init_37 : decode cX8_init 37 = .ok (.new 27, 3) := by decide +kernel
theorem dX8_init_40 : decode cX8_init 40 = .ok (.dup, 1) := by decide +kernel
theorem dX8_init_41 : decode cX8_init 41 = .ok (.invokespecial 29, 3) := by decide +kernel
theorem dX8_init_44 : decode cX8_init 44 = .ok (.putfield 30, 3) := by decide +kernel
theorem dX8_init_47 : decode cX8_init 47 = .ok (.new 34, 3) := by decide +kernel
theorem dX8_init_50 : decode cX8_init 50 = .ok (.dup, 1) := by decide +kernel
theorem dX8_init_51 : decode cX8_init 51 = .ok (.invokespecial 36, 3) := by decide +kernel
theorem dX8_init_54 : decode cX8_init 54 = .ok (.astore_n 1, 1) := by decide +kernel
theorem dX8_init_55 : decode cX8_init 55 = .ok (.aload_n 0, 1) := by decide +kernel
theorem dX8_init_56 : decode cX8_init 56 = .ok (.new 37, 3) := by decide +kernel
theorem dX8_init_59 : decode cX8_init 59 = .ok (.dup, 1) := by decide +kernel
theorem dX8_init_60 : decode cX8_init 60 = .ok (.aload_n 1, 1) := by decide +kernel
theorem dX8_init_61 : decode cX8_init 61 = .ok (.invokespecial 39, 3) := by decide +kernel
theorem dX8_init_64 : decode cX8_init 64 = .ok (.putfield 42, 3) := by decide +kernel
theorem dX8_init_67 : decode cX8_init 67 = .ok (.aload_n 0, 1) := by decide +kernel
theorem dX8_init_68 : decode cX8_init 68 = .ok (.new 37, 3) := by decide +kernel
theorem dX8_init_71 : decode cX8_init 71 = .ok (.dup, 1) := by decide +kernel
theorem dX8_init_72 : decode cX8_init 72 = .ok (.aload_n 1, 1) := by decide +kernel
theorem dX8_init_73 : decode cX8_init 73 = .ok (.invokespecial 39, 3) := by decide +kernel
theorem dX8_init_76 : decode cX8_init 76 = .ok (.putfield 46, 3) := by decide +kernel
theorem dX8_init_79 : decode cX8_init 79 = .ok (.aload_n 0, 1) := by decide +kernel
theorem dX8_init_80 : decode cX8_init 80 = .ok (.new 49, 3) := by decide +kernel
theorem dX8_init_83 : decode cX8_init 83 = .ok (.dup, 1) := by decide +kernel
theorem dX8_init_84 : decode cX8_init 84 = .ok (.aload_n 1, 1) := by decide +kernel
theorem dX8_init_85 : decode cX8_init 85 = .ok (.invokespecial 51, 3) := by decide +kernel
theorem dX8_init_88 : decode cX8_init 88 = .ok (.putfield 52, 3) := by decide +kernel
theorem dX8_init_91 : decode cX8_init 91 = .ok (.aload_n 0, 1) := by decide +kernel
theorem dX8_init_92 : decode cX8_init 92 = .ok (.aload_n 1, 1) := by decide +kernel
theorem dX8_init_93 : decode cX8_init 93 = .ok (.putfield 56, 3) := by decide +kernel
theorem dX8_init_96 : decode cX8_init 96 = .ok (.aload_n 0, 1) := by decide +kernel
theorem dX8_init_97 : decode cX8_init 97 = .ok (.new 34, 3) := by decide +kernel
theorem dX8_init_100 : decode cX8_init 100 = .ok (.dup, 1) := by decide +kernel
theorem dX8_init_101 : decode cX8_init 101 = .ok (.invokespecial 36, 3) := by decide +kernel
theorem dX8_init_104 : decode cX8_init 104 = .ok (.putfield 60, 3) := by decide +kernel
theorem dX8_init_107 : decode cX8_init 107 = .ok (.iconst 0, 1) := by decide +kernel
theorem dX8_init_108 : decode cX8_init 108 = .ok (.istore_n 2, 1) := by decide +kernel
theorem dX8_init_109 : decode cX8_init 109 = .ok (.iload_n 2, 1) := by decide +kernel
theorem dX8_init_110 : decode cX8_init 110 = .ok (.iconst 4, 1) := by decide +kernel
theorem dX8_init_111 : decode cX8_init 111 = .ok (.if_icmp .ge 22, 3) := by decide +kernel
theorem dX8_init_114 : decode cX8_init 114 = .ok (.aload_n 0, 1) := by decide +kernel
theorem dX8_init_115 : decode cX8_init 115 = .ok (.getfield 23, 3) := by decide +kernel
theorem dX8_init_118 : decode cX8_init 118 = .ok (.iload_n 2, 1) := by decide +kernel
theorem dX8_init_119 : decode cX8_init 119 = .ok (.new 21, 3) := by decide +kernel
theorem dX8_init_122 : decode cX8_init 122 = .ok (.dup, 1) := by decide +kernel
theorem dX8_init_123 : decode cX8_init 123 = .ok (.invokespecial 63, 3) := by decide +kernel
theorem dX8_init_126 : decode cX8_init 126 = .ok (.aastore, 1) := by decide +kernel
theorem dX8_init_127 : decode cX8_init 127 = .ok (.iinc 2 1, 3) := by decide +kernel
theorem dX8_init_130 : decode cX8_init 130 = .ok (.goto (-21), 3) := by decide +kernel
theorem dX8_init_133 : decode cX8_init 133 = .ok (.return_, 1) := by decide +kernel
theorem dX8_plate_0 : decode cX8_plate 0 = .ok (.aload_n 0, 1) := by decide +kernel
theorem dX8_plate_1 : decode cX8_plate 1 = .ok (.iconst 0, 1) := by decide +kernel
theorem dX8_plate_2 : decode cX8_plate 2 = .ok (.putfield 64, 3) := by decide +kernel
theorem dX8_plate_5 : decode cX8_plate 5 = .ok (.aload_n 0, 1) := by decide +kernel
theorem dX8_plate_6 : decode cX8_plate 6 = .ok (.iload_n 1, 1) := by decide +kernel
theorem dX8_plate_7 : decode cX8_plate 7 = .ok (.invokevirtual 68, 3) := by decide +kernel
theorem dX8_plate_10 : decode cX8_plate 10 = .ok (.astore 5, 2) := by decide +kernel
theorem dX8_plate_12 : decode cX8_plate 12 = .ok (.aload 5, 2) := by decide +kernel
theorem dX8_plate_14 : decode cX8_plate 14 = .ok (.ifnonnull 5, 3) := by decide +kernel
theorem dX8_plate_17 : decode cX8_plate 17 = .ok (.iconst (-1), 1) := by decide +kernel
theorem dX8_plate_18 : decode cX8_plate 18 = .ok (.ireturn, 1) := by decide +kernel
theorem dX8_plate_19 : decode cX8_plate 19 = .ok (.iload_n 2, 1) := by decide +kernel
theorem dX8_plate_20 : decode cX8_plate 20 = .ok (.iconst 3, 1) := by decide +kernel
theorem dX8_plate_21 : decode cX8_plate 21 = .ok (.invokestatic 72, 3) := by decide +kernel
theorem dX8_plate_24 : decode cX8_plate 24 = .ok (.ifCond .ne 6, 3) := by decide +kernel
theorem dX8_plate_27 : decode cX8_plate 27 = .ok (.bipush (-2), 2) := by decide +kernel
theorem dX8_plate_29 : decode cX8_plate 29 = .ok (.ireturn, 1) := by decide +kernel
theorem dX8_plate_30 : decode cX8_plate 30 = .ok (.aload 5, 2) := by decide +kernel
theorem dX8_plate_32 : decode cX8_plate 32 = .ok (.iload_n 2, 1) := by decide +kernel
theorem dX8_plate_33 : decode cX8_plate 33 = .ok (.iload_n 3, 1) := by decide +kernel
theorem dX8_plate_34 : decode cX8_plate 34 = .ok (.iload 4, 2) := by decide +kernel
theorem dX8_plate_36 : decode cX8_plate 36 = .ok (.invokevirtual 76, 3) := by decide +kernel
theorem dX8_plate_39 : decode cX8_plate 39 = .ok (.istore 6, 2) := by decide +kernel
theorem dX8_plate_41 : decode cX8_plate 41 = .ok (.iload 6, 2) := by decide +kernel
theorem dX8_plate_43 : decode cX8_plate 43 = .ok (.ifCond .eq 10, 3) := by decide +kernel
theorem dX8_plate_46 : decode cX8_plate 46 = .ok (.aload_n 0, 1) := by decide +kernel
theorem dX8_plate_47 : decode cX8_plate 47 = .ok (.iload 6, 2) := by decide +kernel
theorem dX8_plate_49 : decode cX8_plate 49 = .ok (.invokevirtual 80, 3) := by decide +kernel
theorem dX8_plate_52 : decode cX8_plate 52 = .ok (.ireturn, 1) := by decide +kernel
theorem dX8_plate_53 : decode cX8_plate 53 = .ok (.aload_n 0, 1) := by decide +kernel
theorem dX8_plate_54 : decode cX8_plate 54 = .ok (.getfield 60, 3) := by decide +kernel
theorem dX8_plate_57 : decode cX8_plate 57 = .ok (.aload 5, 2) := by decide +kernel
theorem dX8_plate_59 : decode cX8_plate 59 = .ok (.iload_n 3, 1) := by decide +kernel
theorem dX8_plate_60 : decode cX8_plate 60 = .ok (.iload 4, 2) := by decide +kernel
theorem dX8_plate_62 : decode cX8_plate 62 = .ok (.invokevirtual 84, 3) := by decide +kernel
theorem dX8_plate_65 : decode cX8_plate 65 = .ok (.istore 7, 2) := by decide +kernel
theorem dX8_plate_67 : decode cX8_plate 67 = .ok (.iload 7, 2) := by decide +kernel
theorem dX8_plate_69 : decode cX8_plate 69 = .ok (.bipush (-9), 2) := by decide +kernel
theorem dX8_plate_71 : decode cX8_plate 71 = .ok (.if_icmp .eq 9, 3) := by decide +kernel
theorem dX8_plate_74 : decode cX8_plate 74 = .ok (.bipush (-100), 2) := by decide +kernel
theorem dX8_plate_76 : decode cX8_plate 76 = .ok (.iload 7, 2) := by decide +kernel
theorem dX8_plate_78 : decode cX8_plate 78 = .ok (.isub, 1) := by decide +kernel
theorem dX8_plate_79 : decode cX8_plate 79 = .ok (.ireturn, 1) := by decide +kernel
theorem dX8_plate_80 : decode cX8_plate 80 = .ok (.aload_n 0, 1) := by decide +kernel
theorem dX8_plate_81 : decode cX8_plate 81 = .ok (.invokevirtual 88, 3) := by decide +kernel
theorem dX8_plate_84 : decode cX8_plate 84 = .ok (.aload_n 0, 1) := by decide +kernel
theorem dX8_plate_85 : decode cX8_plate 85 = .ok (.getfield 56, 3) := by decide +kernel
theorem dX8_plate_88 : decode cX8_plate 88 = .ok (.getfield 91, 3) := by decide +kernel
theorem dX8_plate_91 : decode cX8_plate 91 = .ok (.ireturn, 1) := by decide +kernel
theorem dX8_sign_0 : decode cX8_sign 0 = .ok (.aload_n 0, 1) := by decide +kernel
theorem dX8_sign_1 : decode cX8_sign 1 = .ok (.getfield 56, 3) := by decide +kernel
theorem dX8_sign_4 : decode cX8_sign 4 = .ok (.iload_n 1, 1) := by decide +kernel
theorem dX8_sign_5 : decode cX8_sign 5 = .ok (.invokevirtual 94, 3) := by decide +kernel
theorem dX8_sign_8 : decode cX8_sign 8 = .ok (.ifCond .eq 14, 3) := by decide +kernel
theorem dX8_sign_11 : decode cX8_sign 11 = .ok (.aload_n 0, 1) := by decide +kernel
theorem dX8_sign_12 : decode cX8_sign 12 = .ok (.getfield 56, 3) := by decide +kernel
theorem dX8_sign_15 : decode cX8_sign 15 = .ok (.iload_n 1, 1) := by decide +kernel
theorem dX8_sign_16 : decode cX8_sign 16 = .ok (.invokevirtual 98, 3) := by decide +kernel
theorem dX8_sign_19 : decode cX8_sign 19 = .ok (.goto 4, 3) := by decide +kernel
theorem dX8_sign_22 : decode cX8_sign 22 = .ok (.iconst (-1), 1) := by decide +kernel
theorem dX8_sign_23 : decode cX8_sign 23 = .ok (.ireturn, 1) := by decide +kernel
theorem dX8_set_0 : decode cX8_set 0 = .ok (.aload_n 0, 1) := by decide +kernel
theorem dX8_set_1 : decode cX8_set 1 = .ok (.getfield 56, 3) := by decide +kernel
theorem dX8_set_4 : decode cX8_set 4 = .ok (.iload_n 1, 1) := by decide +kernel
theorem dX8_set_5 : decode cX8_set 5 = .ok (.invokevirtual 94, 3) := by decide +kernel
theorem dX8_set_8 : decode cX8_set 8 = .ok (.ifCond .ne 5, 3) := by decide +kernel
theorem dX8_set_11 : decode cX8_set 11 = .ok (.iconst (-1), 1) := by decide +kernel
theorem dX8_set_12 : decode cX8_set 12 = .ok (.ireturn, 1) := by decide +kernel
theorem dX8_set_13 : decode cX8_set 13 = .ok (.iload_n 2, 1) := by decide +kernel
theorem dX8_set_14 : decode cX8_set 14 = .ok (.iconst 3, 1) := by decide +kernel
theorem dX8_set_15 : decode cX8_set 15 = .ok (.invokestatic 72, 3) := by decide +kernel
theorem dX8_set_18 : decode cX8_set 18 = .ok (.ifCond .ne 6, 3) := by decide +kernel
theorem dX8_set_21 : decode cX8_set 21 = .ok (.bipush (-2), 2) := by decide +kernel
theorem dX8_set_23 : decode cX8_set 23 = .ok (.ireturn, 1) := by decide +kernel
theorem dX8_set_24 : decode cX8_set 24 = .ok (.iload_n 2, 1) := by decide +kernel
theorem dX8_set_25 : decode cX8_set 25 = .ok (.iconst 2, 1) := by decide +kernel
theorem dX8_set_26 : decode cX8_set 26 = .ok (.if_icmp .ne 17, 3) := by decide +kernel
theorem dX8_set_29 : decode cX8_set 29 = .ok (.aload_n 0, 1) := by decide +kernel
theorem dX8_set_30 : decode cX8_set 30 = .ok (.getfield 56, 3) := by decide +kernel
theorem dX8_set_33 : decode cX8_set 33 = .ok (.iload_n 1, 1) := by decide +kernel
theorem dX8_set_34 : decode cX8_set 34 = .ok (.invokevirtual 101, 3) := by decide +kernel
theorem dX8_set_37 : decode cX8_set 37 = .ok (.ifCond .eq 6, 3) := by decide +kernel
theorem dX8_set_40 : decode cX8_set 40 = .ok (.bipush (-3), 2) := by decide +kernel
theorem dX8_set_42 : decode cX8_set 42 = .ok (.ireturn, 1) := by decide +kernel
theorem dX8_set_43 : decode cX8_set 43 = .ok (.aload_n 0, 1) := by decide +kernel
theorem dX8_set_44 : decode cX8_set 44 = .ok (.getfield 56, 3) := by decide +kernel
theorem dX8_set_47 : decode cX8_set 47 = .ok (.iload_n 1, 1) := by decide +kernel
theorem dX8_set_48 : decode cX8_set 48 = .ok (.invokevirtual 98, 3) := by decide +kernel
theorem dX8_set_51 : decode cX8_set 51 = .ok (.istore_n 3, 1) := by decide +kernel
theorem dX8_set_52 : decode cX8_set 52 = .ok (.aload_n 0, 1) := by decide +kernel
theorem dX8_set_53 : decode cX8_set 53 = .ok (.getfield 56, 3) := by decide +kernel
theorem dX8_set_56 : decode cX8_set 56 = .ok (.iload_n 1, 1) := by decide +kernel
theorem dX8_set_57 : decode cX8_set 57 = .ok (.iload_n 2, 1) := by decide +kernel
theorem dX8_set_58 : decode cX8_set 58 = .ok (.invokevirtual 104, 3) := by decide +kernel
theorem dX8_set_61 : decode cX8_set 61 = .ok (.aload_n 0, 1) := by decide +kernel
theorem dX8_set_62 : decode cX8_set 62 = .ok (.invokevirtual 108, 3) := by decide +kernel
theorem dX8_set_65 : decode cX8_set 65 = .ok (.iload_n 3, 1) := by decide +kernel
theorem dX8_set_66 : decode cX8_set 66 = .ok (.ireturn, 1) := by decide +kernel
theorem dX8_ofEater_0 : decode cX8_ofEater 0 = .ok (.aload_n 0, 1) := by decide +kernel
theorem dX8_ofEater_1 : decode cX8_ofEater 1 = .ok (.getfield 56, 3) := by decide +kernel
theorem dX8_ofEater_4 : decode cX8_ofEater 4 = .ok (.iload_n 1, 1) := by decide +kernel
theorem dX8_ofEater_5 : decode cX8_ofEater 5 = .ok (.invokevirtual 111, 3) := by decide +kernel
theorem dX8_ofEater_8 : decode cX8_ofEater 8 = .ok (.astore_n 3, 1) := by decide +kernel
theorem dX8_ofEater_9 : decode cX8_ofEater 9 = .ok (.aload_n 3, 1) := by decide +kernel
theorem dX8_ofEater_10 : decode cX8_ofEater 10 = .ok (.ifnonnull 5, 3) := by decide +kernel
theorem dX8_ofEater_13 : decode cX8_ofEater 13 = .ok (.iconst (-1), 1) := by decide +kernel
theorem dX8_ofEater_14 : decode cX8_ofEater 14 = .ok (.ireturn, 1) := by decide +kernel
theorem dX8_ofEater_15 : decode cX8_ofEater 15 = .ok (.iload_n 2, 1) := by decide +kernel
theorem dX8_ofEater_16 : decode cX8_ofEater 16 = .ok (.tableswitch 43 0 2 #[28, 33, 38], 28) := by decide +kernel
theorem dX8_ofEater_44 : decode cX8_ofEater 44 = .ok (.aload_n 3, 1) := by decide +kernel
theorem dX8_ofEater_45 : decode cX8_ofEater 45 = .ok (.invokevirtual 115, 3) := by decide +kernel
theorem dX8_ofEater_48 : decode cX8_ofEater 48 = .ok (.ireturn, 1) := by decide +kernel
theorem dX8_ofEater_49 : decode cX8_ofEater 49 = .ok (.aload_n 3, 1) := by decide +kernel
theorem dX8_ofEater_50 : decode cX8_ofEater 50 = .ok (.getfield 121, 3) := by decide +kernel
theorem dX8_ofEater_53 : decode cX8_ofEater 53 = .ok (.ireturn, 1) := by decide +kernel
theorem dX8_ofEater_54 : decode cX8_ofEater 54 = .ok (.aload_n 3, 1) := by decide +kernel
theorem dX8_ofEater_55 : decode cX8_ofEater 55 = .ok (.invokevirtual 124, 3) := by decide +kernel
theorem dX8_ofEater_58 : decode cX8_ofEater 58 = .ok (.ireturn, 1) := by decide +kernel
theorem dX8_ofEater_59 : decode cX8_ofEater 59 = .ok (.bipush (-2), 2) := by decide +kernel
theorem dX8_ofEater_61 : decode cX8_ofEater 61 = .ok (.ireturn, 1) := by decide +kernel
theorem dX8_law_0 : decode cX8_law 0 = .ok (.iload_n 1, 1) := by decide +kernel
theorem dX8_law_1 : decode cX8_law 1 = .ok (.iconst 3, 1) := by decide +kernel
theorem dX8_law_2 : decode cX8_law 2 = .ok (.invokestatic 72, 3) := by decide +kernel
theorem dX8_law_5 : decode cX8_law 5 = .ok (.ifCond .ne 6, 3) := by decide +kernel
theorem dX8_law_8 : decode cX8_law 8 = .ok (.bipush (-2), 2) := by decide +kernel
theorem dX8_law_10 : decode cX8_law 10 = .ok (.ireturn, 1) := by decide +kernel
theorem dX8_law_11 : decode cX8_law 11 = .ok (.aload_n 0, 1) := by decide +kernel
theorem dX8_law_12 : decode cX8_law 12 = .ok (.getfield 56, 3) := by decide +kernel
theorem dX8_law_15 : decode cX8_law 15 = .ok (.invokevirtual 127, 3) := by decide +kernel
theorem dX8_law_18 : decode cX8_law 18 = .ok (.ifCond .ne 6, 3) := by decide +kernel
theorem dX8_law_21 : decode cX8_law 21 = .ok (.bipush (-3), 2) := by decide +kernel
theorem dX8_law_23 : decode cX8_law 23 = .ok (.ireturn, 1) := by decide +kernel
theorem dX8_law_24 : decode cX8_law 24 = .ok (.aload_n 0, 1) := by decide +kernel
theorem dX8_law_25 : decode cX8_law 25 = .ok (.getfield 131, 3) := by decide +kernel
theorem dX8_law_28 : decode cX8_law 28 = .ok (.istore_n 2, 1) := by decide +kernel
theorem dX8_law_29 : decode cX8_law 29 = .ok (.aload_n 0, 1) := by decide +kernel
theorem dX8_law_30 : decode cX8_law 30 = .ok (.iload_n 1, 1) := by decide +kernel
theorem dX8_law_31 : decode cX8_law 31 = .ok (.putfield 131, 3) := by decide +kernel
theorem dX8_law_34 : decode cX8_law 34 = .ok (.aload_n 0, 1) := by decide +kernel
theorem dX8_law_35 : decode cX8_law 35 = .ok (.invokevirtual 108, 3) := by decide +kernel
theorem dX8_law_38 : decode cX8_law 38 = .ok (.iload_n 2, 1) := by decide +kernel
theorem dX8_law_39 : decode cX8_law 39 = .ok (.ireturn, 1) := by decide +kernel
theorem dX8_push_0 : decode cX8_push 0 = .ok (.aload_n 0, 1) := by decide +kernel
theorem dX8_push_1 : decode cX8_push 1 = .ok (.iload_n 1, 1) := by decide +kernel
theorem dX8_push_2 : decode cX8_push 2 = .ok (.iload_n 2, 1) := by decide +kernel
theorem dX8_push_3 : decode cX8_push 3 = .ok (.iload_n 3, 1) := by decide +kernel
theorem dX8_push_4 : decode cX8_push 4 = .ok (.invokevirtual 134, 3) := by decide +kernel
theorem dX8_push_7 : decode cX8_push 7 = .ok (.istore 4, 2) := by decide +kernel
theorem dX8_push_9 : decode cX8_push 9 = .ok (.iload 4, 2) := by decide +kernel
theorem dX8_push_11 : decode cX8_push 11 = .ok (.ifCond .eq 6, 3) := by decide +kernel
theorem dX8_push_14 : decode cX8_push 14 = .ok (.iload 4, 2) := by decide +kernel
theorem dX8_push_16 : decode cX8_push 16 = .ok (.ireturn, 1) := by decide +kernel
theorem dX8_push_17 : decode cX8_push 17 = .ok (.aload_n 0, 1) := by decide +kernel
theorem dX8_push_18 : decode cX8_push 18 = .ok (.getfield 137, 3) := by decide +kernel
theorem dX8_push_21 : decode cX8_push 21 = .ok (.bipush 30, 2) := by decide +kernel
theorem dX8_push_23 : decode cX8_push 23 = .ok (.if_icmp .lt 6, 3) := by decide +kernel
theorem dX8_push_26 : decode cX8_push 26 = .ok (.bipush (-4), 2) := by decide +kernel
theorem dX8_push_28 : decode cX8_push 28 = .ok (.ireturn, 1) := by decide +kernel
theorem dX8_push_29 : decode cX8_push 29 = .ok (.iload_n 1, 1) := by decide +kernel
theorem dX8_push_30 : decode cX8_push 30 = .ok (.iload_n 2, 1) := by decide +kernel
theorem dX8_push_31 : decode cX8_push 31 = .ok (.iload_n 3, 1) := by decide +kernel
theorem dX8_push_32 : decode cX8_push 32 = .ok (.invokestatic 140, 3) := by decide +kernel
theorem dX8_push_35 : decode cX8_push 35 = .ok (.istore 5, 2) := by decide +kernel
theorem dX8_push_37 : decode cX8_push 37 = .ok (.aload_n 0, 1) := by decide +kernel
theorem dX8_push_38 : decode cX8_push 38 = .ok (.getfield 11, 3) := by decide +kernel
theorem dX8_push_41 : decode cX8_push 41 = .ok (.aload_n 0, 1) := by decide +kernel
theorem dX8_push_42 : decode cX8_push 42 = .ok (.getfield 137, 3) := by decide +kernel
theorem dX8_push_45 : decode cX8_push 45 = .ok (.iload 5, 2) := by decide +kernel
theorem dX8_push_47 : decode cX8_push 47 = .ok (.iastore, 1) := by decide +kernel
theorem dX8_push_48 : decode cX8_push 48 = .ok (.aload_n 0, 1) := by decide +kernel
theorem dX8_push_49 : decode cX8_push 49 = .ok (.dup, 1) := by decide +kernel
theorem dX8_push_50 : decode cX8_push 50 = .ok (.getfield 137, 3) := by decide +kernel
theorem dX8_push_53 : decode cX8_push 53 = .ok (.iconst 1, 1) := by decide +kernel
theorem dX8_push_54 : decode cX8_push 54 = .ok (.iadd, 1) := by decide +kernel
theorem dX8_push_55 : decode cX8_push 55 = .ok (.putfield 137, 3) := by decide +kernel
theorem dX8_push_58 : decode cX8_push 58 = .ok (.aload_n 0, 1) := by decide +kernel
theorem dX8_push_59 : decode cX8_push 59 = .ok (.getfield 42, 3) := by decide +kernel
theorem dX8_push_62 : decode cX8_push 62 = .ok (.iload 5, 2) := by decide +kernel
theorem dX8_push_64 : decode cX8_push 64 = .ok (.invokevirtual 143, 3) := by decide +kernel
theorem dX8_push_67 : decode cX8_push 67 = .ok (.aload_n 0, 1) := by decide +kernel
theorem dX8_push_68 : decode cX8_push 68 = .ok (.getfield 137, 3) := by decide +kernel
theorem dX8_push_71 : decode cX8_push 71 = .ok (.iconst 1, 1) := by decide +kernel
theorem dX8_push_72 : decode cX8_push 72 = .ok (.isub, 1) := by decide +kernel
theorem dX8_push_73 : decode cX8_push 73 = .ok (.ireturn, 1) := by decide +kernel
theorem dX8_undo_0 : decode cX8_undo 0 = .ok (.iload_n 1, 1) := by decide +kernel
theorem dX8_undo_1 : decode cX8_undo 1 = .ok (.ifCond .lt 11, 3) := by decide +kernel
theorem dX8_undo_4 : decode cX8_undo 4 = .ok (.iload_n 1, 1) := by decide +kernel
theorem dX8_undo_5 : decode cX8_undo 5 = .ok (.aload_n 0, 1) := by decide +kernel
theorem dX8_undo_6 : decode cX8_undo 6 = .ok (.getfield 137, 3) := by decide +kernel
theorem dX8_undo_9 : decode cX8_undo 9 = .ok (.if_icmp .le 6, 3) := by decide +kernel
theorem dX8_undo_12 : decode cX8_undo 12 = .ok (.bipush (-2), 2) := by decide +kernel
theorem dX8_undo_14 : decode cX8_undo 14 = .ok (.ireturn, 1) := by decide +kernel
theorem dX8_undo_15 : decode cX8_undo 15 = .ok (.aload_n 0, 1) := by decide +kernel
theorem dX8_undo_16 : decode cX8_undo 16 = .ok (.dup, 1) := by decide +kernel
theorem dX8_undo_17 : decode cX8_undo 17 = .ok (.getfield 137, 3) := by decide +kernel
theorem dX8_undo_20 : decode cX8_undo 20 = .ok (.iload_n 1, 1) := by decide +kernel
theorem dX8_undo_21 : decode cX8_undo 21 = .ok (.isub, 1) := by decide +kernel
theorem dX8_undo_22 : decode cX8_undo 22 = .ok (.putfield 137, 3) := by decide +kernel
theorem dX8_undo_25 : decode cX8_undo 25 = .ok (.aload_n 0, 1) := by decide +kernel
theorem dX8_undo_26 : decode cX8_undo 26 = .ok (.invokevirtual 108, 3) := by decide +kernel
theorem dX8_undo_29 : decode cX8_undo 29 = .ok (.aload_n 0, 1) := by decide +kernel
theorem dX8_undo_30 : decode cX8_undo 30 = .ok (.getfield 137, 3) := by decide +kernel
theorem dX8_undo_33 : decode cX8_undo 33 = .ok (.ireturn, 1) := by decide +kernel
theorem dX8_where_0 : decode cX8_where 0 = .ok (.aload_n 0, 1) := by decide +kernel
theorem dX8_where_1 : decode cX8_where 1 = .ok (.getfield 56, 3) := by decide +kernel
theorem dX8_where_4 : decode cX8_where 4 = .ok (.iload_n 1, 1) := by decide +kernel
theorem dX8_where_5 : decode cX8_where 5 = .ok (.invokevirtual 147, 3) := by decide +kernel
theorem dX8_where_8 : decode cX8_where 8 = .ok (.ifCond .eq 14, 3) := by decide +kernel
theorem dX8_where_11 : decode cX8_where 11 = .ok (.aload_n 0, 1) := by decide +kernel
theorem dX8_where_12 : decode cX8_where 12 = .ok (.getfield 42, 3) := by decide +kernel
theorem dX8_where_15 : decode cX8_where 15 = .ok (.iload_n 1, 1) := by decide +kernel
theorem dX8_where_16 : decode cX8_where 16 = .ok (.invokevirtual 150, 3) := by decide +kernel
theorem dX8_where_19 : decode cX8_where 19 = .ok (.goto 4, 3) := by decide +kernel
theorem dX8_where_22 : decode cX8_where 22 = .ok (.iconst (-1), 1) := by decide +kernel
theorem dX8_where_23 : decode cX8_where 23 = .ok (.ireturn, 1) := by decide +kernel
theorem dX8_peas_0 : decode cX8_peas 0 = .ok (.iload_n 1, 1) := by decide +kernel
theorem dX8_peas_1 : decode cX8_peas 1 = .ok (.bipush 6, 2) := by decide +kernel
theorem dX8_peas_3 : decode cX8_peas 3 = .ok (.invokestatic 72, 3) := by decide +kernel
theorem dX8_peas_6 : decode cX8_peas 6 = .ok (.ifCond .ne 6, 3) := by decide +kernel
theorem dX8_peas_9 : decode cX8_peas 9 = .ok (.bipush (-2), 2) := by decide +kernel
theorem dX8_peas_11 : decode cX8_peas 11 = .ok (.ireturn, 1) := by decide +kernel
theorem dX8_peas_12 : decode cX8_peas 12 = .ok (.aload_n 0, 1) := by decide +kernel
theorem dX8_peas_13 : decode cX8_peas 13 = .ok (.getfield 56, 3) := by decide +kernel
theorem dX8_peas_16 : decode cX8_peas 16 = .ok (.invokevirtual 127, 3) := by decide +kernel
theorem dX8_peas_19 : decode cX8_peas 19 = .ok (.ifCond .ne 6, 3) := by decide +kernel
theorem dX8_peas_22 : decode cX8_peas 22 = .ok (.bipush (-3), 2) := by decide +kernel
theorem dX8_peas_24 : decode cX8_peas 24 = .ok (.ireturn, 1) := by decide +kernel
theorem dX8_peas_25 : decode cX8_peas 25 = .ok (.iload_n 1, 1) := by decide +kernel
theorem dX8_peas_26 : decode cX8_peas 26 = .ok (.ifCond .ne 11, 3) := by decide +kernel
theorem dX8_peas_29 : decode cX8_peas 29 = .ok (.aload_n 0, 1) := by decide +kernel
theorem dX8_peas_30 : decode cX8_peas 30 = .ok (.getfield 42, 3) := by decide +kernel
theorem dX8_peas_33 : decode cX8_peas 33 = .ok (.getfield 153, 3) := by decide +kernel
theorem dX8_peas_36 : decode cX8_peas 36 = .ok (.ireturn, 1) := by decide +kernel
theorem dX8_peas_37 : decode cX8_peas 37 = .ok (.iload_n 1, 1) := by decide +kernel
theorem dX8_peas_38 : decode cX8_peas 38 = .ok (.iconst 1, 1) := by decide +kernel
theorem dX8_peas_39 : decode cX8_peas 39 = .ok (.if_icmp .ne 13, 3) := by decide +kernel
theorem dX8_peas_42 : decode cX8_peas 42 = .ok (.aload_n 0, 1) := by decide +kernel
theorem dX8_peas_43 : decode cX8_peas 43 = .ok (.getfield 42, 3) := by decide +kernel
theorem dX8_peas_46 : decode cX8_peas 46 = .ok (.getfield 156, 3) := by decide +kernel
theorem dX8_peas_49 : decode cX8_peas 49 = .ok (.goto 13, 3) := by decide +kernel
theorem dX8_peas_52 : decode cX8_peas 52 = .ok (.aload_n 0, 1) := by decide +kernel
theorem dX8_peas_53 : decode cX8_peas 53 = .ok (.getfield 42, 3) := by decide +kernel
theorem dX8_peas_56 : decode cX8_peas 56 = .ok (.iload_n 1, 1) := by decide +kernel
theorem dX8_peas_57 : decode cX8_peas 57 = .ok (.iconst 2, 1) := by decide +kernel
theorem dX8_peas_58 : decode cX8_peas 58 = .ok (.isub, 1) := by decide +kernel
theorem dX8_peas_59 : decode cX8_peas 59 = .ok (.invokevirtual 159, 3) := by decide +kernel
theorem dX8_peas_62 : decode cX8_peas 62 = .ok (.ireturn, 1) := by decide +kernel
theorem dX8_would_0 : decode cX8_would 0 = .ok (.aload_n 0, 1) := by decide +kernel
theorem dX8_would_1 : decode cX8_would 1 = .ok (.iload_n 1, 1) := by decide +kernel
theorem dX8_would_2 : decode cX8_would 2 = .ok (.iload_n 2, 1) := by decide +kernel
theorem dX8_would_3 : decode cX8_would 3 = .ok (.iload_n 3, 1) := by decide +kernel
theorem dX8_would_4 : decode cX8_would 4 = .ok (.invokevirtual 134, 3) := by decide +kernel
theorem dX8_would_7 : decode cX8_would 7 = .ok (.istore 5, 2) := by decide +kernel
theorem dX8_would_9 : decode cX8_would 9 = .ok (.iload 5, 2) := by decide +kernel
theorem dX8_would_11 : decode cX8_would 11 = .ok (.ifCond .eq 6, 3) := by decide +kernel
theorem dX8_would_14 : decode cX8_would 14 = .ok (.iload 5, 2) := by decide +kernel
theorem dX8_would_16 : decode cX8_would 16 = .ok (.ireturn, 1) := by decide +kernel
theorem dX8_would_17 : decode cX8_would 17 = .ok (.iload 4, 2) := by decide +kernel
theorem dX8_would_19 : decode cX8_would 19 = .ok (.iconst 3, 1) := by decide +kernel
theorem dX8_would_20 : decode cX8_would 20 = .ok (.invokestatic 72, 3) := by decide +kernel
theorem dX8_would_23 : decode cX8_would 23 = .ok (.ifCond .ne 6, 3) := by decide +kernel
theorem dX8_would_26 : decode cX8_would 26 = .ok (.bipush (-2), 2) := by decide +kernel
theorem dX8_would_28 : decode cX8_would 28 = .ok (.ireturn, 1) := by decide +kernel
theorem dX8_would_29 : decode cX8_would 29 = .ok (.aload_n 0, 1) := by decide +kernel
theorem dX8_would_30 : decode cX8_would 30 = .ok (.getfield 42, 3) := by decide +kernel
theorem dX8_would_33 : decode cX8_would 33 = .ok (.iload_n 2, 1) := by decide +kernel
theorem dX8_would_34 : decode cX8_would 34 = .ok (.invokevirtual 162, 3) := by decide +kernel
theorem dX8_would_37 : decode cX8_would 37 = .ok (.ifCond .ne 6, 3) := by decide +kernel
theorem dX8_would_40 : decode cX8_would 40 = .ok (.bipush (-3), 2) := by decide +kernel
theorem dX8_would_42 : decode cX8_would 42 = .ok (.ireturn, 1) := by decide +kernel
theorem dX8_would_43 : decode cX8_would 43 = .ok (.aload_n 0, 1) := by decide +kernel
theorem dX8_would_44 : decode cX8_would 44 = .ok (.getfield 46, 3) := by decide +kernel
theorem dX8_would_47 : decode cX8_would 47 = .ok (.aload_n 0, 1) := by decide +kernel
theorem dX8_would_48 : decode cX8_would 48 = .ok (.getfield 42, 3) := by decide +kernel
theorem dX8_would_51 : decode cX8_would 51 = .ok (.invokevirtual 165, 3) := by decide +kernel
theorem dX8_would_54 : decode cX8_would 54 = .ok (.aload_n 0, 1) := by decide +kernel
theorem dX8_would_55 : decode cX8_would 55 = .ok (.getfield 46, 3) := by decide +kernel
theorem dX8_would_58 : decode cX8_would 58 = .ok (.iload_n 1, 1) := by decide +kernel
theorem dX8_would_59 : decode cX8_would 59 = .ok (.iload_n 2, 1) := by decide +kernel
theorem dX8_would_60 : decode cX8_would 60 = .ok (.iload_n 3, 1) := by decide +kernel
theorem dX8_would_61 : decode cX8_would 61 = .ok (.invokestatic 140, 3) := by decide +kernel
theorem dX8_would_64 : decode cX8_would 64 = .ok (.invokevirtual 143, 3) := by decide +kernel
theorem dX8_would_67 : decode cX8_would 67 = .ok (.iload 4, 2) := by decide +kernel
theorem dX8_would_69 : decode cX8_would 69 = .ok (.ifCond .ne 12, 3) := by decide +kernel
theorem dX8_would_72 : decode cX8_would 72 = .ok (.aload_n 0, 1) := by decide +kernel
theorem dX8_would_73 : decode cX8_would 73 = .ok (.getfield 46, 3) := by decide +kernel
theorem dX8_would_76 : decode cX8_would 76 = .ok (.iload_n 2, 1) := by decide +kernel
theorem dX8_would_77 : decode cX8_would 77 = .ok (.invokevirtual 150, 3) := by decide +kernel
theorem dX8_would_80 : decode cX8_would 80 = .ok (.ireturn, 1) := by decide +kernel
theorem dX8_would_81 : decode cX8_would 81 = .ok (.iload 4, 2) := by decide +kernel
theorem dX8_would_83 : decode cX8_would 83 = .ok (.iconst 1, 1) := by decide +kernel
theorem dX8_would_84 : decode cX8_would 84 = .ok (.if_icmp .ne 13, 3) := by decide +kernel
theorem dX8_would_87 : decode cX8_would 87 = .ok (.aload_n 0, 1) := by decide +kernel
theorem dX8_would_88 : decode cX8_would 88 = .ok (.getfield 46, 3) := by decide +kernel
theorem dX8_would_91 : decode cX8_would 91 = .ok (.getfield 153, 3) := by decide +kernel
theorem dX8_would_94 : decode cX8_would 94 = .ok (.goto 14, 3) := by decide +kernel
theorem dX8_would_97 : decode cX8_would 97 = .ok (.aload_n 0, 1) := by decide +kernel
theorem dX8_would_98 : decode cX8_would 98 = .ok (.getfield 46, 3) := by decide +kernel
theorem dX8_would_101 : decode cX8_would 101 = .ok (.aload_n 0, 1) := by decide +kernel
theorem dX8_would_102 : decode cX8_would 102 = .ok (.getfield 42, 3) := by decide +kernel
theorem dX8_would_105 : decode cX8_would 105 = .ok (.invokevirtual 169, 3) := by decide +kernel
theorem dX8_would_108 : decode cX8_would 108 = .ok (.ireturn, 1) := by decide +kernel
theorem dX8_fewest_0 : decode cX8_fewest 0 = .ok (.aload_n 0, 1) := by decide +kernel
theorem dX8_fewest_1 : decode cX8_fewest 1 = .ok (.getfield 56, 3) := by decide +kernel
theorem dX8_fewest_4 : decode cX8_fewest 4 = .ok (.iload_n 1, 1) := by decide +kernel
theorem dX8_fewest_5 : decode cX8_fewest 5 = .ok (.invokevirtual 147, 3) := by decide +kernel
theorem dX8_fewest_8 : decode cX8_fewest 8 = .ok (.ifCond .eq 8, 3) := by decide +kernel
theorem dX8_fewest_11 : decode cX8_fewest 11 = .ok (.iload_n 2, 1) := by decide +kernel
theorem dX8_fewest_12 : decode cX8_fewest 12 = .ok (.iconst (-1), 1) := by decide +kernel
theorem dX8_fewest_13 : decode cX8_fewest 13 = .ok (.if_icmp .ge 5, 3) := by decide +kernel
theorem dX8_fewest_16 : decode cX8_fewest 16 = .ok (.iconst (-1), 1) := by decide +kernel
theorem dX8_fewest_17 : decode cX8_fewest 17 = .ok (.ireturn, 1) := by decide +kernel
theorem dX8_fewest_18 : decode cX8_fewest 18 = .ok (.aload_n 0, 1) := by decide +kernel
theorem dX8_fewest_19 : decode cX8_fewest 19 = .ok (.getfield 42, 3) := by decide +kernel
theorem dX8_fewest_22 : decode cX8_fewest 22 = .ok (.iload_n 1, 1) := by decide +kernel
theorem dX8_fewest_23 : decode cX8_fewest 23 = .ok (.invokevirtual 173, 3) := by decide +kernel
theorem dX8_fewest_26 : decode cX8_fewest 26 = .ok (.ifCond .eq 7, 3) := by decide +kernel
theorem dX8_fewest_29 : decode cX8_fewest 29 = .ok (.iconst 0, 1) := by decide +kernel
theorem dX8_fewest_30 : decode cX8_fewest 30 = .ok (.goto 5, 3) := by decide +kernel
theorem dX8_fewest_33 : decode cX8_fewest 33 = .ok (.bipush (-9), 2) := by decide +kernel
theorem dX8_fewest_35 : decode cX8_fewest 35 = .ok (.istore_n 3, 1) := by decide +kernel
theorem dX8_fewest_36 : decode cX8_fewest 36 = .ok (.aload_n 0, 1) := by decide +kernel
theorem dX8_fewest_37 : decode cX8_fewest 37 = .ok (.getfield 52, 3) := by decide +kernel
theorem dX8_fewest_40 : decode cX8_fewest 40 = .ok (.getfield 176, 3) := by decide +kernel
theorem dX8_fewest_43 : decode cX8_fewest 43 = .ok (.iconst 0, 1) := by decide +kernel
theorem dX8_fewest_44 : decode cX8_fewest 44 = .ok (.aaload, 1) := by decide +kernel
theorem dX8_fewest_45 : decode cX8_fewest 45 = .ok (.aload_n 0, 1) := by decide +kernel
theorem dX8_fewest_46 : decode cX8_fewest 46 = .ok (.getfield 42, 3) := by decide +kernel
theorem dX8_fewest_49 : decode cX8_fewest 49 = .ok (.invokevirtual 165, 3) := by decide +kernel
theorem dX8_fewest_52 : decode cX8_fewest 52 = .ok (.iconst 1, 1) := by decide +kernel
theorem dX8_fewest_53 : decode cX8_fewest 53 = .ok (.istore 4, 2) := by decide +kernel
theorem dX8_fewest_55 : decode cX8_fewest 55 = .ok (.iload_n 3, 1) := by decide +kernel
theorem dX8_fewest_56 : decode cX8_fewest 56 = .ok (.bipush (-9), 2) := by decide +kernel
theorem dX8_fewest_58 : decode cX8_fewest 58 = .ok (.if_icmp .ne 32, 3) := by decide +kernel
theorem dX8_fewest_61 : decode cX8_fewest 61 = .ok (.iload 4, 2) := by decide +kernel
theorem dX8_fewest_63 : decode cX8_fewest 63 = .ok (.iconst 3, 1) := by decide +kernel
theorem dX8_fewest_64 : decode cX8_fewest 64 = .ok (.if_icmp .gt 26, 3) := by decide +kernel
theorem dX8_fewest_67 : decode cX8_fewest 67 = .ok (.aload_n 0, 1) := by decide +kernel
theorem dX8_fewest_68 : decode cX8_fewest 68 = .ok (.getfield 52, 3) := by decide +kernel
theorem dX8_fewest_71 : decode cX8_fewest 71 = .ok (.iload_n 1, 1) := by decide +kernel
theorem dX8_fewest_72 : decode cX8_fewest 72 = .ok (.iconst 0, 1) := by decide +kernel
theorem dX8_fewest_73 : decode cX8_fewest 73 = .ok (.iload 4, 2) := by decide +kernel
theorem dX8_fewest_75 : decode cX8_fewest 75 = .ok (.invokestatic 180, 3) := by decide +kernel
theorem dX8_fewest_78 : decode cX8_fewest 78 = .ok (.ifCond .eq 6, 3) := by decide +kernel
theorem dX8_fewest_81 : decode cX8_fewest 81 = .ok (.iload 4, 2) := by decide +kernel
theorem dX8_fewest_83 : decode cX8_fewest 83 = .ok (.istore_n 3, 1) := by decide +kernel
theorem dX8_fewest_84 : decode cX8_fewest 84 = .ok (.iinc 4 1, 3) := by decide +kernel
theorem dX8_fewest_87 : decode cX8_fewest 87 = .ok (.goto (-32), 3) := by decide +kernel
theorem dX8_fewest_90 : decode cX8_fewest 90 = .ok (.iload_n 2, 1) := by decide +kernel
theorem dX8_fewest_91 : decode cX8_fewest 91 = .ok (.iconst (-1), 1) := by decide +kernel
theorem dX8_fewest_92 : decode cX8_fewest 92 = .ok (.if_icmp .ne 5, 3) := by decide +kernel
theorem dX8_fewest_95 : decode cX8_fewest 95 = .ok (.iload_n 3, 1) := by decide +kernel
theorem dX8_fewest_96 : decode cX8_fewest 96 = .ok (.ireturn, 1) := by decide +kernel
theorem dX8_fewest_97 : decode cX8_fewest 97 = .ok (.iload_n 2, 1) := by decide +kernel
theorem dX8_fewest_98 : decode cX8_fewest 98 = .ok (.iload_n 3, 1) := by decide +kernel
theorem dX8_fewest_99 : decode cX8_fewest 99 = .ok (.if_icmp .ge 15, 3) := by decide +kernel
theorem dX8_fewest_102 : decode cX8_fewest 102 = .ok (.aload_n 0, 1) := by decide +kernel
theorem dX8_fewest_103 : decode cX8_fewest 103 = .ok (.getfield 52, 3) := by decide +kernel
theorem dX8_fewest_106 : decode cX8_fewest 106 = .ok (.getfield 184, 3) := by decide +kernel
theorem dX8_fewest_109 : decode cX8_fewest 109 = .ok (.iload_n 2, 1) := by decide +kernel
theorem dX8_fewest_110 : decode cX8_fewest 110 = .ok (.iaload, 1) := by decide +kernel
theorem dX8_fewest_111 : decode cX8_fewest 111 = .ok (.goto 5, 3) := by decide +kernel
theorem dX8_fewest_114 : decode cX8_fewest 114 = .ok (.bipush (-9), 2) := by decide +kernel
theorem dX8_fewest_116 : decode cX8_fewest 116 = .ok (.ireturn, 1) := by decide +kernel
theorem dX8_most_0 : decode cX8_most 0 = .ok (.iload_n 1, 1) := by decide +kernel
theorem dX8_most_1 : decode cX8_most 1 = .ok (.ifCond .lt 8, 3) := by decide +kernel
theorem dX8_most_4 : decode cX8_most 4 = .ok (.iload_n 1, 1) := by decide +kernel
theorem dX8_most_5 : decode cX8_most 5 = .ok (.iconst 3, 1) := by decide +kernel
theorem dX8_most_6 : decode cX8_most 6 = .ok (.if_icmp .le 6, 3) := by decide +kernel
theorem dX8_most_9 : decode cX8_most 9 = .ok (.bipush (-2), 2) := by decide +kernel
theorem dX8_most_11 : decode cX8_most 11 = .ok (.ireturn, 1) := by decide +kernel
theorem dX8_most_12 : decode cX8_most 12 = .ok (.aload_n 0, 1) := by decide +kernel
theorem dX8_most_13 : decode cX8_most 13 = .ok (.getfield 56, 3) := by decide +kernel
theorem dX8_most_16 : decode cX8_most 16 = .ok (.invokevirtual 127, 3) := by decide +kernel
theorem dX8_most_19 : decode cX8_most 19 = .ok (.ifCond .ne 6, 3) := by decide +kernel
theorem dX8_most_22 : decode cX8_most 22 = .ok (.bipush (-3), 2) := by decide +kernel
theorem dX8_most_24 : decode cX8_most 24 = .ok (.ireturn, 1) := by decide +kernel
theorem dX8_most_25 : decode cX8_most 25 = .ok (.aload_n 0, 1) := by decide +kernel
theorem dX8_most_26 : decode cX8_most 26 = .ok (.getfield 52, 3) := by decide +kernel
theorem dX8_most_29 : decode cX8_most 29 = .ok (.getfield 176, 3) := by decide +kernel
theorem dX8_most_32 : decode cX8_most 32 = .ok (.iconst 0, 1) := by decide +kernel
theorem dX8_most_33 : decode cX8_most 33 = .ok (.aaload, 1) := by decide +kernel
theorem dX8_most_34 : decode cX8_most 34 = .ok (.aload_n 0, 1) := by decide +kernel
theorem dX8_most_35 : decode cX8_most 35 = .ok (.getfield 42, 3) := by decide +kernel
theorem dX8_most_38 : decode cX8_most 38 = .ok (.invokevirtual 165, 3) := by decide +kernel
theorem dX8_most_41 : decode cX8_most 41 = .ok (.aload_n 0, 1) := by decide +kernel
theorem dX8_most_42 : decode cX8_most 42 = .ok (.getfield 52, 3) := by decide +kernel
theorem dX8_most_45 : decode cX8_most 45 = .ok (.iconst 0, 1) := by decide +kernel
theorem dX8_most_46 : decode cX8_most 46 = .ok (.iload_n 1, 1) := by decide +kernel
theorem dX8_most_47 : decode cX8_most 47 = .ok (.invokestatic 187, 3) := by decide +kernel
theorem dX8_most_50 : decode cX8_most 50 = .ok (.ireturn, 1) := by decide +kernel
theorem dX8_wall_0 : decode cX8_wall 0 = .ok (.aload_n 0, 1) := by decide +kernel
theorem dX8_wall_1 : decode cX8_wall 1 = .ok (.iload_n 1, 1) := by decide +kernel
theorem dX8_wall_2 : decode cX8_wall 2 = .ok (.iload_n 2, 1) := by decide +kernel
theorem dX8_wall_3 : decode cX8_wall 3 = .ok (.iload_n 3, 1) := by decide +kernel
theorem dX8_wall_4 : decode cX8_wall 4 = .ok (.invokevirtual 134, 3) := by decide +kernel
theorem dX8_wall_7 : decode cX8_wall 7 = .ok (.istore 4, 2) := by decide +kernel
theorem dX8_wall_9 : decode cX8_wall 9 = .ok (.iload 4, 2) := by decide +kernel
theorem dX8_wall_11 : decode cX8_wall 11 = .ok (.ifCond .eq 6, 3) := by decide +kernel
theorem dX8_wall_14 : decode cX8_wall 14 = .ok (.iload 4, 2) := by decide +kernel
theorem dX8_wall_16 : decode cX8_wall 16 = .ok (.ireturn, 1) := by decide +kernel
theorem dX8_wall_17 : decode cX8_wall 17 = .ok (.aload_n 0, 1) := by decide +kernel
theorem dX8_wall_18 : decode cX8_wall 18 = .ok (.getfield 42, 3) := by decide +kernel
theorem dX8_wall_21 : decode cX8_wall 21 = .ok (.iload_n 2, 1) := by decide +kernel
theorem dX8_wall_22 : decode cX8_wall 22 = .ok (.invokevirtual 162, 3) := by decide +kernel
theorem dX8_wall_25 : decode cX8_wall 25 = .ok (.ifCond .ne 6, 3) := by decide +kernel
theorem dX8_wall_28 : decode cX8_wall 28 = .ok (.bipush (-3), 2) := by decide +kernel
theorem dX8_wall_30 : decode cX8_wall 30 = .ok (.ireturn, 1) := by decide +kernel
theorem dX8_wall_31 : decode cX8_wall 31 = .ok (.aload_n 0, 1) := by decide +kernel
theorem dX8_wall_32 : decode cX8_wall 32 = .ok (.getfield 42, 3) := by decide +kernel
theorem dX8_wall_35 : decode cX8_wall 35 = .ok (.iload_n 2, 1) := by decide +kernel
theorem dX8_wall_36 : decode cX8_wall 36 = .ok (.iload_n 3, 1) := by decide +kernel
theorem dX8_wall_37 : decode cX8_wall 37 = .ok (.invokevirtual 191, 3) := by decide +kernel
theorem dX8_wall_40 : decode cX8_wall 40 = .ok (.istore 5, 2) := by decide +kernel
theorem dX8_wall_42 : decode cX8_wall 42 = .ok (.iload 5, 2) := by decide +kernel
theorem dX8_wall_44 : decode cX8_wall 44 = .ok (.iconst (-1), 1) := by decide +kernel
theorem dX8_wall_45 : decode cX8_wall 45 = .ok (.if_icmp .eq 20, 3) := by decide +kernel
theorem dX8_wall_48 : decode cX8_wall 48 = .ok (.aload_n 0, 1) := by decide +kernel
theorem dX8_wall_49 : decode cX8_wall 49 = .ok (.getfield 56, 3) := by decide +kernel
theorem dX8_wall_52 : decode cX8_wall 52 = .ok (.iload 5, 2) := by decide +kernel
theorem dX8_wall_54 : decode cX8_wall 54 = .ok (.invokevirtual 98, 3) := by decide +kernel
theorem dX8_wall_57 : decode cX8_wall 57 = .ok (.ifCond .ne 8, 3) := by decide +kernel
theorem dX8_wall_60 : decode cX8_wall 60 = .ok (.iload 5, 2) := by decide +kernel
theorem dX8_wall_62 : decode cX8_wall 62 = .ok (.goto 5, 3) := by decide +kernel
theorem dX8_wall_65 : decode cX8_wall 65 = .ok (.bipush (-9), 2) := by decide +kernel
theorem dX8_wall_67 : decode cX8_wall 67 = .ok (.ireturn, 1) := by decide +kernel
theorem dX8_row_0 : decode cX8_row 0 = .ok (.aload_n 0, 1) := by decide +kernel
theorem dX8_row_1 : decode cX8_row 1 = .ok (.iconst 0, 1) := by decide +kernel
theorem dX8_row_2 : decode cX8_row 2 = .ok (.putfield 64, 3) := by decide +kernel
theorem dX8_row_5 : decode cX8_row 5 = .ok (.aload_n 0, 1) := by decide +kernel
theorem dX8_row_6 : decode cX8_row 6 = .ok (.iload_n 1, 1) := by decide +kernel
theorem dX8_row_7 : decode cX8_row 7 = .ok (.invokevirtual 68, 3) := by decide +kernel
theorem dX8_row_10 : decode cX8_row 10 = .ok (.astore 5, 2) := by decide +kernel
theorem dX8_row_12 : decode cX8_row 12 = .ok (.aload 5, 2) := by decide +kernel
theorem dX8_row_14 : decode cX8_row 14 = .ok (.ifnonnull 5, 3) := by decide +kernel
theorem dX8_row_17 : decode cX8_row 17 = .ok (.iconst (-1), 1) := by decide +kernel
theorem dX8_row_18 : decode cX8_row 18 = .ok (.ireturn, 1) := by decide +kernel
theorem dX8_row_19 : decode cX8_row 19 = .ok (.iload_n 2, 1) := by decide +kernel
theorem dX8_row_20 : decode cX8_row 20 = .ok (.iconst 3, 1) := by decide +kernel
theorem dX8_row_21 : decode cX8_row 21 = .ok (.invokestatic 72, 3) := by decide +kernel
theorem dX8_row_24 : decode cX8_row 24 = .ok (.ifCond .ne 6, 3) := by decide +kernel
theorem dX8_row_27 : decode cX8_row 27 = .ok (.bipush (-2), 2) := by decide +kernel
theorem dX8_row_29 : decode cX8_row 29 = .ok (.ireturn, 1) := by decide +kernel
theorem dX8_row_30 : decode cX8_row 30 = .ok (.aload_n 0, 1) := by decide +kernel
theorem dX8_row_31 : decode cX8_row 31 = .ok (.getfield 56, 3) := by decide +kernel
theorem dX8_row_34 : decode cX8_row 34 = .ok (.invokevirtual 127, 3) := by decide +kernel
theorem dX8_row_37 : decode cX8_row 37 = .ok (.ifCond .ne 6, 3) := by decide +kernel
theorem dX8_row_40 : decode cX8_row 40 = .ok (.bipush (-3), 2) := by decide +kernel
theorem dX8_row_42 : decode cX8_row 42 = .ok (.ireturn, 1) := by decide +kernel
theorem dX8_row_43 : decode cX8_row 43 = .ok (.aload 5, 2) := by decide +kernel
theorem dX8_row_45 : decode cX8_row 45 = .ok (.iload_n 2, 1) := by decide +kernel
theorem dX8_row_46 : decode cX8_row 46 = .ok (.iload_n 3, 1) := by decide +kernel
theorem dX8_row_47 : decode cX8_row 47 = .ok (.iload 4, 2) := by decide +kernel
theorem dX8_row_49 : decode cX8_row 49 = .ok (.invokevirtual 76, 3) := by decide +kernel
theorem dX8_row_52 : decode cX8_row 52 = .ok (.istore 6, 2) := by decide +kernel
theorem dX8_row_54 : decode cX8_row 54 = .ok (.iload 6, 2) := by decide +kernel
theorem dX8_row_56 : decode cX8_row 56 = .ok (.ifCond .eq 10, 3) := by decide +kernel
theorem dX8_row_59 : decode cX8_row 59 = .ok (.aload_n 0, 1) := by decide +kernel
theorem dX8_row_60 : decode cX8_row 60 = .ok (.iload 6, 2) := by decide +kernel
theorem dX8_row_62 : decode cX8_row 62 = .ok (.invokevirtual 80, 3) := by decide +kernel
theorem dX8_row_65 : decode cX8_row 65 = .ok (.ireturn, 1) := by decide +kernel
theorem dX8_row_66 : decode cX8_row 66 = .ok (.iload 4, 2) := by decide +kernel
theorem dX8_row_68 : decode cX8_row 68 = .ok (.bipush 20, 2) := by decide +kernel
theorem dX8_row_70 : decode cX8_row 70 = .ok (.if_icmp .le 6, 3) := by decide +kernel
theorem dX8_row_73 : decode cX8_row 73 = .ok (.bipush (-2), 2) := by decide +kernel
theorem dX8_row_75 : decode cX8_row 75 = .ok (.ireturn, 1) := by decide +kernel
theorem dX8_row_76 : decode cX8_row 76 = .ok (.aload_n 0, 1) := by decide +kernel
theorem dX8_row_77 : decode cX8_row 77 = .ok (.aload 5, 2) := by decide +kernel
theorem dX8_row_79 : decode cX8_row 79 = .ok (.iload_n 3, 1) := by decide +kernel
theorem dX8_row_80 : decode cX8_row 80 = .ok (.iload 4, 2) := by decide +kernel
theorem dX8_row_82 : decode cX8_row 82 = .ok (.invokevirtual 195, 3) := by decide +kernel
theorem dX8_row_85 : decode cX8_row 85 = .ok (.ifCond .eq 15, 3) := by decide +kernel
theorem dX8_row_88 : decode cX8_row 88 = .ok (.aload_n 0, 1) := by decide +kernel
theorem dX8_row_89 : decode cX8_row 89 = .ok (.aload 5, 2) := by decide +kernel
theorem dX8_row_91 : decode cX8_row 91 = .ok (.iload_n 3, 1) := by decide +kernel
theorem dX8_row_92 : decode cX8_row 92 = .ok (.iload 4, 2) := by decide +kernel
theorem dX8_row_94 : decode cX8_row 94 = .ok (.invokevirtual 199, 3) := by decide +kernel
theorem dX8_row_97 : decode cX8_row 97 = .ok (.goto 4, 3) := by decide +kernel
theorem dX8_row_100 : decode cX8_row 100 = .ok (.iconst (-1), 1) := by decide +kernel
theorem dX8_row_101 : decode cX8_row 101 = .ok (.ireturn, 1) := by decide +kernel
theorem dX8_odds_0 : decode cX8_odds 0 = .ok (.aload_n 0, 1) := by decide +kernel
theorem dX8_odds_1 : decode cX8_odds 1 = .ok (.getfield 56, 3) := by decide +kernel
theorem dX8_odds_4 : decode cX8_odds 4 = .ok (.iload_n 1, 1) := by decide +kernel
theorem dX8_odds_5 : decode cX8_odds 5 = .ok (.invokevirtual 111, 3) := by decide +kernel
theorem dX8_odds_8 : decode cX8_odds 8 = .ok (.ifnull 14, 3) := by decide +kernel
theorem dX8_odds_11 : decode cX8_odds 11 = .ok (.aload_n 0, 1) := by decide +kernel
theorem dX8_odds_12 : decode cX8_odds 12 = .ok (.getfield 56, 3) := by decide +kernel
theorem dX8_odds_15 : decode cX8_odds 15 = .ok (.iload_n 2, 1) := by decide +kernel
theorem dX8_odds_16 : decode cX8_odds 16 = .ok (.invokevirtual 147, 3) := by decide +kernel
theorem dX8_odds_19 : decode cX8_odds 19 = .ok (.ifCond .ne 7, 3) := by decide +kernel
theorem dX8_odds_22 : decode cX8_odds 22 = .ok (.ldc2_w 202, 3) := by decide +kernel
theorem dX8_odds_25 : decode cX8_odds 25 = .ok (.lreturn, 1) := by decide +kernel
theorem dX8_odds_26 : decode cX8_odds 26 = .ok (.iload_n 3, 1) := by decide +kernel
theorem dX8_odds_27 : decode cX8_odds 27 = .ok (.iconst 2, 1) := by decide +kernel
theorem dX8_odds_28 : decode cX8_odds 28 = .ok (.invokestatic 72, 3) := by decide +kernel
theorem dX8_odds_31 : decode cX8_odds 31 = .ok (.ifCond .eq 14, 3) := by decide +kernel
theorem dX8_odds_34 : decode cX8_odds 34 = .ok (.aload_n 0, 1) := by decide +kernel
theorem dX8_odds_35 : decode cX8_odds 35 = .ok (.getfield 42, 3) := by decide +kernel
theorem dX8_odds_38 : decode cX8_odds 38 = .ok (.iload_n 2, 1) := by decide +kernel
theorem dX8_odds_39 : decode cX8_odds 39 = .ok (.invokevirtual 162, 3) := by decide +kernel
theorem dX8_odds_42 : decode cX8_odds 42 = .ok (.ifCond .ne 7, 3) := by decide +kernel
theorem dX8_odds_45 : decode cX8_odds 45 = .ok (.ldc2_w 202, 3) := by decide +kernel
theorem dX8_odds_48 : decode cX8_odds 48 = .ok (.lreturn, 1) := by decide +kernel
theorem dX8_odds_49 : decode cX8_odds 49 = .ok (.aload_n 0, 1) := by decide +kernel
theorem dX8_odds_50 : decode cX8_odds 50 = .ok (.getfield 42, 3) := by decide +kernel
theorem dX8_odds_53 : decode cX8_odds 53 = .ok (.iload_n 2, 1) := by decide +kernel
theorem dX8_odds_54 : decode cX8_odds 54 = .ok (.invokevirtual 204, 3) := by decide +kernel
theorem dX8_odds_57 : decode cX8_odds 57 = .ok (.istore 4, 2) := by decide +kernel
theorem dX8_odds_59 : decode cX8_odds 59 = .ok (.iload_n 3, 1) := by decide +kernel
theorem dX8_odds_60 : decode cX8_odds 60 = .ok (.ifCond .ne 13, 3) := by decide +kernel
theorem dX8_odds_63 : decode cX8_odds 63 = .ok (.getstatic 207, 3) := by decide +kernel
theorem dX8_odds_66 : decode cX8_odds 66 = .ok (.iload 4, 2) := by decide +kernel
theorem dX8_odds_68 : decode cX8_odds 68 = .ok (.iaload, 1) := by decide +kernel
theorem dX8_odds_69 : decode cX8_odds 69 = .ok (.i2l, 1) := by decide +kernel
theorem dX8_odds_70 : decode cX8_odds 70 = .ok (.goto 10, 3) := by decide +kernel
theorem dX8_odds_73 : decode cX8_odds 73 = .ok (.getstatic 210, 3) := by decide +kernel
theorem dX8_odds_76 : decode cX8_odds 76 = .ok (.iload 4, 2) := by decide +kernel
theorem dX8_odds_78 : decode cX8_odds 78 = .ok (.iaload, 1) := by decide +kernel
theorem dX8_odds_79 : decode cX8_odds 79 = .ok (.i2l, 1) := by decide +kernel
theorem dX8_odds_80 : decode cX8_odds 80 = .ok (.lreturn, 1) := by decide +kernel
theorem dX8_reading_0 : decode cX8_reading 0 = .ok (.aload_n 0, 1) := by decide +kernel
theorem dX8_reading_1 : decode cX8_reading 1 = .ok (.getfield 56, 3) := by decide +kernel
theorem dX8_reading_4 : decode cX8_reading 4 = .ok (.iload_n 1, 1) := by decide +kernel
theorem dX8_reading_5 : decode cX8_reading 5 = .ok (.invokevirtual 147, 3) := by decide +kernel
theorem dX8_reading_8 : decode cX8_reading 8 = .ok (.ifCond .ne 5, 3) := by decide +kernel
theorem dX8_reading_11 : decode cX8_reading 11 = .ok (.iconst (-1), 1) := by decide +kernel
theorem dX8_reading_12 : decode cX8_reading 12 = .ok (.ireturn, 1) := by decide +kernel
theorem dX8_reading_13 : decode cX8_reading 13 = .ok (.iload_n 2, 1) := by decide +kernel
theorem dX8_reading_14 : decode cX8_reading 14 = .ok (.bipush (-9), 2) := by decide +kernel
theorem dX8_reading_16 : decode cX8_reading 16 = .ok (.if_icmp .eq 16, 3) := by decide +kernel
theorem dX8_reading_19 : decode cX8_reading 19 = .ok (.aload_n 0, 1) := by decide +kernel
theorem dX8_reading_20 : decode cX8_reading 20 = .ok (.getfield 56, 3) := by decide +kernel
theorem dX8_reading_23 : decode cX8_reading 23 = .ok (.iload_n 2, 1) := by decide +kernel
theorem dX8_reading_24 : decode cX8_reading 24 = .ok (.invokevirtual 94, 3) := by decide +kernel
theorem dX8_reading_27 : decode cX8_reading 27 = .ok (.ifCond .ne 5, 3) := by decide +kernel
theorem dX8_reading_30 : decode cX8_reading 30 = .ok (.iconst (-1), 1) := by decide +kernel
theorem dX8_reading_31 : decode cX8_reading 31 = .ok (.ireturn, 1) := by decide +kernel
theorem dX8_reading_32 : decode cX8_reading 32 = .ok (.aload_n 0, 1) := by decide +kernel
theorem dX8_reading_33 : decode cX8_reading 33 = .ok (.getfield 213, 3) := by decide +kernel
theorem dX8_reading_36 : decode cX8_reading 36 = .ok (.bipush 8, 2) := by decide +kernel
theorem dX8_reading_38 : decode cX8_reading 38 = .ok (.if_icmp .lt 6, 3) := by decide +kernel
theorem dX8_reading_41 : decode cX8_reading 41 = .ok (.bipush (-4), 2) := by decide +kernel
theorem dX8_reading_43 : decode cX8_reading 43 = .ok (.ireturn, 1) := by decide +kernel
theorem dX8_reading_44 : decode cX8_reading 44 = .ok (.aload_n 0, 1) := by decide +kernel
theorem dX8_reading_45 : decode cX8_reading 45 = .ok (.getfield 15, 3) := by decide +kernel
theorem dX8_reading_48 : decode cX8_reading 48 = .ok (.aload_n 0, 1) := by decide +kernel
theorem dX8_reading_49 : decode cX8_reading 49 = .ok (.getfield 213, 3) := by decide +kernel
theorem dX8_reading_52 : decode cX8_reading 52 = .ok (.iload_n 1, 1) := by decide +kernel
theorem dX8_reading_53 : decode cX8_reading 53 = .ok (.iastore, 1) := by decide +kernel
theorem dX8_reading_54 : decode cX8_reading 54 = .ok (.aload_n 0, 1) := by decide +kernel
theorem dX8_reading_55 : decode cX8_reading 55 = .ok (.getfield 18, 3) := by decide +kernel
theorem dX8_reading_58 : decode cX8_reading 58 = .ok (.aload_n 0, 1) := by decide +kernel
theorem dX8_reading_59 : decode cX8_reading 59 = .ok (.getfield 213, 3) := by decide +kernel
theorem dX8_reading_62 : decode cX8_reading 62 = .ok (.iload_n 2, 1) := by decide +kernel
theorem dX8_reading_63 : decode cX8_reading 63 = .ok (.iastore, 1) := by decide +kernel
theorem dX8_reading_64 : decode cX8_reading 64 = .ok (.aload_n 0, 1) := by decide +kernel
theorem dX8_reading_65 : decode cX8_reading 65 = .ok (.dup, 1) := by decide +kernel
theorem dX8_reading_66 : decode cX8_reading 66 = .ok (.getfield 213, 3) := by decide +kernel
theorem dX8_reading_69 : decode cX8_reading 69 = .ok (.iconst 1, 1) := by decide +kernel
theorem dX8_reading_70 : decode cX8_reading 70 = .ok (.iadd, 1) := by decide +kernel
theorem dX8_reading_71 : decode cX8_reading 71 = .ok (.putfield 213, 3) := by decide +kernel
theorem dX8_reading_74 : decode cX8_reading 74 = .ok (.aload_n 0, 1) := by decide +kernel
theorem dX8_reading_75 : decode cX8_reading 75 = .ok (.getfield 213, 3) := by decide +kernel
theorem dX8_reading_78 : decode cX8_reading 78 = .ok (.iconst 1, 1) := by decide +kernel
theorem dX8_reading_79 : decode cX8_reading 79 = .ok (.isub, 1) := by decide +kernel
theorem dX8_reading_80 : decode cX8_reading 80 = .ok (.ireturn, 1) := by decide +kernel
theorem dX8_back_0 : decode cX8_back 0 = .ok (.iload_n 1, 1) := by decide +kernel
theorem dX8_back_1 : decode cX8_back 1 = .ok (.ifCond .lt 11, 3) := by decide +kernel
theorem dX8_back_4 : decode cX8_back 4 = .ok (.iload_n 1, 1) := by decide +kernel
theorem dX8_back_5 : decode cX8_back 5 = .ok (.aload_n 0, 1) := by decide +kernel
theorem dX8_back_6 : decode cX8_back 6 = .ok (.getfield 213, 3) := by decide +kernel
theorem dX8_back_9 : decode cX8_back 9 = .ok (.if_icmp .le 6, 3) := by decide +kernel
theorem dX8_back_12 : decode cX8_back 12 = .ok (.bipush (-2), 2) := by decide +kernel
theorem dX8_back_14 : decode cX8_back 14 = .ok (.ireturn, 1) := by decide +kernel
theorem dX8_back_15 : decode cX8_back 15 = .ok (.aload_n 0, 1) := by decide +kernel
theorem dX8_back_16 : decode cX8_back 16 = .ok (.dup, 1) := by decide +kernel
theorem dX8_back_17 : decode cX8_back 17 = .ok (.getfield 213, 3) := by decide +kernel
theorem dX8_back_20 : decode cX8_back 20 = .ok (.iload_n 1, 1) := by decide +kernel
theorem dX8_back_21 : decode cX8_back 21 = .ok (.isub, 1) := by decide +kernel
theorem dX8_back_22 : decode cX8_back 22 = .ok (.putfield 213, 3) := by decide +kernel
theorem dX8_back_25 : decode cX8_back 25 = .ok (.aload_n 0, 1) := by decide +kernel
theorem dX8_back_26 : decode cX8_back 26 = .ok (.getfield 213, 3) := by decide +kernel
theorem dX8_back_29 : decode cX8_back 29 = .ok (.ireturn, 1) := by decide +kernel
theorem dX8_last_0 : decode cX8_last 0 = .ok (.iload_n 1, 1) := by decide +kernel
theorem dX8_last_1 : decode cX8_last 1 = .ok (.iconst (-1), 1) := by decide +kernel
theorem dX8_last_2 : decode cX8_last 2 = .ok (.if_icmp .ge 5, 3) := by decide +kernel
theorem dX8_last_5 : decode cX8_last 5 = .ok (.iconst (-1), 1) := by decide +kernel
theorem dX8_last_6 : decode cX8_last 6 = .ok (.ireturn, 1) := by decide +kernel
theorem dX8_last_7 : decode cX8_last 7 = .ok (.aload_n 0, 1) := by decide +kernel
theorem dX8_last_8 : decode cX8_last 8 = .ok (.getfield 56, 3) := by decide +kernel
theorem dX8_last_11 : decode cX8_last 11 = .ok (.invokevirtual 127, 3) := by decide +kernel
theorem dX8_last_14 : decode cX8_last 14 = .ok (.ifCond .ne 6, 3) := by decide +kernel
theorem dX8_last_17 : decode cX8_last 17 = .ok (.bipush (-3), 2) := by decide +kernel
theorem dX8_last_19 : decode cX8_last 19 = .ok (.ireturn, 1) := by decide +kernel
theorem dX8_last_20 : decode cX8_last 20 = .ok (.iconst 0, 1) := by decide +kernel
theorem dX8_last_21 : decode cX8_last 21 = .ok (.istore_n 2, 1) := by decide +kernel
theorem dX8_last_22 : decode cX8_last 22 = .ok (.iconst 0, 1) := by decide +kernel
theorem dX8_last_23 : decode cX8_last 23 = .ok (.istore_n 3, 1) := by decide +kernel
theorem dX8_last_24 : decode cX8_last 24 = .ok (.iload_n 3, 1) := by decide +kernel
theorem dX8_last_25 : decode cX8_last 25 = .ok (.aload_n 0, 1) := by decide +kernel
theorem dX8_last_26 : decode cX8_last 26 = .ok (.getfield 56, 3) := by decide +kernel
theorem dX8_last_29 : decode cX8_last 29 = .ok (.getfield 216, 3) := by decide +kernel
theorem dX8_last_32 : decode cX8_last 32 = .ok (.if_icmp .ge 65, 3) := by decide +kernel
theorem dX8_last_35 : decode cX8_last 35 = .ok (.aload_n 0, 1) := by decide +kernel
theorem dX8_last_36 : decode cX8_last 36 = .ok (.getfield 46, 3) := by decide +kernel
theorem dX8_last_39 : decode cX8_last 39 = .ok (.aload_n 0, 1) := by decide +kernel
theorem dX8_last_40 : decode cX8_last 40 = .ok (.getfield 42, 3) := by decide +kernel
theorem dX8_last_43 : decode cX8_last 43 = .ok (.invokevirtual 165, 3) := by decide +kernel
theorem dX8_last_46 : decode cX8_last 46 = .ok (.aload_n 0, 1) := by decide +kernel
theorem dX8_last_47 : decode cX8_last 47 = .ok (.getfield 46, 3) := by decide +kernel
theorem dX8_last_50 : decode cX8_last 50 = .ok (.aload_n 0, 1) := by decide +kernel
theorem dX8_last_51 : decode cX8_last 51 = .ok (.getfield 56, 3) := by decide +kernel
theorem dX8_last_54 : decode cX8_last 54 = .ok (.getfield 219, 3) := by decide +kernel
theorem dX8_last_57 : decode cX8_last 57 = .ok (.iload_n 3, 1) := by decide +kernel
theorem dX8_last_58 : decode cX8_last 58 = .ok (.iaload, 1) := by decide +kernel
theorem dX8_last_59 : decode cX8_last 59 = .ok (.invokevirtual 143, 3) := by decide +kernel
theorem dX8_last_62 : decode cX8_last 62 = .ok (.aload_n 0, 1) := by decide +kernel
theorem dX8_last_63 : decode cX8_last 63 = .ok (.aload_n 0, 1) := by decide +kernel
theorem dX8_last_64 : decode cX8_last 64 = .ok (.getfield 46, 3) := by decide +kernel
theorem dX8_last_67 : decode cX8_last 67 = .ok (.invokevirtual 222, 3) := by decide +kernel
theorem dX8_last_70 : decode cX8_last 70 = .ok (.ifCond .eq 21, 3) := by decide +kernel
theorem dX8_last_73 : decode cX8_last 73 = .ok (.iload_n 2, 1) := by decide +kernel
theorem dX8_last_74 : decode cX8_last 74 = .ok (.iload_n 1, 1) := by decide +kernel
theorem dX8_last_75 : decode cX8_last 75 = .ok (.if_icmp .ne 13, 3) := by decide +kernel
theorem dX8_last_78 : decode cX8_last 78 = .ok (.aload_n 0, 1) := by decide +kernel
theorem dX8_last_79 : decode cX8_last 79 = .ok (.getfield 56, 3) := by decide +kernel
theorem dX8_last_82 : decode cX8_last 82 = .ok (.getfield 219, 3) := by decide +kernel
theorem dX8_last_85 : decode cX8_last 85 = .ok (.iload_n 3, 1) := by decide +kernel
theorem dX8_last_86 : decode cX8_last 86 = .ok (.iaload, 1) := by decide +kernel
theorem dX8_last_87 : decode cX8_last 87 = .ok (.ireturn, 1) := by decide +kernel
theorem dX8_last_88 : decode cX8_last 88 = .ok (.iinc 2 1, 3) := by decide +kernel
theorem dX8_last_91 : decode cX8_last 91 = .ok (.iinc 3 1, 3) := by decide +kernel
theorem dX8_last_94 : decode cX8_last 94 = .ok (.goto (-70), 3) := by decide +kernel
theorem dX8_last_97 : decode cX8_last 97 = .ok (.iload_n 1, 1) := by decide +kernel
theorem dX8_last_98 : decode cX8_last 98 = .ok (.iconst (-1), 1) := by decide +kernel
theorem dX8_last_99 : decode cX8_last 99 = .ok (.if_icmp .ne 7, 3) := by decide +kernel
theorem dX8_last_102 : decode cX8_last 102 = .ok (.iload_n 2, 1) := by decide +kernel
theorem dX8_last_103 : decode cX8_last 103 = .ok (.goto 5, 3) := by decide +kernel
theorem dX8_last_106 : decode cX8_last 106 = .ok (.bipush (-9), 2) := by decide +kernel
theorem dX8_last_108 : decode cX8_last 108 = .ok (.ireturn, 1) := by decide +kernel
theorem dX8_laws_0 : decode cX8_laws 0 = .ok (.aload_n 0, 1) := by decide +kernel
theorem dX8_laws_1 : decode cX8_laws 1 = .ok (.getfield 56, 3) := by decide +kernel
theorem dX8_laws_4 : decode cX8_laws 4 = .ok (.invokevirtual 127, 3) := by decide +kernel
theorem dX8_laws_7 : decode cX8_laws 7 = .ok (.ifCond .ne 6, 3) := by decide +kernel
theorem dX8_laws_10 : decode cX8_laws 10 = .ok (.bipush (-3), 2) := by decide +kernel
theorem dX8_laws_12 : decode cX8_laws 12 = .ok (.ireturn, 1) := by decide +kernel
theorem dX8_laws_13 : decode cX8_laws 13 = .ok (.iconst 0, 1) := by decide +kernel
theorem dX8_laws_14 : decode cX8_laws 14 = .ok (.istore_n 1, 1) := by decide +kernel
theorem dX8_laws_15 : decode cX8_laws 15 = .ok (.iconst 0, 1) := by decide +kernel
theorem dX8_laws_16 : decode cX8_laws 16 = .ok (.istore_n 2, 1) := by decide +kernel
theorem dX8_laws_17 : decode cX8_laws 17 = .ok (.iload_n 2, 1) := by decide +kernel
theorem dX8_laws_18 : decode cX8_laws 18 = .ok (.iconst 3, 1) := by decide +kernel
theorem dX8_laws_19 : decode cX8_laws 19 = .ok (.if_icmp .ge 37, 3) := by decide +kernel
theorem dX8_laws_22 : decode cX8_laws 22 = .ok (.aload_n 0, 1) := by decide +kernel
theorem dX8_laws_23 : decode cX8_laws 23 = .ok (.aload_n 0, 1) := by decide +kernel
theorem dX8_laws_24 : decode cX8_laws 24 = .ok (.getfield 46, 3) := by decide +kernel
theorem dX8_laws_27 : decode cX8_laws 27 = .ok (.iload_n 2, 1) := by decide +kernel
theorem dX8_laws_28 : decode cX8_laws 28 = .ok (.bipush (-9), 2) := by decide +kernel
theorem dX8_laws_30 : decode cX8_laws 30 = .ok (.invokevirtual 226, 3) := by decide +kernel
theorem dX8_laws_33 : decode cX8_laws 33 = .ok (.aload_n 0, 1) := by decide +kernel
theorem dX8_laws_34 : decode cX8_laws 34 = .ok (.aload_n 0, 1) := by decide +kernel
theorem dX8_laws_35 : decode cX8_laws 35 = .ok (.getfield 46, 3) := by decide +kernel
theorem dX8_laws_38 : decode cX8_laws 38 = .ok (.invokevirtual 222, 3) := by decide +kernel
theorem dX8_laws_41 : decode cX8_laws 41 = .ok (.ifCond .eq 9, 3) := by decide +kernel
theorem dX8_laws_44 : decode cX8_laws 44 = .ok (.iload_n 1, 1) := by decide +kernel
theorem dX8_laws_45 : decode cX8_laws 45 = .ok (.iconst 1, 1) := by decide +kernel
theorem dX8_laws_46 : decode cX8_laws 46 = .ok (.iload_n 2, 1) := by decide +kernel
theorem dX8_laws_47 : decode cX8_laws 47 = .ok (.ishl, 1) := by decide +kernel
theorem dX8_laws_48 : decode cX8_laws 48 = .ok (.ior, 1) := by decide +kernel
theorem dX8_laws_49 : decode cX8_laws 49 = .ok (.istore_n 1, 1) := by decide +kernel
theorem dX8_laws_50 : decode cX8_laws 50 = .ok (.iinc 2 1, 3) := by decide +kernel
theorem dX8_laws_53 : decode cX8_laws 53 = .ok (.goto (-36), 3) := by decide +kernel
theorem dX8_laws_56 : decode cX8_laws 56 = .ok (.iload_n 1, 1) := by decide +kernel
theorem dX8_laws_57 : decode cX8_laws 57 = .ok (.ireturn, 1) := by decide +kernel
theorem dX8_never_0 : decode cX8_never 0 = .ok (.aload_n 0, 1) := by decide +kernel
theorem dX8_never_1 : decode cX8_never 1 = .ok (.getfield 56, 3) := by decide +kernel
theorem dX8_never_4 : decode cX8_never 4 = .ok (.invokevirtual 127, 3) := by decide +kernel
theorem dX8_never_7 : decode cX8_never 7 = .ok (.ifCond .ne 6, 3) := by decide +kernel
theorem dX8_never_10 : decode cX8_never 10 = .ok (.bipush (-3), 2) := by decide +kernel
theorem dX8_never_12 : decode cX8_never 12 = .ok (.ireturn, 1) := by decide +kernel
theorem dX8_never_13 : decode cX8_never 13 = .ok (.iconst 0, 1) := by decide +kernel
theorem dX8_never_14 : decode cX8_never 14 = .ok (.istore_n 1, 1) := by decide +kernel
theorem dX8_never_15 : decode cX8_never 15 = .ok (.iconst 0, 1) := by decide +kernel
theorem dX8_never_16 : decode cX8_never 16 = .ok (.istore_n 2, 1) := by decide +kernel
theorem dX8_never_17 : decode cX8_never 17 = .ok (.iload_n 2, 1) := by decide +kernel
theorem dX8_never_18 : decode cX8_never 18 = .ok (.aload_n 0, 1) := by decide +kernel
theorem dX8_never_19 : decode cX8_never 19 = .ok (.getfield 137, 3) := by decide +kernel
theorem dX8_never_22 : decode cX8_never 22 = .ok (.if_icmp .ge 39, 3) := by decide +kernel
theorem dX8_never_25 : decode cX8_never 25 = .ok (.aload_n 0, 1) := by decide +kernel
theorem dX8_never_26 : decode cX8_never 26 = .ok (.aload_n 0, 1) := by decide +kernel
theorem dX8_never_27 : decode cX8_never 27 = .ok (.getfield 46, 3) := by decide +kernel
theorem dX8_never_30 : decode cX8_never 30 = .ok (.aload_n 0, 1) := by decide +kernel
theorem dX8_never_31 : decode cX8_never 31 = .ok (.getfield 131, 3) := by decide +kernel
theorem dX8_never_34 : decode cX8_never 34 = .ok (.iload_n 2, 1) := by decide +kernel
theorem dX8_never_35 : decode cX8_never 35 = .ok (.invokevirtual 226, 3) := by decide +kernel
theorem dX8_never_38 : decode cX8_never 38 = .ok (.aload_n 0, 1) := by decide +kernel
theorem dX8_never_39 : decode cX8_never 39 = .ok (.aload_n 0, 1) := by decide +kernel
theorem dX8_never_40 : decode cX8_never 40 = .ok (.getfield 46, 3) := by decide +kernel
theorem dX8_never_43 : decode cX8_never 43 = .ok (.invokevirtual 222, 3) := by decide +kernel
theorem dX8_never_46 : decode cX8_never 46 = .ok (.ifCond .eq 9, 3) := by decide +kernel
theorem dX8_never_49 : decode cX8_never 49 = .ok (.iload_n 1, 1) := by decide +kernel
theorem dX8_never_50 : decode cX8_never 50 = .ok (.iconst 1, 1) := by decide +kernel
theorem dX8_never_51 : decode cX8_never 51 = .ok (.iload_n 2, 1) := by decide +kernel
theorem dX8_never_52 : decode cX8_never 52 = .ok (.ishl, 1) := by decide +kernel
theorem dX8_never_53 : decode cX8_never 53 = .ok (.ior, 1) := by decide +kernel
theorem dX8_never_54 : decode cX8_never 54 = .ok (.istore_n 1, 1) := by decide +kernel
theorem dX8_never_55 : decode cX8_never 55 = .ok (.iinc 2 1, 3) := by decide +kernel
theorem dX8_never_58 : decode cX8_never 58 = .ok (.goto (-41), 3) := by decide +kernel
theorem dX8_never_61 : decode cX8_never 61 = .ok (.iload_n 1, 1) := by decide +kernel
theorem dX8_never_62 : decode cX8_never 62 = .ok (.ireturn, 1) := by decide +kernel
theorem dX8_sheet_0 : decode cX8_sheet 0 = .ok (.aload_n 0, 1) := by decide +kernel
theorem dX8_sheet_1 : decode cX8_sheet 1 = .ok (.iconst 0, 1) := by decide +kernel
theorem dX8_sheet_2 : decode cX8_sheet 2 = .ok (.putfield 64, 3) := by decide +kernel
theorem dX8_sheet_5 : decode cX8_sheet 5 = .ok (.aload_n 0, 1) := by decide +kernel
theorem dX8_sheet_6 : decode cX8_sheet 6 = .ok (.iload_n 1, 1) := by decide +kernel
theorem dX8_sheet_7 : decode cX8_sheet 7 = .ok (.invokevirtual 68, 3) := by decide +kernel
theorem dX8_sheet_10 : decode cX8_sheet 10 = .ok (.astore 4, 2) := by decide +kernel
theorem dX8_sheet_12 : decode cX8_sheet 12 = .ok (.aload 4, 2) := by decide +kernel
theorem dX8_sheet_14 : decode cX8_sheet 14 = .ok (.ifnonnull 5, 3) := by decide +kernel
theorem dX8_sheet_17 : decode cX8_sheet 17 = .ok (.iconst (-1), 1) := by decide +kernel
theorem dX8_sheet_18 : decode cX8_sheet 18 = .ok (.ireturn, 1) := by decide +kernel
theorem dX8_sheet_19 : decode cX8_sheet 19 = .ok (.iload_n 2, 1) := by decide +kernel
theorem dX8_sheet_20 : decode cX8_sheet 20 = .ok (.iconst 3, 1) := by decide +kernel
theorem dX8_sheet_21 : decode cX8_sheet 21 = .ok (.invokestatic 72, 3) := by decide +kernel
theorem dX8_sheet_24 : decode cX8_sheet 24 = .ok (.ifCond .eq 9, 3) := by decide +kernel
theorem dX8_sheet_27 : decode cX8_sheet 27 = .ok (.iload_n 3, 1) := by decide +kernel
theorem dX8_sheet_28 : decode cX8_sheet 28 = .ok (.bipush 60, 2) := by decide +kernel
theorem dX8_sheet_30 : decode cX8_sheet 30 = .ok (.if_icmp .le 6, 3) := by decide +kernel
theorem dX8_sheet_33 : decode cX8_sheet 33 = .ok (.bipush (-2), 2) := by decide +kernel
theorem dX8_sheet_35 : decode cX8_sheet 35 = .ok (.ireturn, 1) := by decide +kernel
theorem dX8_sheet_36 : decode cX8_sheet 36 = .ok (.iload_n 3, 1) := by decide +kernel
theorem dX8_sheet_37 : decode cX8_sheet 37 = .ok (.ifCond .ge 9, 3) := by decide +kernel
theorem dX8_sheet_40 : decode cX8_sheet 40 = .ok (.aload_n 0, 1) := by decide +kernel
theorem dX8_sheet_41 : decode cX8_sheet 41 = .ok (.iconst 4, 1) := by decide +kernel
theorem dX8_sheet_42 : decode cX8_sheet 42 = .ok (.invokevirtual 80, 3) := by decide +kernel
theorem dX8_sheet_45 : decode cX8_sheet 45 = .ok (.ireturn, 1) := by decide +kernel
theorem dX8_sheet_46 : decode cX8_sheet 46 = .ok (.aload 4, 2) := by decide +kernel
theorem dX8_sheet_48 : decode cX8_sheet 48 = .ok (.iload_n 2, 1) := by decide +kernel
theorem dX8_sheet_49 : decode cX8_sheet 49 = .ok (.iload_n 3, 1) := by decide +kernel
theorem dX8_sheet_50 : decode cX8_sheet 50 = .ok (.invokevirtual 230, 3) := by decide +kernel
theorem dX8_sheet_53 : decode cX8_sheet 53 = .ok (.iconst 1, 1) := by decide +kernel
theorem dX8_sheet_54 : decode cX8_sheet 54 = .ok (.ireturn, 1) := by decide +kernel
theorem dX8_lose_0 : decode cX8_lose 0 = .ok (.aload_n 0, 1) := by decide +kernel
theorem dX8_lose_1 : decode cX8_lose 1 = .ok (.iload_n 1, 1) := by decide +kernel
theorem dX8_lose_2 : decode cX8_lose 2 = .ok (.invokevirtual 68, 3) := by decide +kernel
theorem dX8_lose_5 : decode cX8_lose 5 = .ok (.astore_n 2, 1) := by decide +kernel
theorem dX8_lose_6 : decode cX8_lose 6 = .ok (.aload_n 2, 1) := by decide +kernel
theorem dX8_lose_7 : decode cX8_lose 7 = .ok (.ifnonnull 5, 3) := by decide +kernel
theorem dX8_lose_10 : decode cX8_lose 10 = .ok (.iconst (-1), 1) := by decide +kernel
theorem dX8_lose_11 : decode cX8_lose 11 = .ok (.ireturn, 1) := by decide +kernel
theorem dX8_lose_12 : decode cX8_lose 12 = .ok (.aload_n 2, 1) := by decide +kernel
theorem dX8_lose_13 : decode cX8_lose 13 = .ok (.invokevirtual 233, 3) := by decide +kernel
theorem dX8_lose_16 : decode cX8_lose 16 = .ok (.ifCond .eq 7, 3) := by decide +kernel
theorem dX8_lose_19 : decode cX8_lose 19 = .ok (.iconst 0, 1) := by decide +kernel
theorem dX8_lose_20 : decode cX8_lose 20 = .ok (.goto 4, 3) := by decide +kernel
theorem dX8_lose_23 : decode cX8_lose 23 = .ok (.iconst 1, 1) := by decide +kernel
theorem dX8_lose_24 : decode cX8_lose 24 = .ok (.istore_n 3, 1) := by decide +kernel
theorem dX8_lose_25 : decode cX8_lose 25 = .ok (.aload_n 2, 1) := by decide +kernel
theorem dX8_lose_26 : decode cX8_lose 26 = .ok (.invokevirtual 236, 3) := by decide +kernel
theorem dX8_lose_29 : decode cX8_lose 29 = .ok (.iload_n 3, 1) := by decide +kernel
theorem dX8_lose_30 : decode cX8_lose 30 = .ok (.ireturn, 1) := by decide +kernel
theorem dX8_put_0 : decode cX8_put 0 = .ok (.aload_n 0, 1) := by decide +kernel
theorem dX8_put_1 : decode cX8_put 1 = .ok (.iconst 0, 1) := by decide +kernel
theorem dX8_put_2 : decode cX8_put 2 = .ok (.putfield 64, 3) := by decide +kernel
theorem dX8_put_5 : decode cX8_put 5 = .ok (.aload_n 0, 1) := by decide +kernel
theorem dX8_put_6 : decode cX8_put 6 = .ok (.iload_n 1, 1) := by decide +kernel
theorem dX8_put_7 : decode cX8_put 7 = .ok (.invokevirtual 68, 3) := by decide +kernel
theorem dX8_put_10 : decode cX8_put 10 = .ok (.astore 4, 2) := by decide +kernel
theorem dX8_put_12 : decode cX8_put 12 = .ok (.aload 4, 2) := by decide +kernel
theorem dX8_put_14 : decode cX8_put 14 = .ok (.ifnonnull 5, 3) := by decide +kernel
theorem dX8_put_17 : decode cX8_put 17 = .ok (.iconst (-1), 1) := by decide +kernel
theorem dX8_put_18 : decode cX8_put 18 = .ok (.ireturn, 1) := by decide +kernel
theorem dX8_put_19 : decode cX8_put 19 = .ok (.aload 4, 2) := by decide +kernel
theorem dX8_put_21 : decode cX8_put 21 = .ok (.invokevirtual 233, 3) := by decide +kernel
theorem dX8_put_24 : decode cX8_put 24 = .ok (.ifCond .eq 9, 3) := by decide +kernel
theorem dX8_put_27 : decode cX8_put 27 = .ok (.aload_n 0, 1) := by decide +kernel
theorem dX8_put_28 : decode cX8_put 28 = .ok (.iconst 1, 1) := by decide +kernel
theorem dX8_put_29 : decode cX8_put 29 = .ok (.invokevirtual 80, 3) := by decide +kernel
theorem dX8_put_32 : decode cX8_put 32 = .ok (.ireturn, 1) := by decide +kernel
theorem dX8_put_33 : decode cX8_put 33 = .ok (.aload 4, 2) := by decide +kernel
theorem dX8_put_35 : decode cX8_put 35 = .ok (.iload_n 2, 1) := by decide +kernel
theorem dX8_put_36 : decode cX8_put 36 = .ok (.invokevirtual 239, 3) := by decide +kernel
theorem dX8_put_39 : decode cX8_put 39 = .ok (.ifCond .ne 9, 3) := by decide +kernel
theorem dX8_put_42 : decode cX8_put 42 = .ok (.aload_n 0, 1) := by decide +kernel
theorem dX8_put_43 : decode cX8_put 43 = .ok (.iconst 3, 1) := by decide +kernel
theorem dX8_put_44 : decode cX8_put 44 = .ok (.invokevirtual 80, 3) := by decide +kernel
theorem dX8_put_47 : decode cX8_put 47 = .ok (.ireturn, 1) := by decide +kernel
theorem dX8_put_48 : decode cX8_put 48 = .ok (.aload 4, 2) := by decide +kernel
theorem dX8_put_50 : decode cX8_put 50 = .ok (.iload_n 2, 1) := by decide +kernel
theorem dX8_put_51 : decode cX8_put 51 = .ok (.iload_n 3, 1) := by decide +kernel
theorem dX8_put_52 : decode cX8_put 52 = .ok (.invokevirtual 242, 3) := by decide +kernel
theorem dX8_put_55 : decode cX8_put 55 = .ok (.iconst 1, 1) := by decide +kernel
theorem dX8_put_56 : decode cX8_put 56 = .ok (.ireturn, 1) := by decide +kernel
theorem dX8_cell_0 : decode cX8_cell 0 = .ok (.aload_n 0, 1) := by decide +kernel
theorem dX8_cell_1 : decode cX8_cell 1 = .ok (.iconst 0, 1) := by decide +kernel
theorem dX8_cell_2 : decode cX8_cell 2 = .ok (.putfield 64, 3) := by decide +kernel
theorem dX8_cell_5 : decode cX8_cell 5 = .ok (.aload_n 0, 1) := by decide +kernel
theorem dX8_cell_6 : decode cX8_cell 6 = .ok (.iload_n 1, 1) := by decide +kernel
theorem dX8_cell_7 : decode cX8_cell 7 = .ok (.invokevirtual 68, 3) := by decide +kernel
theorem dX8_cell_10 : decode cX8_cell 10 = .ok (.astore 4, 2) := by decide +kernel
theorem dX8_cell_12 : decode cX8_cell 12 = .ok (.aload 4, 2) := by decide +kernel
theorem dX8_cell_14 : decode cX8_cell 14 = .ok (.ifnull 11, 3) := by decide +kernel
theorem dX8_cell_17 : decode cX8_cell 17 = .ok (.iload_n 3, 1) := by decide +kernel
theorem dX8_cell_18 : decode cX8_cell 18 = .ok (.iconst 3, 1) := by decide +kernel
theorem dX8_cell_19 : decode cX8_cell 19 = .ok (.invokestatic 72, 3) := by decide +kernel
theorem dX8_cell_22 : decode cX8_cell 22 = .ok (.ifCond .ne 7, 3) := by decide +kernel
theorem dX8_cell_25 : decode cX8_cell 25 = .ok (.ldc2_w 202, 3) := by decide +kernel
theorem dX8_cell_28 : decode cX8_cell 28 = .ok (.lreturn, 1) := by decide +kernel
theorem dX8_cell_29 : decode cX8_cell 29 = .ok (.aload_n 0, 1) := by decide +kernel
theorem dX8_cell_30 : decode cX8_cell 30 = .ok (.aload 4, 2) := by decide +kernel
theorem dX8_cell_32 : decode cX8_cell 32 = .ok (.iload_n 3, 1) := by decide +kernel
theorem dX8_cell_33 : decode cX8_cell 33 = .ok (.iload_n 2, 1) := by decide +kernel
theorem dX8_cell_34 : decode cX8_cell 34 = .ok (.invokevirtual 245, 3) := by decide +kernel
theorem dX8_cell_37 : decode cX8_cell 37 = .ok (.putfield 64, 3) := by decide +kernel
theorem dX8_cell_40 : decode cX8_cell 40 = .ok (.aload_n 0, 1) := by decide +kernel
theorem dX8_cell_41 : decode cX8_cell 41 = .ok (.getfield 64, 3) := by decide +kernel
theorem dX8_cell_44 : decode cX8_cell 44 = .ok (.ifCond .ne 13, 3) := by decide +kernel
theorem dX8_cell_47 : decode cX8_cell 47 = .ok (.aload 4, 2) := by decide +kernel
theorem dX8_cell_49 : decode cX8_cell 49 = .ok (.iload_n 2, 1) := by decide +kernel
theorem dX8_cell_50 : decode cX8_cell 50 = .ok (.invokevirtual 248, 3) := by decide +kernel
theorem dX8_cell_53 : decode cX8_cell 53 = .ok (.i2l, 1) := by decide +kernel
theorem dX8_cell_54 : decode cX8_cell 54 = .ok (.goto 6, 3) := by decide +kernel
theorem dX8_cell_57 : decode cX8_cell 57 = .ok (.ldc2_w 202, 3) := by decide +kernel
theorem dX8_cell_60 : decode cX8_cell 60 = .ok (.lreturn, 1) := by decide +kernel
theorem dX8_copy_0 : decode cX8_copy 0 = .ok (.aload_n 0, 1) := by decide +kernel
theorem dX8_copy_1 : decode cX8_copy 1 = .ok (.iconst 0, 1) := by decide +kernel
theorem dX8_copy_2 : decode cX8_copy 2 = .ok (.putfield 64, 3) := by decide +kernel
theorem dX8_copy_5 : decode cX8_copy 5 = .ok (.aload_n 0, 1) := by decide +kernel
theorem dX8_copy_6 : decode cX8_copy 6 = .ok (.iload_n 1, 1) := by decide +kernel
theorem dX8_copy_7 : decode cX8_copy 7 = .ok (.invokevirtual 68, 3) := by decide +kernel
theorem dX8_copy_10 : decode cX8_copy 10 = .ok (.astore 6, 2) := by decide +kernel
theorem dX8_copy_12 : decode cX8_copy 12 = .ok (.aload_n 0, 1) := by decide +kernel
theorem dX8_copy_13 : decode cX8_copy 13 = .ok (.iload_n 3, 1) := by decide +kernel
theorem dX8_copy_14 : decode cX8_copy 14 = .ok (.invokevirtual 68, 3) := by decide +kernel
theorem dX8_copy_17 : decode cX8_copy 17 = .ok (.astore 7, 2) := by decide +kernel
theorem dX8_copy_19 : decode cX8_copy 19 = .ok (.aload 6, 2) := by decide +kernel
theorem dX8_copy_21 : decode cX8_copy 21 = .ok (.ifnull 8, 3) := by decide +kernel
theorem dX8_copy_24 : decode cX8_copy 24 = .ok (.aload 7, 2) := by decide +kernel
theorem dX8_copy_26 : decode cX8_copy 26 = .ok (.ifnonnull 5, 3) := by decide +kernel
theorem dX8_copy_29 : decode cX8_copy 29 = .ok (.iconst (-1), 1) := by decide +kernel
theorem dX8_copy_30 : decode cX8_copy 30 = .ok (.ireturn, 1) := by decide +kernel
theorem dX8_copy_31 : decode cX8_copy 31 = .ok (.aload 6, 2) := by decide +kernel
theorem dX8_copy_33 : decode cX8_copy 33 = .ok (.invokevirtual 233, 3) := by decide +kernel
theorem dX8_copy_36 : decode cX8_copy 36 = .ok (.ifCond .ne 11, 3) := by decide +kernel
theorem dX8_copy_39 : decode cX8_copy 39 = .ok (.aload 7, 2) := by decide +kernel
theorem dX8_copy_41 : decode cX8_copy 41 = .ok (.invokevirtual 233, 3) := by decide +kernel
theorem dX8_copy_44 : decode cX8_copy 44 = .ok (.ifCond .eq 9, 3) := by decide +kernel
theorem dX8_copy_47 : decode cX8_copy 47 = .ok (.aload_n 0, 1) := by decide +kernel
theorem dX8_copy_48 : decode cX8_copy 48 = .ok (.iconst 1, 1) := by decide +kernel
theorem dX8_copy_49 : decode cX8_copy 49 = .ok (.invokevirtual 80, 3) := by decide +kernel
theorem dX8_copy_52 : decode cX8_copy 52 = .ok (.ireturn, 1) := by decide +kernel
theorem dX8_copy_53 : decode cX8_copy 53 = .ok (.aload 6, 2) := by decide +kernel
theorem dX8_copy_55 : decode cX8_copy 55 = .ok (.getfield 251, 3) := by decide +kernel
theorem dX8_copy_58 : decode cX8_copy 58 = .ok (.aload 7, 2) := by decide +kernel
theorem dX8_copy_60 : decode cX8_copy 60 = .ok (.getfield 251, 3) := by decide +kernel
theorem dX8_copy_63 : decode cX8_copy 63 = .ok (.if_icmp .eq 9, 3) := by decide +kernel
theorem dX8_copy_66 : decode cX8_copy 66 = .ok (.aload_n 0, 1) := by decide +kernel
theorem dX8_copy_67 : decode cX8_copy 67 = .ok (.iconst 2, 1) := by decide +kernel
theorem dX8_copy_68 : decode cX8_copy 68 = .ok (.invokevirtual 80, 3) := by decide +kernel
theorem dX8_copy_71 : decode cX8_copy 71 = .ok (.ireturn, 1) := by decide +kernel
theorem dX8_copy_72 : decode cX8_copy 72 = .ok (.aload 6, 2) := by decide +kernel
theorem dX8_copy_74 : decode cX8_copy 74 = .ok (.iload_n 2, 1) := by decide +kernel
theorem dX8_copy_75 : decode cX8_copy 75 = .ok (.iload 5, 2) := by decide +kernel
theorem dX8_copy_77 : decode cX8_copy 77 = .ok (.invokevirtual 254, 3) := by decide +kernel
theorem dX8_copy_80 : decode cX8_copy 80 = .ok (.ifCond .eq 15, 3) := by decide +kernel
theorem dX8_copy_83 : decode cX8_copy 83 = .ok (.aload 7, 2) := by decide +kernel
theorem dX8_copy_85 : decode cX8_copy 85 = .ok (.iload 4, 2) := by decide +kernel
theorem dX8_copy_87 : decode cX8_copy 87 = .ok (.iload 5, 2) := by decide +kernel
theorem dX8_copy_89 : decode cX8_copy 89 = .ok (.invokevirtual 254, 3) := by decide +kernel
theorem dX8_copy_92 : decode cX8_copy 92 = .ok (.ifCond .ne 9, 3) := by decide +kernel
theorem dX8_copy_95 : decode cX8_copy 95 = .ok (.aload_n 0, 1) := by decide +kernel
theorem dX8_copy_96 : decode cX8_copy 96 = .ok (.iconst 3, 1) := by decide +kernel
theorem dX8_copy_97 : decode cX8_copy 97 = .ok (.invokevirtual 80, 3) := by decide +kernel
theorem dX8_copy_100 : decode cX8_copy 100 = .ok (.ireturn, 1) := by decide +kernel
theorem dX8_copy_101 : decode cX8_copy 101 = .ok (.aload 6, 2) := by decide +kernel
theorem dX8_copy_103 : decode cX8_copy 103 = .ok (.getfield 257, 3) := by decide +kernel
theorem dX8_copy_106 : decode cX8_copy 106 = .ok (.iload_n 2, 1) := by decide +kernel
theorem dX8_copy_107 : decode cX8_copy 107 = .ok (.aload 7, 2) := by decide +kernel
theorem dX8_copy_109 : decode cX8_copy 109 = .ok (.getfield 257, 3) := by decide +kernel
theorem dX8_copy_112 : decode cX8_copy 112 = .ok (.iload 4, 2) := by decide +kernel
theorem dX8_copy_114 : decode cX8_copy 114 = .ok (.iload 5, 2) := by decide +kernel
theorem dX8_copy_116 : decode cX8_copy 116 = .ok (.invokestatic 260, 3) := by decide +kernel
theorem dX8_copy_119 : decode cX8_copy 119 = .ok (.iload 5, 2) := by decide +kernel
theorem dX8_copy_121 : decode cX8_copy 121 = .ok (.ireturn, 1) := by decide +kernel
theorem dX8_tell_0 : decode cX8_tell 0 = .ok (.aload_n 0, 1) := by decide +kernel
theorem dX8_tell_1 : decode cX8_tell 1 = .ok (.getfield 56, 3) := by decide +kernel
theorem dX8_tell_4 : decode cX8_tell 4 = .ok (.iload_n 1, 1) := by decide +kernel
theorem dX8_tell_5 : decode cX8_tell 5 = .ok (.invokevirtual 111, 3) := by decide +kernel
theorem dX8_tell_8 : decode cX8_tell 8 = .ok (.astore_n 2, 1) := by decide +kernel
theorem dX8_tell_9 : decode cX8_tell 9 = .ok (.aload_n 2, 1) := by decide +kernel
theorem dX8_tell_10 : decode cX8_tell 10 = .ok (.ifnonnull 7, 3) := by decide +kernel
theorem dX8_tell_13 : decode cX8_tell 13 = .ok (.iconst (-1), 1) := by decide +kernel
theorem dX8_tell_14 : decode cX8_tell 14 = .ok (.goto 11, 3) := by decide +kernel
theorem dX8_tell_17 : decode cX8_tell 17 = .ok (.aload_n 2, 1) := by decide +kernel
theorem dX8_tell_18 : decode cX8_tell 18 = .ok (.aload_n 0, 1) := by decide +kernel
theorem dX8_tell_19 : decode cX8_tell 19 = .ok (.getfield 30, 3) := by decide +kernel
theorem dX8_tell_22 : decode cX8_tell 22 = .ok (.invokevirtual 266, 3) := by decide +kernel
theorem dX8_tell_25 : decode cX8_tell 25 = .ok (.ireturn, 1) := by decide +kernel
theorem dX8_polish_0 : decode cX8_polish 0 = .ok (.aload_n 0, 1) := by decide +kernel
theorem dX8_polish_1 : decode cX8_polish 1 = .ok (.getfield 56, 3) := by decide +kernel
theorem dX8_polish_4 : decode cX8_polish 4 = .ok (.iload_n 1, 1) := by decide +kernel
theorem dX8_polish_5 : decode cX8_polish 5 = .ok (.invokevirtual 111, 3) := by decide +kernel
theorem dX8_polish_8 : decode cX8_polish 8 = .ok (.astore_n 2, 1) := by decide +kernel
theorem dX8_polish_9 : decode cX8_polish 9 = .ok (.aload_n 2, 1) := by decide +kernel
theorem dX8_polish_10 : decode cX8_polish 10 = .ok (.ifnonnull 7, 3) := by decide +kernel
theorem dX8_polish_13 : decode cX8_polish 13 = .ok (.iconst (-1), 1) := by decide +kernel
theorem dX8_polish_14 : decode cX8_polish 14 = .ok (.goto 11, 3) := by decide +kernel
theorem dX8_polish_17 : decode cX8_polish 17 = .ok (.aload_n 2, 1) := by decide +kernel
theorem dX8_polish_18 : decode cX8_polish 18 = .ok (.aload_n 0, 1) := by decide +kernel
theorem dX8_polish_19 : decode cX8_polish 19 = .ok (.getfield 30, 3) := by decide +kernel
theorem dX8_polish_22 : decode cX8_polish 22 = .ok (.invokevirtual 270, 3) := by decide +kernel
theorem dX8_polish_25 : decode cX8_polish 25 = .ok (.ireturn, 1) := by decide +kernel
theorem dX8_as_0 : decode cX8_as 0 = .ok (.aload_n 0, 1) := by decide +kernel
theorem dX8_as_1 : decode cX8_as 1 = .ok (.iconst 0, 1) := by decide +kernel
theorem dX8_as_2 : decode cX8_as 2 = .ok (.putfield 64, 3) := by decide +kernel
theorem dX8_as_5 : decode cX8_as 5 = .ok (.aload_n 0, 1) := by decide +kernel
theorem dX8_as_6 : decode cX8_as 6 = .ok (.getfield 56, 3) := by decide +kernel
theorem dX8_as_9 : decode cX8_as 9 = .ok (.iload_n 1, 1) := by decide +kernel
theorem dX8_as_10 : decode cX8_as 10 = .ok (.invokevirtual 111, 3) := by decide +kernel
theorem dX8_as_13 : decode cX8_as 13 = .ok (.astore_n 3, 1) := by decide +kernel
theorem dX8_as_14 : decode cX8_as 14 = .ok (.aload_n 3, 1) := by decide +kernel
theorem dX8_as_15 : decode cX8_as 15 = .ok (.ifnonnull 5, 3) := by decide +kernel
theorem dX8_as_18 : decode cX8_as 18 = .ok (.iconst (-1), 1) := by decide +kernel
theorem dX8_as_19 : decode cX8_as 19 = .ok (.ireturn, 1) := by decide +kernel
theorem dX8_as_20 : decode cX8_as 20 = .ok (.iload_n 2, 1) := by decide +kernel
theorem dX8_as_21 : decode cX8_as 21 = .ok (.iconst 3, 1) := by decide +kernel
theorem dX8_as_22 : decode cX8_as 22 = .ok (.invokestatic 72, 3) := by decide +kernel
theorem dX8_as_25 : decode cX8_as 25 = .ok (.ifCond .ne 6, 3) := by decide +kernel
theorem dX8_as_28 : decode cX8_as 28 = .ok (.bipush (-2), 2) := by decide +kernel
theorem dX8_as_30 : decode cX8_as 30 = .ok (.ireturn, 1) := by decide +kernel
theorem dX8_as_31 : decode cX8_as 31 = .ok (.aload_n 3, 1) := by decide +kernel
theorem dX8_as_32 : decode cX8_as 32 = .ok (.iload_n 2, 1) := by decide +kernel
theorem dX8_as_33 : decode cX8_as 33 = .ok (.invokestatic 273, 3) := by decide +kernel
theorem dX8_as_36 : decode cX8_as 36 = .ok (.ifCond .eq 7, 3) := by decide +kernel
theorem dX8_as_39 : decode cX8_as 39 = .ok (.iconst 1, 1) := by decide +kernel
theorem dX8_as_40 : decode cX8_as 40 = .ok (.goto 8, 3) := by decide +kernel
theorem dX8_as_43 : decode cX8_as 43 = .ok (.aload_n 0, 1) := by decide +kernel
theorem dX8_as_44 : decode cX8_as 44 = .ok (.iconst 2, 1) := by decide +kernel
theorem dX8_as_45 : decode cX8_as 45 = .ok (.invokevirtual 80, 3) := by decide +kernel
theorem dX8_as_48 : decode cX8_as 48 = .ok (.ireturn, 1) := by decide +kernel
theorem dX8_trace_0 : decode cX8_trace 0 = .ok (.aload_n 0, 1) := by decide +kernel
theorem dX8_trace_1 : decode cX8_trace 1 = .ok (.getfield 30, 3) := by decide +kernel
theorem dX8_trace_4 : decode cX8_trace 4 = .ok (.getfield 277, 3) := by decide +kernel
theorem dX8_trace_7 : decode cX8_trace 7 = .ok (.ireturn, 1) := by decide +kernel
theorem dX8_fault_0 : decode cX8_fault 0 = .ok (.aload_n 0, 1) := by decide +kernel
theorem dX8_fault_1 : decode cX8_fault 1 = .ok (.getfield 64, 3) := by decide +kernel
theorem dX8_fault_4 : decode cX8_fault 4 = .ok (.ireturn, 1) := by decide +kernel
theorem dX8_many_0 : decode cX8_many 0 = .ok (.iload_n 1, 1) := by decide +kernel
theorem dX8_many_1 : decode cX8_many 1 = .ok (.tableswitch 98 0 6 #[43, 59, 67, 75, 83, 88, 93], 43) := by decide +kernel
theorem dX8_many_44 : decode cX8_many 44 = .ok (.aload_n 0, 1) := by decide +kernel
theorem dX8_many_45 : decode cX8_many 45 = .ok (.getfield 56, 3) := by decide +kernel
theorem dX8_many_48 : decode cX8_many 48 = .ok (.getfield 280, 3) := by decide +kernel
theorem dX8_many_51 : decode cX8_many 51 = .ok (.aload_n 0, 1) := by decide +kernel
theorem dX8_many_52 : decode cX8_many 52 = .ok (.getfield 56, 3) := by decide +kernel
theorem dX8_many_55 : decode cX8_many 55 = .ok (.getfield 283, 3) := by decide +kernel
theorem dX8_many_58 : decode cX8_many 58 = .ok (.imul, 1) := by decide +kernel
theorem dX8_many_59 : decode cX8_many 59 = .ok (.ireturn, 1) := by decide +kernel
theorem dX8_many_60 : decode cX8_many 60 = .ok (.aload_n 0, 1) := by decide +kernel
theorem dX8_many_61 : decode cX8_many 61 = .ok (.getfield 56, 3) := by decide +kernel
theorem dX8_many_64 : decode cX8_many 64 = .ok (.getfield 283, 3) := by decide +kernel
theorem dX8_many_67 : decode cX8_many 67 = .ok (.ireturn, 1) := by decide +kernel
theorem dX8_many_68 : decode cX8_many 68 = .ok (.aload_n 0, 1) := by decide +kernel
theorem dX8_many_69 : decode cX8_many 69 = .ok (.getfield 56, 3) := by decide +kernel
theorem dX8_many_72 : decode cX8_many 72 = .ok (.getfield 91, 3) := by decide +kernel
theorem dX8_many_75 : decode cX8_many 75 = .ok (.ireturn, 1) := by decide +kernel
theorem dX8_many_76 : decode cX8_many 76 = .ok (.aload_n 0, 1) := by decide +kernel
theorem dX8_many_77 : decode cX8_many 77 = .ok (.getfield 56, 3) := by decide +kernel
theorem dX8_many_80 : decode cX8_many 80 = .ok (.getfield 286, 3) := by decide +kernel
theorem dX8_many_83 : decode cX8_many 83 = .ok (.ireturn, 1) := by decide +kernel
theorem dX8_many_84 : decode cX8_many 84 = .ok (.aload_n 0, 1) := by decide +kernel
theorem dX8_many_85 : decode cX8_many 85 = .ok (.getfield 137, 3) := by decide +kernel
theorem dX8_many_88 : decode cX8_many 88 = .ok (.ireturn, 1) := by decide +kernel
theorem dX8_many_89 : decode cX8_many 89 = .ok (.aload_n 0, 1) := by decide +kernel
theorem dX8_many_90 : decode cX8_many 90 = .ok (.getfield 213, 3) := by decide +kernel
theorem dX8_many_93 : decode cX8_many 93 = .ok (.ireturn, 1) := by decide +kernel
theorem dX8_many_94 : decode cX8_many 94 = .ok (.aload_n 0, 1) := by decide +kernel
theorem dX8_many_95 : decode cX8_many 95 = .ok (.getfield 131, 3) := by decide +kernel
theorem dX8_many_98 : decode cX8_many 98 = .ok (.ireturn, 1) := by decide +kernel
theorem dX8_many_99 : decode cX8_many 99 = .ok (.bipush (-2), 2) := by decide +kernel
theorem dX8_many_101 : decode cX8_many 101 = .ok (.ireturn, 1) := by decide +kernel
theorem dX8_isBelow_0 : decode cX8_isBelow 0 = .ok (.iload_n 0, 1) := by decide +kernel
theorem dX8_isBelow_1 : decode cX8_isBelow 1 = .ok (.ifCond .lt 12, 3) := by decide +kernel
theorem dX8_isBelow_4 : decode cX8_isBelow 4 = .ok (.iload_n 0, 1) := by decide +kernel
theorem dX8_isBelow_5 : decode cX8_isBelow 5 = .ok (.iload_n 1, 1) := by decide +kernel
theorem dX8_isBelow_6 : decode cX8_isBelow 6 = .ok (.if_icmp .ge 7, 3) := by decide +kernel
theorem dX8_isBelow_9 : decode cX8_isBelow 9 = .ok (.iconst 1, 1) := by decide +kernel
theorem dX8_isBelow_10 : decode cX8_isBelow 10 = .ok (.goto 4, 3) := by decide +kernel
theorem dX8_isBelow_13 : decode cX8_isBelow 13 = .ok (.iconst 0, 1) := by decide +kernel
theorem dX8_isBelow_14 : decode cX8_isBelow 14 = .ok (.ireturn, 1) := by decide +kernel
theorem dX8_codeOf_0 : decode cX8_codeOf 0 = .ok (.bipush 100, 2) := by decide +kernel
theorem dX8_codeOf_2 : decode cX8_codeOf 2 = .ok (.iload_n 0, 1) := by decide +kernel
theorem dX8_codeOf_3 : decode cX8_codeOf 3 = .ok (.imul, 1) := by decide +kernel
theorem dX8_codeOf_4 : decode cX8_codeOf 4 = .ok (.bipush 10, 2) := by decide +kernel
theorem dX8_codeOf_6 : decode cX8_codeOf 6 = .ok (.iload_n 1, 1) := by decide +kernel
theorem dX8_codeOf_7 : decode cX8_codeOf 7 = .ok (.imul, 1) := by decide +kernel
theorem dX8_codeOf_8 : decode cX8_codeOf 8 = .ok (.iadd, 1) := by decide +kernel
theorem dX8_codeOf_9 : decode cX8_codeOf 9 = .ok (.iload_n 2, 1) := by decide +kernel
theorem dX8_codeOf_10 : decode cX8_codeOf 10 = .ok (.iadd, 1) := by decide +kernel
theorem dX8_codeOf_11 : decode cX8_codeOf 11 = .ok (.ireturn, 1) := by decide +kernel
theorem dX8_isOfKind_0 : decode cX8_isOfKind 0 = .ok (.iload_n 1, 1) := by decide +kernel
theorem dX8_isOfKind_1 : decode cX8_isOfKind 1 = .ok (.ifCond .ne 5, 3) := by decide +kernel
theorem dX8_isOfKind_4 : decode cX8_isOfKind 4 = .ok (.iconst 1, 1) := by decide +kernel
theorem dX8_isOfKind_5 : decode cX8_isOfKind 5 = .ok (.ireturn, 1) := by decide +kernel
theorem dX8_isOfKind_6 : decode cX8_isOfKind 6 = .ok (.iload_n 1, 1) := by decide +kernel
theorem dX8_isOfKind_7 : decode cX8_isOfKind 7 = .ok (.iconst 1, 1) := by decide +kernel
theorem dX8_isOfKind_8 : decode cX8_isOfKind 8 = .ok (.if_icmp .ne 10, 3) := by decide +kernel
theorem dX8_isOfKind_11 : decode cX8_isOfKind 11 = .ok (.aload_n 0, 1) := by decide +kernel
theorem dX8_isOfKind_12 : decode cX8_isOfKind 12 = .ok (.instanceof 289, 3) := by decide +kernel
theorem dX8_isOfKind_15 : decode cX8_isOfKind 15 = .ok (.goto 7, 3) := by decide +kernel
theorem dX8_isOfKind_18 : decode cX8_isOfKind 18 = .ok (.aload_n 0, 1) := by decide +kernel
theorem dX8_isOfKind_19 : decode cX8_isOfKind 19 = .ok (.instanceof 291, 3) := by decide +kernel
theorem dX8_isOfKind_22 : decode cX8_isOfKind 22 = .ok (.ireturn, 1) := by decide +kernel
theorem dX8_failed_0 : decode cX8_failed 0 = .ok (.aload_n 0, 1) := by decide +kernel
theorem dX8_failed_1 : decode cX8_failed 1 = .ok (.iload_n 1, 1) := by decide +kernel
theorem dX8_failed_2 : decode cX8_failed 2 = .ok (.putfield 64, 3) := by decide +kernel
theorem dX8_failed_5 : decode cX8_failed 5 = .ok (.bipush (-10), 2) := by decide +kernel
theorem dX8_failed_7 : decode cX8_failed 7 = .ok (.iload_n 1, 1) := by decide +kernel
theorem dX8_failed_8 : decode cX8_failed 8 = .ok (.isub, 1) := by decide +kernel
theorem dX8_failed_9 : decode cX8_failed 9 = .ok (.ireturn, 1) := by decide +kernel
theorem dX8_sheetAt_0 : decode cX8_sheetAt 0 = .ok (.iload_n 1, 1) := by decide +kernel
theorem dX8_sheetAt_1 : decode cX8_sheetAt 1 = .ok (.iconst 4, 1) := by decide +kernel
theorem dX8_sheetAt_2 : decode cX8_sheetAt 2 = .ok (.invokestatic 72, 3) := by decide +kernel
theorem dX8_sheetAt_5 : decode cX8_sheetAt 5 = .ok (.ifCond .eq 12, 3) := by decide +kernel
theorem dX8_sheetAt_8 : decode cX8_sheetAt 8 = .ok (.aload_n 0, 1) := by decide +kernel
theorem dX8_sheetAt_9 : decode cX8_sheetAt 9 = .ok (.getfield 23, 3) := by decide +kernel
theorem dX8_sheetAt_12 : decode cX8_sheetAt 12 = .ok (.iload_n 1, 1) := by decide +kernel
theorem dX8_sheetAt_13 : decode cX8_sheetAt 13 = .ok (.aaload, 1) := by decide +kernel
theorem dX8_sheetAt_14 : decode cX8_sheetAt 14 = .ok (.goto 4, 3) := by decide +kernel
theorem dX8_sheetAt_17 : decode cX8_sheetAt 17 = .ok (.aconst_null, 1) := by decide +kernel
theorem dX8_sheetAt_18 : decode cX8_sheetAt 18 = .ok (.areturn, 1) := by decide +kernel
theorem dX8_refusalOfPush_0 : decode cX8_refusalOfPush 0 = .ok (.aload_n 0, 1) := by decide +kernel
theorem dX8_refusalOfPush_1 : decode cX8_refusalOfPush 1 = .ok (.getfield 56, 3) := by decide +kernel
theorem dX8_refusalOfPush_4 : decode cX8_refusalOfPush 4 = .ok (.iload_n 1, 1) := by decide +kernel
theorem dX8_refusalOfPush_5 : decode cX8_refusalOfPush 5 = .ok (.invokevirtual 111, 3) := by decide +kernel
theorem dX8_refusalOfPush_8 : decode cX8_refusalOfPush 8 = .ok (.ifnull 14, 3) := by decide +kernel
theorem dX8_refusalOfPush_11 : decode cX8_refusalOfPush 11 = .ok (.aload_n 0, 1) := by decide +kernel
theorem dX8_refusalOfPush_12 : decode cX8_refusalOfPush 12 = .ok (.getfield 56, 3) := by decide +kernel
theorem dX8_refusalOfPush_15 : decode cX8_refusalOfPush 15 = .ok (.iload_n 2, 1) := by decide +kernel
theorem dX8_refusalOfPush_16 : decode cX8_refusalOfPush 16 = .ok (.invokevirtual 147, 3) := by decide +kernel
theorem dX8_refusalOfPush_19 : decode cX8_refusalOfPush 19 = .ok (.ifCond .ne 5, 3) := by decide +kernel
theorem dX8_refusalOfPush_22 : decode cX8_refusalOfPush 22 = .ok (.iconst (-1), 1) := by decide +kernel
theorem dX8_refusalOfPush_23 : decode cX8_refusalOfPush 23 = .ok (.ireturn, 1) := by decide +kernel
theorem dX8_refusalOfPush_24 : decode cX8_refusalOfPush 24 = .ok (.iload_n 3, 1) := by decide +kernel
theorem dX8_refusalOfPush_25 : decode cX8_refusalOfPush 25 = .ok (.iconst 4, 1) := by decide +kernel
theorem dX8_refusalOfPush_26 : decode cX8_refusalOfPush 26 = .ok (.invokestatic 72, 3) := by decide +kernel
theorem dX8_refusalOfPush_29 : decode cX8_refusalOfPush 29 = .ok (.ifCond .eq 7, 3) := by decide +kernel
theorem dX8_refusalOfPush_32 : decode cX8_refusalOfPush 32 = .ok (.iconst 0, 1) := by decide +kernel
theorem dX8_refusalOfPush_33 : decode cX8_refusalOfPush 33 = .ok (.goto 5, 3) := by decide +kernel
theorem dX8_refusalOfPush_36 : decode cX8_refusalOfPush 36 = .ok (.bipush (-2), 2) := by decide +kernel
theorem dX8_refusalOfPush_38 : decode cX8_refusalOfPush 38 = .ok (.ireturn, 1) := by decide +kernel
theorem dX8_takeDraft_0 : decode cX8_takeDraft 0 = .ok (.aload_n 0, 1) := by decide +kernel
theorem dX8_takeDraft_1 : decode cX8_takeDraft 1 = .ok (.getfield 56, 3) := by decide +kernel
theorem dX8_takeDraft_4 : decode cX8_takeDraft 4 = .ok (.astore_n 1, 1) := by decide +kernel
theorem dX8_takeDraft_5 : decode cX8_takeDraft 5 = .ok (.aload_n 0, 1) := by decide +kernel
theorem dX8_takeDraft_6 : decode cX8_takeDraft 6 = .ok (.aload_n 0, 1) := by decide +kernel
theorem dX8_takeDraft_7 : decode cX8_takeDraft 7 = .ok (.getfield 60, 3) := by decide +kernel
theorem dX8_takeDraft_10 : decode cX8_takeDraft 10 = .ok (.putfield 56, 3) := by decide +kernel
theorem dX8_takeDraft_13 : decode cX8_takeDraft 13 = .ok (.aload_n 0, 1) := by decide +kernel
theorem dX8_takeDraft_14 : decode cX8_takeDraft 14 = .ok (.aload_n 1, 1) := by decide +kernel
theorem dX8_takeDraft_15 : decode cX8_takeDraft 15 = .ok (.putfield 60, 3) := by decide +kernel
theorem dX8_takeDraft_18 : decode cX8_takeDraft 18 = .ok (.aload_n 0, 1) := by decide +kernel
theorem dX8_takeDraft_19 : decode cX8_takeDraft 19 = .ok (.iconst 0, 1) := by decide +kernel
theorem dX8_takeDraft_20 : decode cX8_takeDraft 20 = .ok (.putfield 131, 3) := by decide +kernel
theorem dX8_takeDraft_23 : decode cX8_takeDraft 23 = .ok (.aload_n 0, 1) := by decide +kernel
theorem dX8_takeDraft_24 : decode cX8_takeDraft 24 = .ok (.iconst 0, 1) := by decide +kernel
theorem dX8_takeDraft_25 : decode cX8_takeDraft 25 = .ok (.putfield 137, 3) := by decide +kernel
theorem dX8_takeDraft_28 : decode cX8_takeDraft 28 = .ok (.aload_n 0, 1) := by decide +kernel
theorem dX8_takeDraft_29 : decode cX8_takeDraft 29 = .ok (.iconst 0, 1) := by decide +kernel
theorem dX8_takeDraft_30 : decode cX8_takeDraft 30 = .ok (.putfield 213, 3) := by decide +kernel
theorem dX8_takeDraft_33 : decode cX8_takeDraft 33 = .ok (.aload_n 0, 1) := by decide +kernel
theorem dX8_takeDraft_34 : decode cX8_takeDraft 34 = .ok (.getfield 42, 3) := by decide +kernel
theorem dX8_takeDraft_37 : decode cX8_takeDraft 37 = .ok (.aload_n 0, 1) := by decide +kernel
theorem dX8_takeDraft_38 : decode cX8_takeDraft 38 = .ok (.getfield 56, 3) := by decide +kernel
theorem dX8_takeDraft_41 : decode cX8_takeDraft 41 = .ok (.aload_n 0, 1) := by decide +kernel
theorem dX8_takeDraft_42 : decode cX8_takeDraft 42 = .ok (.getfield 131, 3) := by decide +kernel
theorem dX8_takeDraft_45 : decode cX8_takeDraft 45 = .ok (.invokevirtual 293, 3) := by decide +kernel
theorem dX8_takeDraft_48 : decode cX8_takeDraft 48 = .ok (.return_, 1) := by decide +kernel
theorem dX8_replayNow_0 : decode cX8_replayNow 0 = .ok (.aload_n 0, 1) := by decide +kernel
theorem dX8_replayNow_1 : decode cX8_replayNow 1 = .ok (.aload_n 0, 1) := by decide +kernel
theorem dX8_replayNow_2 : decode cX8_replayNow 2 = .ok (.getfield 42, 3) := by decide +kernel
theorem dX8_replayNow_5 : decode cX8_replayNow 5 = .ok (.aload_n 0, 1) := by decide +kernel
theorem dX8_replayNow_6 : decode cX8_replayNow 6 = .ok (.getfield 131, 3) := by decide +kernel
theorem dX8_replayNow_9 : decode cX8_replayNow 9 = .ok (.bipush (-9), 2) := by decide +kernel
theorem dX8_replayNow_11 : decode cX8_replayNow 11 = .ok (.invokevirtual 226, 3) := by decide +kernel
theorem dX8_replayNow_14 : decode cX8_replayNow 14 = .ok (.return_, 1) := by decide +kernel
theorem dX8_replay_0 : decode cX8_replay 0 = .ok (.aload_n 1, 1) := by decide +kernel
theorem dX8_replay_1 : decode cX8_replay 1 = .ok (.aload_n 0, 1) := by decide +kernel
theorem dX8_replay_2 : decode cX8_replay 2 = .ok (.getfield 56, 3) := by decide +kernel
theorem dX8_replay_5 : decode cX8_replay 5 = .ok (.iload_n 2, 1) := by decide +kernel
theorem dX8_replay_6 : decode cX8_replay 6 = .ok (.invokevirtual 293, 3) := by decide +kernel
theorem dX8_replay_9 : decode cX8_replay 9 = .ok (.iconst 0, 1) := by decide +kernel
theorem dX8_replay_10 : decode cX8_replay 10 = .ok (.istore 4, 2) := by decide +kernel
theorem dX8_replay_12 : decode cX8_replay 12 = .ok (.iload 4, 2) := by decide +kernel
theorem dX8_replay_14 : decode cX8_replay 14 = .ok (.aload_n 0, 1) := by decide +kernel
theorem dX8_replay_15 : decode cX8_replay 15 = .ok (.getfield 137, 3) := by decide +kernel
theorem dX8_replay_18 : decode cX8_replay 18 = .ok (.if_icmp .ge 26, 3) := by decide +kernel
theorem dX8_replay_21 : decode cX8_replay 21 = .ok (.iload 4, 2) := by decide +kernel
theorem dX8_replay_23 : decode cX8_replay 23 = .ok (.iload_n 3, 1) := by decide +kernel
theorem dX8_replay_24 : decode cX8_replay 24 = .ok (.if_icmp .eq 14, 3) := by decide +kernel
theorem dX8_replay_27 : decode cX8_replay 27 = .ok (.aload_n 1, 1) := by decide +kernel
theorem dX8_replay_28 : decode cX8_replay 28 = .ok (.aload_n 0, 1) := by decide +kernel
theorem dX8_replay_29 : decode cX8_replay 29 = .ok (.getfield 11, 3) := by decide +kernel
theorem dX8_replay_32 : decode cX8_replay 32 = .ok (.iload 4, 2) := by decide +kernel
theorem dX8_replay_34 : decode cX8_replay 34 = .ok (.iaload, 1) := by decide +kernel
theorem dX8_replay_35 : decode cX8_replay 35 = .ok (.invokevirtual 143, 3) := by decide +kernel
theorem dX8_replay_38 : decode cX8_replay 38 = .ok (.iinc 4 1, 3) := by decide +kernel
theorem dX8_replay_41 : decode cX8_replay 41 = .ok (.goto (-29), 3) := by decide +kernel
theorem dX8_replay_44 : decode cX8_replay 44 = .ok (.return_, 1) := by decide +kernel
theorem dX8_readingsAreSo_0 : decode cX8_readingsAreSo 0 = .ok (.iconst 0, 1) := by decide +kernel
theorem dX8_readingsAreSo_1 : decode cX8_readingsAreSo 1 = .ok (.istore_n 2, 1) := by decide +kernel
theorem dX8_readingsAreSo_2 : decode cX8_readingsAreSo 2 = .ok (.iload_n 2, 1) := by decide +kernel
theorem dX8_readingsAreSo_3 : decode cX8_readingsAreSo 3 = .ok (.aload_n 0, 1) := by decide +kernel
theorem dX8_readingsAreSo_4 : decode cX8_readingsAreSo 4 = .ok (.getfield 213, 3) := by decide +kernel
theorem dX8_readingsAreSo_7 : decode cX8_readingsAreSo 7 = .ok (.if_icmp .ge 30, 3) := by decide +kernel
theorem dX8_readingsAreSo_10 : decode cX8_readingsAreSo 10 = .ok (.aload_n 1, 1) := by decide +kernel
theorem dX8_readingsAreSo_11 : decode cX8_readingsAreSo 11 = .ok (.aload_n 0, 1) := by decide +kernel
theorem dX8_readingsAreSo_12 : decode cX8_readingsAreSo 12 = .ok (.getfield 15, 3) := by decide +kernel
theorem dX8_readingsAreSo_15 : decode cX8_readingsAreSo 15 = .ok (.iload_n 2, 1) := by decide +kernel
theorem dX8_readingsAreSo_16 : decode cX8_readingsAreSo 16 = .ok (.iaload, 1) := by decide +kernel
theorem dX8_readingsAreSo_17 : decode cX8_readingsAreSo 17 = .ok (.invokevirtual 150, 3) := by decide +kernel
theorem dX8_readingsAreSo_20 : decode cX8_readingsAreSo 20 = .ok (.aload_n 0, 1) := by decide +kernel
theorem dX8_readingsAreSo_21 : decode cX8_readingsAreSo 21 = .ok (.getfield 18, 3) := by decide +kernel
theorem dX8_readingsAreSo_24 : decode cX8_readingsAreSo 24 = .ok (.iload_n 2, 1) := by decide +kernel
theorem dX8_readingsAreSo_25 : decode cX8_readingsAreSo 25 = .ok (.iaload, 1) := by decide +kernel
theorem dX8_readingsAreSo_26 : decode cX8_readingsAreSo 26 = .ok (.if_icmp .eq 5, 3) := by decide +kernel
theorem dX8_readingsAreSo_29 : decode cX8_readingsAreSo 29 = .ok (.iconst 0, 1) := by decide +kernel
theorem dX8_readingsAreSo_30 : decode cX8_readingsAreSo 30 = .ok (.ireturn, 1) := by decide +kernel
theorem dX8_readingsAreSo_31 : decode cX8_readingsAreSo 31 = .ok (.iinc 2 1, 3) := by decide +kernel
theorem dX8_readingsAreSo_34 : decode cX8_readingsAreSo 34 = .ok (.goto (-32), 3) := by decide +kernel
theorem dX8_readingsAreSo_37 : decode cX8_readingsAreSo 37 = .ok (.iconst 1, 1) := by decide +kernel
theorem dX8_readingsAreSo_38 : decode cX8_readingsAreSo 38 = .ok (.ireturn, 1) := by decide +kernel
theorem dX8_areCodes_0 : decode cX8_areCodes 0 = .ok (.iconst 0, 1) := by decide +kernel
theorem dX8_areCodes_1 : decode cX8_areCodes 1 = .ok (.istore 4, 2) := by decide +kernel
theorem dX8_areCodes_3 : decode cX8_areCodes 3 = .ok (.iload 4, 2) := by decide +kernel
theorem dX8_areCodes_5 : decode cX8_areCodes 5 = .ok (.iload_n 3, 1) := by decide +kernel
theorem dX8_areCodes_6 : decode cX8_areCodes 6 = .ok (.if_icmp .ge 29, 3) := by decide +kernel
theorem dX8_areCodes_9 : decode cX8_areCodes 9 = .ok (.aload_n 0, 1) := by decide +kernel
theorem dX8_areCodes_10 : decode cX8_areCodes 10 = .ok (.getfield 56, 3) := by decide +kernel
theorem dX8_areCodes_13 : decode cX8_areCodes 13 = .ok (.aload_n 1, 1) := by decide +kernel
theorem dX8_areCodes_14 : decode cX8_areCodes 14 = .ok (.iload_n 2, 1) := by decide +kernel
theorem dX8_areCodes_15 : decode cX8_areCodes 15 = .ok (.iload 4, 2) := by decide +kernel
theorem dX8_areCodes_17 : decode cX8_areCodes 17 = .ok (.iadd, 1) := by decide +kernel
theorem dX8_areCodes_18 : decode cX8_areCodes 18 = .ok (.invokevirtual 248, 3) := by decide +kernel
theorem dX8_areCodes_21 : decode cX8_areCodes 21 = .ok (.invokevirtual 297, 3) := by decide +kernel
theorem dX8_areCodes_24 : decode cX8_areCodes 24 = .ok (.ifCond .ne 5, 3) := by decide +kernel
theorem dX8_areCodes_27 : decode cX8_areCodes 27 = .ok (.iconst 0, 1) := by decide +kernel
theorem dX8_areCodes_28 : decode cX8_areCodes 28 = .ok (.ireturn, 1) := by decide +kernel
theorem dX8_areCodes_29 : decode cX8_areCodes 29 = .ok (.iinc 4 1, 3) := by decide +kernel
theorem dX8_areCodes_32 : decode cX8_areCodes 32 = .ok (.goto (-29), 3) := by decide +kernel
theorem dX8_areCodes_35 : decode cX8_areCodes 35 = .ok (.iconst 1, 1) := by decide +kernel
theorem dX8_areCodes_36 : decode cX8_areCodes 36 = .ok (.ireturn, 1) := by decide +kernel
theorem dX8_hadByRow_0 : decode cX8_hadByRow 0 = .ok (.aload_n 0, 1) := by decide +kernel
theorem dX8_hadByRow_1 : decode cX8_hadByRow 1 = .ok (.getfield 46, 3) := by decide +kernel
theorem dX8_hadByRow_4 : decode cX8_hadByRow 4 = .ok (.aload_n 0, 1) := by decide +kernel
theorem dX8_hadByRow_5 : decode cX8_hadByRow 5 = .ok (.getfield 42, 3) := by decide +kernel
theorem dX8_hadByRow_8 : decode cX8_hadByRow 8 = .ok (.invokevirtual 165, 3) := by decide +kernel
theorem dX8_hadByRow_11 : decode cX8_hadByRow 11 = .ok (.iconst 0, 1) := by decide +kernel
theorem dX8_hadByRow_12 : decode cX8_hadByRow 12 = .ok (.istore 4, 2) := by decide +kernel
theorem dX8_hadByRow_14 : decode cX8_hadByRow 14 = .ok (.iload 4, 2) := by decide +kernel
theorem dX8_hadByRow_16 : decode cX8_hadByRow 16 = .ok (.iload_n 3, 1) := by decide +kernel
theorem dX8_hadByRow_17 : decode cX8_hadByRow 17 = .ok (.if_icmp .ge 49, 3) := by decide +kernel
theorem dX8_hadByRow_20 : decode cX8_hadByRow 20 = .ok (.aload_n 1, 1) := by decide +kernel
theorem dX8_hadByRow_21 : decode cX8_hadByRow 21 = .ok (.iload_n 2, 1) := by decide +kernel
theorem dX8_hadByRow_22 : decode cX8_hadByRow 22 = .ok (.iload 4, 2) := by decide +kernel
theorem dX8_hadByRow_24 : decode cX8_hadByRow 24 = .ok (.iadd, 1) := by decide +kernel
theorem dX8_hadByRow_25 : decode cX8_hadByRow 25 = .ok (.invokevirtual 248, 3) := by decide +kernel
theorem dX8_hadByRow_28 : decode cX8_hadByRow 28 = .ok (.istore 5, 2) := by decide +kernel
theorem dX8_hadByRow_30 : decode cX8_hadByRow 30 = .ok (.aload_n 0, 1) := by decide +kernel
theorem dX8_hadByRow_31 : decode cX8_hadByRow 31 = .ok (.getfield 46, 3) := by decide +kernel
theorem dX8_hadByRow_34 : decode cX8_hadByRow 34 = .ok (.iload 5, 2) := by decide +kernel
theorem dX8_hadByRow_36 : decode cX8_hadByRow 36 = .ok (.invokestatic 300, 3) := by decide +kernel
theorem dX8_hadByRow_39 : decode cX8_hadByRow 39 = .ok (.invokevirtual 162, 3) := by decide +kernel
theorem dX8_hadByRow_42 : decode cX8_hadByRow 42 = .ok (.ifCond .ne 9, 3) := by decide +kernel
theorem dX8_hadByRow_45 : decode cX8_hadByRow 45 = .ok (.bipush (-100), 2) := by decide +kernel
theorem dX8_hadByRow_47 : decode cX8_hadByRow 47 = .ok (.iload 4, 2) := by decide +kernel
theorem dX8_hadByRow_49 : decode cX8_hadByRow 49 = .ok (.isub, 1) := by decide +kernel
theorem dX8_hadByRow_50 : decode cX8_hadByRow 50 = .ok (.ireturn, 1) := by decide +kernel
theorem dX8_hadByRow_51 : decode cX8_hadByRow 51 = .ok (.aload_n 0, 1) := by decide +kernel
theorem dX8_hadByRow_52 : decode cX8_hadByRow 52 = .ok (.getfield 46, 3) := by decide +kernel
theorem dX8_hadByRow_55 : decode cX8_hadByRow 55 = .ok (.iload 5, 2) := by decide +kernel
theorem dX8_hadByRow_57 : decode cX8_hadByRow 57 = .ok (.invokevirtual 143, 3) := by decide +kernel
theorem dX8_hadByRow_60 : decode cX8_hadByRow 60 = .ok (.iinc 4 1, 3) := by decide +kernel
theorem dX8_hadByRow_63 : decode cX8_hadByRow 63 = .ok (.goto (-49), 3) := by decide +kernel
theorem dX8_hadByRow_66 : decode cX8_hadByRow 66 = .ok (.aload_n 0, 1) := by decide +kernel
theorem dX8_hadByRow_67 : decode cX8_hadByRow 67 = .ok (.getfield 46, 3) := by decide +kernel
theorem dX8_hadByRow_70 : decode cX8_hadByRow 70 = .ok (.invokevirtual 303, 3) := by decide +kernel
theorem dX8_hadByRow_73 : decode cX8_hadByRow 73 = .ok (.ireturn, 1) := by decide +kernel
theorem dX8_peaOf_0 : decode cX8_peaOf 0 = .ok (.iload_n 0, 1) := by decide +kernel
theorem dX8_peaOf_1 : decode cX8_peaOf 1 = .ok (.bipush 10, 2) := by decide +kernel
theorem dX8_peaOf_3 : decode cX8_peaOf 3 = .ok (.idiv, 1) := by decide +kernel
theorem dX8_peaOf_4 : decode cX8_peaOf 4 = .ok (.bipush 10, 2) := by decide +kernel
theorem dX8_peaOf_6 : decode cX8_peaOf 6 = .ok (.irem, 1) := by decide +kernel
theorem dX8_peaOf_7 : decode cX8_peaOf 7 = .ok (.ireturn, 1) := by decide +kernel
theorem dX8_findsRow_0 : decode cX8_findsRow 0 = .ok (.iload_n 2, 1) := by decide +kernel
theorem dX8_findsRow_1 : decode cX8_findsRow 1 = .ok (.iconst 3, 1) := by decide +kernel
theorem dX8_findsRow_2 : decode cX8_findsRow 2 = .ok (.invokestatic 72, 3) := by decide +kernel
theorem dX8_findsRow_5 : decode cX8_findsRow 5 = .ok (.ifCond .ne 5, 3) := by decide +kernel
theorem dX8_findsRow_8 : decode cX8_findsRow 8 = .ok (.iconst 0, 1) := by decide +kernel
theorem dX8_findsRow_9 : decode cX8_findsRow 9 = .ok (.ireturn, 1) := by decide +kernel
theorem dX8_findsRow_10 : decode cX8_findsRow 10 = .ok (.aload_n 0, 1) := by decide +kernel
theorem dX8_findsRow_11 : decode cX8_findsRow 11 = .ok (.getfield 176, 3) := by decide +kernel
theorem dX8_findsRow_14 : decode cX8_findsRow 14 = .ok (.iload_n 2, 1) := by decide +kernel
theorem dX8_findsRow_15 : decode cX8_findsRow 15 = .ok (.aaload, 1) := by decide +kernel
theorem dX8_findsRow_16 : decode cX8_findsRow 16 = .ok (.astore 4, 2) := by decide +kernel
theorem dX8_findsRow_18 : decode cX8_findsRow 18 = .ok (.iload_n 2, 1) := by decide +kernel
theorem dX8_findsRow_19 : decode cX8_findsRow 19 = .ok (.iload_n 3, 1) := by decide +kernel
theorem dX8_findsRow_20 : decode cX8_findsRow 20 = .ok (.iconst 1, 1) := by decide +kernel
theorem dX8_findsRow_21 : decode cX8_findsRow 21 = .ok (.isub, 1) := by decide +kernel
theorem dX8_findsRow_22 : decode cX8_findsRow 22 = .ok (.if_icmp .lt 37, 3) := by decide +kernel
theorem dX8_findsRow_25 : decode cX8_findsRow 25 = .ok (.aload 4, 2) := by decide +kernel
theorem dX8_findsRow_27 : decode cX8_findsRow 27 = .ok (.iload_n 1, 1) := by decide +kernel
theorem dX8_findsRow_28 : decode cX8_findsRow 28 = .ok (.invokevirtual 306, 3) := by decide +kernel
theorem dX8_findsRow_31 : decode cX8_findsRow 31 = .ok (.istore 5, 2) := by decide +kernel
theorem dX8_findsRow_33 : decode cX8_findsRow 33 = .ok (.aload_n 0, 1) := by decide +kernel
theorem dX8_findsRow_34 : decode cX8_findsRow 34 = .ok (.getfield 184, 3) := by decide +kernel
theorem dX8_findsRow_37 : decode cX8_findsRow 37 = .ok (.iload_n 2, 1) := by decide +kernel
theorem dX8_findsRow_38 : decode cX8_findsRow 38 = .ok (.iconst 0, 1) := by decide +kernel
theorem dX8_findsRow_39 : decode cX8_findsRow 39 = .ok (.iload_n 1, 1) := by decide +kernel
theorem dX8_findsRow_40 : decode cX8_findsRow 40 = .ok (.iload 5, 2) := by decide +kernel
theorem dX8_findsRow_42 : decode cX8_findsRow 42 = .ok (.invokestatic 140, 3) := by decide +kernel
theorem dX8_findsRow_45 : decode cX8_findsRow 45 = .ok (.iastore, 1) := by decide +kernel
theorem dX8_findsRow_46 : decode cX8_findsRow 46 = .ok (.iload 5, 2) := by decide +kernel
theorem dX8_findsRow_48 : decode cX8_findsRow 48 = .ok (.bipush (-9), 2) := by decide +kernel
theorem dX8_findsRow_50 : decode cX8_findsRow 50 = .ok (.if_icmp .eq 7, 3) := by decide +kernel
theorem dX8_findsRow_53 : decode cX8_findsRow 53 = .ok (.iconst 1, 1) := by decide +kernel
theorem dX8_findsRow_54 : decode cX8_findsRow 54 = .ok (.goto 4, 3) := by decide +kernel
theorem dX8_findsRow_57 : decode cX8_findsRow 57 = .ok (.iconst 0, 1) := by decide +kernel
theorem dX8_findsRow_58 : decode cX8_findsRow 58 = .ok (.ireturn, 1) := by decide +kernel
theorem dX8_findsRow_59 : decode cX8_findsRow 59 = .ok (.aload 4, 2) := by decide +kernel
theorem dX8_findsRow_61 : decode cX8_findsRow 61 = .ok (.getfield 309, 3) := by decide +kernel
theorem dX8_findsRow_64 : decode cX8_findsRow 64 = .ok (.astore 5, 2) := by decide +kernel
theorem dX8_findsRow_66 : decode cX8_findsRow 66 = .ok (.iconst 0, 1) := by decide +kernel
theorem dX8_findsRow_67 : decode cX8_findsRow 67 = .ok (.istore 6, 2) := by decide +kernel
theorem dX8_findsRow_69 : decode cX8_findsRow 69 = .ok (.iload 6, 2) := by decide +kernel
theorem dX8_findsRow_71 : decode cX8_findsRow 71 = .ok (.aload 5, 2) := by decide +kernel
theorem dX8_findsRow_73 : decode cX8_findsRow 73 = .ok (.getfield 216, 3) := by decide +kernel
theorem dX8_findsRow_76 : decode cX8_findsRow 76 = .ok (.if_icmp .ge 51, 3) := by decide +kernel
theorem dX8_findsRow_79 : decode cX8_findsRow 79 = .ok (.aload 5, 2) := by decide +kernel
theorem dX8_findsRow_81 : decode cX8_findsRow 81 = .ok (.getfield 219, 3) := by decide +kernel
theorem dX8_findsRow_84 : decode cX8_findsRow 84 = .ok (.iload 6, 2) := by decide +kernel
theorem dX8_findsRow_86 : decode cX8_findsRow 86 = .ok (.iaload, 1) := by decide +kernel
theorem dX8_findsRow_87 : decode cX8_findsRow 87 = .ok (.istore 7, 2) := by decide +kernel
theorem dX8_findsRow_89 : decode cX8_findsRow 89 = .ok (.aload_n 0, 1) := by decide +kernel
theorem dX8_findsRow_90 : decode cX8_findsRow 90 = .ok (.iload_n 2, 1) := by decide +kernel
theorem dX8_findsRow_91 : decode cX8_findsRow 91 = .ok (.iload 7, 2) := by decide +kernel
theorem dX8_findsRow_93 : decode cX8_findsRow 93 = .ok (.invokevirtual 312, 3) := by decide +kernel
theorem dX8_findsRow_96 : decode cX8_findsRow 96 = .ok (.ifCond .eq 25, 3) := by decide +kernel
theorem dX8_findsRow_99 : decode cX8_findsRow 99 = .ok (.aload_n 0, 1) := by decide +kernel
theorem dX8_findsRow_100 : decode cX8_findsRow 100 = .ok (.getfield 184, 3) := by decide +kernel
theorem dX8_findsRow_103 : decode cX8_findsRow 103 = .ok (.iload_n 2, 1) := by decide +kernel
theorem dX8_findsRow_104 : decode cX8_findsRow 104 = .ok (.iload 7, 2) := by decide +kernel
theorem dX8_findsRow_106 : decode cX8_findsRow 106 = .ok (.iastore, 1) := by decide +kernel
theorem dX8_findsRow_107 : decode cX8_findsRow 107 = .ok (.aload_n 0, 1) := by decide +kernel
theorem dX8_findsRow_108 : decode cX8_findsRow 108 = .ok (.iload_n 1, 1) := by decide +kernel
theorem dX8_findsRow_109 : decode cX8_findsRow 109 = .ok (.iload_n 2, 1) := by decide +kernel
theorem dX8_findsRow_110 : decode cX8_findsRow 110 = .ok (.iconst 1, 1) := by decide +kernel
theorem dX8_findsRow_111 : decode cX8_findsRow 111 = .ok (.iadd, 1) := by decide +kernel
theorem dX8_findsRow_112 : decode cX8_findsRow 112 = .ok (.iload_n 3, 1) := by decide +kernel
theorem dX8_findsRow_113 : decode cX8_findsRow 113 = .ok (.invokestatic 180, 3) := by decide +kernel
theorem dX8_findsRow_116 : decode cX8_findsRow 116 = .ok (.ifCond .eq 5, 3) := by decide +kernel
theorem dX8_findsRow_119 : decode cX8_findsRow 119 = .ok (.iconst 1, 1) := by decide +kernel
theorem dX8_findsRow_120 : decode cX8_findsRow 120 = .ok (.ireturn, 1) := by decide +kernel
theorem dX8_findsRow_121 : decode cX8_findsRow 121 = .ok (.iinc 6 1, 3) := by decide +kernel
theorem dX8_findsRow_124 : decode cX8_findsRow 124 = .ok (.goto (-55), 3) := by decide +kernel
theorem dX8_findsRow_127 : decode cX8_findsRow 127 = .ok (.iconst 0, 1) := by decide +kernel
theorem dX8_findsRow_128 : decode cX8_findsRow 128 = .ok (.ireturn, 1) := by decide +kernel
theorem dX8_mostHad_0 : decode cX8_mostHad 0 = .ok (.iload_n 1, 1) := by decide +kernel
theorem dX8_mostHad_1 : decode cX8_mostHad 1 = .ok (.iconst 3, 1) := by decide +kernel
theorem dX8_mostHad_2 : decode cX8_mostHad 2 = .ok (.invokestatic 72, 3) := by decide +kernel
theorem dX8_mostHad_5 : decode cX8_mostHad 5 = .ok (.ifCond .ne 5, 3) := by decide +kernel
theorem dX8_mostHad_8 : decode cX8_mostHad 8 = .ok (.iconst 0, 1) := by decide +kernel
theorem dX8_mostHad_9 : decode cX8_mostHad 9 = .ok (.ireturn, 1) := by decide +kernel
theorem dX8_mostHad_10 : decode cX8_mostHad 10 = .ok (.aload_n 0, 1) := by decide +kernel
theorem dX8_mostHad_11 : decode cX8_mostHad 11 = .ok (.getfield 176, 3) := by decide +kernel
theorem dX8_mostHad_14 : decode cX8_mostHad 14 = .ok (.iload_n 1, 1) := by decide +kernel
theorem dX8_mostHad_15 : decode cX8_mostHad 15 = .ok (.aaload, 1) := by decide +kernel
theorem dX8_mostHad_16 : decode cX8_mostHad 16 = .ok (.astore_n 3, 1) := by decide +kernel
theorem dX8_mostHad_17 : decode cX8_mostHad 17 = .ok (.aload_n 3, 1) := by decide +kernel
theorem dX8_mostHad_18 : decode cX8_mostHad 18 = .ok (.invokevirtual 303, 3) := by decide +kernel
theorem dX8_mostHad_21 : decode cX8_mostHad 21 = .ok (.istore 4, 2) := by decide +kernel
theorem dX8_mostHad_23 : decode cX8_mostHad 23 = .ok (.iload_n 2, 1) := by decide +kernel
theorem dX8_mostHad_24 : decode cX8_mostHad 24 = .ok (.ifCond .gt 6, 3) := by decide +kernel
theorem dX8_mostHad_27 : decode cX8_mostHad 27 = .ok (.iload 4, 2) := by decide +kernel
theorem dX8_mostHad_29 : decode cX8_mostHad 29 = .ok (.ireturn, 1) := by decide +kernel
theorem dX8_mostHad_30 : decode cX8_mostHad 30 = .ok (.iload_n 2, 1) := by decide +kernel
theorem dX8_mostHad_31 : decode cX8_mostHad 31 = .ok (.iconst 1, 1) := by decide +kernel
theorem dX8_mostHad_32 : decode cX8_mostHad 32 = .ok (.if_icmp .ne 20, 3) := by decide +kernel
theorem dX8_mostHad_35 : decode cX8_mostHad 35 = .ok (.aload_n 3, 1) := by decide +kernel
theorem dX8_mostHad_36 : decode cX8_mostHad 36 = .ok (.invokevirtual 315, 3) := by decide +kernel
theorem dX8_mostHad_39 : decode cX8_mostHad 39 = .ok (.ifCond .eq 10, 3) := by decide +kernel
theorem dX8_mostHad_42 : decode cX8_mostHad 42 = .ok (.iload 4, 2) := by decide +kernel
theorem dX8_mostHad_44 : decode cX8_mostHad 44 = .ok (.iconst 1, 1) := by decide +kernel
theorem dX8_mostHad_45 : decode cX8_mostHad 45 = .ok (.iadd, 1) := by decide +kernel
theorem dX8_mostHad_46 : decode cX8_mostHad 46 = .ok (.goto 5, 3) := by decide +kernel
theorem dX8_mostHad_49 : decode cX8_mostHad 49 = .ok (.iload 4, 2) := by decide +kernel
theorem dX8_mostHad_51 : decode cX8_mostHad 51 = .ok (.ireturn, 1) := by decide +kernel
theorem dX8_mostHad_52 : decode cX8_mostHad 52 = .ok (.iload 4, 2) := by decide +kernel
theorem dX8_mostHad_54 : decode cX8_mostHad 54 = .ok (.istore 5, 2) := by decide +kernel
theorem dX8_mostHad_56 : decode cX8_mostHad 56 = .ok (.aload_n 3, 1) := by decide +kernel
theorem dX8_mostHad_57 : decode cX8_mostHad 57 = .ok (.getfield 309, 3) := by decide +kernel
theorem dX8_mostHad_60 : decode cX8_mostHad 60 = .ok (.astore 6, 2) := by decide +kernel
theorem dX8_mostHad_62 : decode cX8_mostHad 62 = .ok (.iconst 0, 1) := by decide +kernel
theorem dX8_mostHad_63 : decode cX8_mostHad 63 = .ok (.istore 7, 2) := by decide +kernel
theorem dX8_mostHad_65 : decode cX8_mostHad 65 = .ok (.iload 7, 2) := by decide +kernel
theorem dX8_mostHad_67 : decode cX8_mostHad 67 = .ok (.aload 6, 2) := by decide +kernel
theorem dX8_mostHad_69 : decode cX8_mostHad 69 = .ok (.getfield 216, 3) := by decide +kernel
theorem dX8_mostHad_72 : decode cX8_mostHad 72 = .ok (.if_icmp .ge 51, 3) := by decide +kernel
theorem dX8_mostHad_75 : decode cX8_mostHad 75 = .ok (.iload 5, 2) := by decide +kernel
theorem dX8_mostHad_77 : decode cX8_mostHad 77 = .ok (.iload 4, 2) := by decide +kernel
theorem dX8_mostHad_79 : decode cX8_mostHad 79 = .ok (.iload_n 2, 1) := by decide +kernel
theorem dX8_mostHad_80 : decode cX8_mostHad 80 = .ok (.iadd, 1) := by decide +kernel
theorem dX8_mostHad_81 : decode cX8_mostHad 81 = .ok (.if_icmp .ge 42, 3) := by decide +kernel
theorem dX8_mostHad_84 : decode cX8_mostHad 84 = .ok (.aload_n 0, 1) := by decide +kernel
theorem dX8_mostHad_85 : decode cX8_mostHad 85 = .ok (.iload_n 1, 1) := by decide +kernel
theorem dX8_mostHad_86 : decode cX8_mostHad 86 = .ok (.aload 6, 2) := by decide +kernel
theorem dX8_mostHad_88 : decode cX8_mostHad 88 = .ok (.getfield 219, 3) := by decide +kernel
theorem dX8_mostHad_91 : decode cX8_mostHad 91 = .ok (.iload 7, 2) := by decide +kernel
theorem dX8_mostHad_93 : decode cX8_mostHad 93 = .ok (.iaload, 1) := by decide +kernel
theorem dX8_mostHad_94 : decode cX8_mostHad 94 = .ok (.invokevirtual 312, 3) := by decide +kernel
theorem dX8_mostHad_97 : decode cX8_mostHad 97 = .ok (.ifCond .eq 20, 3) := by decide +kernel
theorem dX8_mostHad_100 : decode cX8_mostHad 100 = .ok (.iload 5, 2) := by decide +kernel
theorem dX8_mostHad_102 : decode cX8_mostHad 102 = .ok (.aload_n 0, 1) := by decide +kernel
theorem dX8_mostHad_103 : decode cX8_mostHad 103 = .ok (.iload_n 1, 1) := by decide +kernel
theorem dX8_mostHad_104 : decode cX8_mostHad 104 = .ok (.iconst 1, 1) := by decide +kernel
theorem dX8_mostHad_105 : decode cX8_mostHad 105 = .ok (.iadd, 1) := by decide +kernel
theorem dX8_mostHad_106 : decode cX8_mostHad 106 = .ok (.iload_n 2, 1) := by decide +kernel
theorem dX8_mostHad_107 : decode cX8_mostHad 107 = .ok (.iconst 1, 1) := by decide +kernel
theorem dX8_mostHad_108 : decode cX8_mostHad 108 = .ok (.isub, 1) := by decide +kernel
theorem dX8_mostHad_109 : decode cX8_mostHad 109 = .ok (.invokestatic 187, 3) := by decide +kernel
theorem dX8_mostHad_112 : decode cX8_mostHad 112 = .ok (.invokestatic 318, 3) := by decide +kernel
theorem dX8_mostHad_115 : decode cX8_mostHad 115 = .ok (.istore 5, 2) := by decide +kernel
theorem dX8_mostHad_117 : decode cX8_mostHad 117 = .ok (.iinc 7 1, 3) := by decide +kernel
theorem dX8_mostHad_120 : decode cX8_mostHad 120 = .ok (.goto (-55), 3) := by decide +kernel
theorem dX8_mostHad_123 : decode cX8_mostHad 123 = .ok (.iload 5, 2) := by decide +kernel
theorem dX8_mostHad_125 : decode cX8_mostHad 125 = .ok (.ireturn, 1) := by decide +kernel
theorem dX9_init_0 : decode cX9_init 0 = .ok (.aload_n 0, 1) := by decide +kernel
theorem dX9_init_1 : decode cX9_init 1 = .ok (.invokespecial 1, 3) := by decide +kernel
theorem dX9_init_4 : decode cX9_init 4 = .ok (.aload_n 0, 1) := by decide +kernel
theorem dX9_init_5 : decode cX9_init 5 = .ok (.bipush 30, 2) := by decide +kernel
theorem dX9_init_7 : decode cX9_init 7 = .ok (.newarray .int, 2) := by decide +kernel
theorem dX9_init_9 : decode cX9_init 9 = .ok (.putfield 7, 3) := by decide +kernel
theorem dX9_init_12 : decode cX9_init 12 = .ok (.aload_n 0, 1) := by decide +kernel
theorem dX9_init_13 : decode cX9_init 13 = .ok (.iconst 5, 1) := by decide +kernel
theorem dX9_init_14 : decode cX9_init 14 = .ok (.newarray .int, 2) := by decide +kernel
theorem dX9_init_16 : decode cX9_init 16 = .ok (.putfield 13, 3) := by decide +kernel
theorem dX9_init_19 : decode cX9_init 19 = .ok (.aload_n 0, 1) := by decide +kernel
theorem dX9_init_20 : decode cX9_init 20 = .ok (.iconst 2, 1) := by decide +kernel
theorem dX9_init_21 : decode cX9_init 21 = .ok (.newarray .int, 2) := by decide +kernel
theorem dX9_init_23 : decode cX9_init 23 = .ok (.putfield 16, 3) := by decide +kernel
theorem dX9_init_26 : decode cX9_init 26 = .ok (.aload_n 0, 1) := by decide +kernel
theorem dX9_init_27 : decode cX9_init 27 = .ok (.iconst 2, 1) := by decide +kernel
theorem dX9_init_28 : decode cX9_init 28 = .ok (.newarray .int, 2) := by decide +kernel
theorem dX9_init_30 : decode cX9_init 30 = .ok (.putfield 19, 3) := by decide +kernel
theorem dX9_init_33 : decode cX9_init 33 = .ok (.aload_n 0, 1) := by decide +kernel
theorem dX9_init_34 : decode cX9_init 34 = .ok (.bipush 30, 2) := by decide +kernel
theorem dX9_init_36 : decode cX9_init 36 = .ok (.newarray .int, 2) := by decide +kernel
theorem dX9_init_38 : decode cX9_init 38 = .ok (.putfield 22, 3) := by decide +kernel
theorem dX9_init_41 : decode cX9_init 41 = .ok (.aload_n 0, 1) := by decide +kernel
theorem dX9_init_42 : decode cX9_init 42 = .ok (.bipush 8, 2) := by decide +kernel
theorem dX9_init_44 : decode cX9_init 44 = .ok (.newarray .int, 2) := by decide +kernel
theorem dX9_init_46 : decode cX9_init 46 = .ok (.putfield 25, 3) := by decide +kernel
theorem dX9_init_49 : decode cX9_init 49 = .ok (.aload_n 0, 1) := by decide +kernel
theorem dX9_init_50 : decode cX9_init 50 = .ok (.bipush 8, 2) := by decide +kernel
theorem dX9_init_52 : decode cX9_init 52 = .ok (.newarray .int, 2) := by decide +kernel
theorem dX9_init_54 : decode cX9_init 54 = .ok (.putfield 28, 3) := by decide +kernel
theorem dX9_init_57 : decode cX9_init 57 = .ok (.aload_n 0, 1) := by decide +kernel
theorem dX9_init_58 : decode cX9_init 58 = .ok (.iconst 4, 1) := by decide +kernel
theorem dX9_init_59 : decode cX9_init 59 = .ok (.newarray .int, 2) := by decide +kernel
theorem dX9_init_61 : decode cX9_init 61 = .ok (.putfield 31, 3) := by decide +kernel
theorem dX9_init_64 : decode cX9_init 64 = .ok (.aload_n 0, 1) := by decide +kernel
theorem dX9_init_65 : decode cX9_init 65 = .ok (.iconst 4, 1) := by decide +kernel
theorem dX9_init_66 : decode cX9_init 66 = .ok (.newarray .int, 2) := by decide +kernel
theorem dX9_init_68 : decode cX9_init 68 = .ok (.putfield 34, 3) := by decide +kernel
theorem dX9_init_71 : decode cX9_init 71 = .ok (.aload_n 0, 1) := by decide +kernel
theorem dX9_init_72 : decode cX9_init 72 = .ok (.sipush 240, 3) := by decide +kernel
theorem dX9_init_75 : decode cX9_init 75 = .ok (.newarray .int, 2) := by decide +kernel
theorem dX9_init_77 : decode cX9_init 77 = .ok (.putfield 37, 3) := by decide +kernel
theorem dX9_init_80 : decode cX9_init 80 = .ok (.aload_n 0, 1) := by decide +kernel
theorem dX9_init_81 : decode cX9_init 81 = .ok (.bipush 60, 2) := by decide +kernel
theorem dX9_init_83 : decode cX9_init 83 = .ok (.newarray .int, 2) := by decide +kernel
theorem dX9_init_85 : decode cX9_init 85 = .ok (.putfield 40, 3) := by decide +kernel
theorem dX9_init_88 : decode cX9_init 88 = .ok (.aload_n 0, 1) := by decide +kernel
theorem dX9_init_89 : decode cX9_init 89 = .ok (.bipush 30, 2) := by decide +kernel
theorem dX9_init_91 : decode cX9_init 91 = .ok (.newarray .int, 2) := by decide +kernel
theorem dX9_init_93 : decode cX9_init 93 = .ok (.putfield 43, 3) := by decide +kernel
theorem dX9_init_96 : decode cX9_init 96 = .ok (.aload_n 0, 1) := by decide +kernel
theorem dX9_init_97 : decode cX9_init 97 = .ok (.iconst 5, 1) := by decide +kernel
theorem dX9_init_98 : decode cX9_init 98 = .ok (.newarray .int, 2) := by decide +kernel
theorem dX9_init_100 : decode cX9_init 100 = .ok (.putfield 46, 3) := by decide +kernel
theorem dX9_init_103 : decode cX9_init 103 = .ok (.aload_n 0, 1) := by decide +kernel
theorem dX9_init_104 : decode cX9_init 104 = .ok (.iconst 2, 1) := by decide +kernel
theorem dX9_init_105 : decode cX9_init 105 = .ok (.newarray .int, 2) := by decide +kernel
theorem dX9_init_107 : decode cX9_init 107 = .ok (.putfield 49, 3) := by decide +kernel
theorem dX9_init_110 : decode cX9_init 110 = .ok (.aload_n 0, 1) := by decide +kernel
theorem dX9_init_111 : decode cX9_init 111 = .ok (.iconst 2, 1) := by decide +kernel
theorem dX9_init_112 : decode cX9_init 112 = .ok (.newarray .int, 2) := by decide +kernel
theorem dX9_init_114 : decode cX9_init 114 = .ok (.putfield 52, 3) := by decide +kernel
theorem dX9_init_117 : decode cX9_init 117 = .ok (.aload_n 0, 1) := by decide +kernel
theorem dX9_init_118 : decode cX9_init 118 = .ok (.iconst 5, 1) := by decide +kernel
theorem dX9_init_119 : decode cX9_init 119 = .ok (.newarray .int, 2) := by decide +kernel
theorem dX9_init_121 : decode cX9_init 121 = .ok (.putfield 55, 3) := by decide +kernel
theorem dX9_init_124 : decode cX9_init 124 = .ok (.aload_n 0, 1) := by decide +kernel
theorem dX9_init_125 : decode cX9_init 125 = .ok (.bipush 15, 2) := by decide +kernel
theorem dX9_init_127 : decode cX9_init 127 = .ok (.newarray .int, 2) := by decide +kernel
theorem dX9_init_129 : decode cX9_init 129 = .ok (.putfield 58, 3) := by decide +kernel
theorem dX9_init_132 : decode cX9_init 132 = .ok (.aload_n 0, 1) := by decide +kernel
theorem dX9_init_133 : decode cX9_init 133 = .ok (.iconst 3, 1) := by decide +kernel
theorem dX9_init_134 : decode cX9_init 134 = .ok (.newarray .int, 2) := by decide +kernel
theorem dX9_init_136 : decode cX9_init 136 = .ok (.putfield 61, 3) := by decide +kernel
theorem dX9_init_139 : decode cX9_init 139 = .ok (.iconst 0, 1) := by decide +kernel
theorem dX9_init_140 : decode cX9_init 140 = .ok (.istore_n 1, 1) := by decide +kernel
theorem dX9_init_141 : decode cX9_init 141 = .ok (.iload_n 1, 1) := by decide +kernel
theorem dX9_init_142 : decode cX9_init 142 = .ok (.iconst 4, 1) := by decide +kernel
theorem dX9_init_143 : decode cX9_init 143 = .ok (.if_icmp .ge 16, 3) := by decide +kernel
theorem dX9_init_146 : decode cX9_init 146 = .ok (.aload_n 0, 1) := by decide +kernel
theorem dX9_init_147 : decode cX9_init 147 = .ok (.getfield 31, 3) := by decide +kernel
theorem dX9_init_150 : decode cX9_init 150 = .ok (.iload_n 1, 1) := by decide +kernel
theorem dX9_init_151 : decode cX9_init 151 = .ok (.iconst (-1), 1) := by decide +kernel
theorem dX9_init_152 : decode cX9_init 152 = .ok (.iastore, 1) := by decide +kernel
theorem dX9_init_153 : decode cX9_init 153 = .ok (.iinc 1 1, 3) := by decide +kernel
theorem dX9_init_156 : decode cX9_init 156 = .ok (.goto (-15), 3) := by decide +kernel
theorem dX9_init_159 : decode cX9_init 159 = .ok (.return_, 1) := by decide +kernel
theorem dX9_in_0 : decode cX9_in 0 = .ok (.lload_n 0, 1) := by decide +kernel
theorem dX9_in_1 : decode cX9_in 1 = .ok (.lload_n 2, 1) := by decide +kernel
theorem dX9_in_2 : decode cX9_in 2 = .ok (.lcmp, 1) := by decide +kernel
theorem dX9_in_3 : decode cX9_in 3 = .ok (.ifCond .lt 14, 3) := by decide +kernel
theorem dX9_in_6 : decode cX9_in 6 = .ok (.lload_n 0, 1) := by decide +kernel
theorem dX9_in_7 : decode cX9_in 7 = .ok (.lload 4, 2) := by decide +kernel
theorem dX9_in_9 : decode cX9_in 9 = .ok (.lcmp, 1) := by decide +kernel
theorem dX9_in_10 : decode cX9_in 10 = .ok (.ifCond .gt 7, 3) := by decide +kernel
theorem dX9_in_13 : decode cX9_in 13 = .ok (.iconst 1, 1) := by decide +kernel
theorem dX9_in_14 : decode cX9_in 14 = .ok (.goto 4, 3) := by decide +kernel
theorem dX9_in_17 : decode cX9_in 17 = .ok (.iconst 0, 1) := by decide +kernel
theorem dX9_in_18 : decode cX9_in 18 = .ok (.ireturn, 1) := by decide +kernel
theorem dX9_fails_0 : decode cX9_fails 0 = .ok (.aload_n 0, 1) := by decide +kernel
theorem dX9_fails_1 : decode cX9_fails 1 = .ok (.iload_n 1, 1) := by decide +kernel
theorem dX9_fails_2 : decode cX9_fails 2 = .ok (.putfield 64, 3) := by decide +kernel
theorem dX9_fails_5 : decode cX9_fails 5 = .ok (.bipush (-10), 2) := by decide +kernel
theorem dX9_fails_7 : decode cX9_fails 7 = .ok (.iload_n 1, 1) := by decide +kernel
theorem dX9_fails_8 : decode cX9_fails 8 = .ok (.isub, 1) := by decide +kernel
theorem dX9_fails_9 : decode cX9_fails 9 = .ok (.ireturn, 1) := by decide +kernel
theorem dX9_refused_0 : decode cX9_refused 0 = .ok (.aload_n 0, 1) := by decide +kernel
theorem dX9_refused_1 : decode cX9_refused 1 = .ok (.iconst 0, 1) := by decide +kernel
theorem dX9_refused_2 : decode cX9_refused 2 = .ok (.putfield 64, 3) := by decide +kernel
theorem dX9_refused_5 : decode cX9_refused 5 = .ok (.iload_n 1, 1) := by decide +kernel
theorem dX9_refused_6 : decode cX9_refused 6 = .ok (.ireturn, 1) := by decide +kernel
theorem dX9_isSquare_0 : decode cX9_isSquare 0 = .ok (.iload_n 1, 1) := by decide +kernel
theorem dX9_isSquare_1 : decode cX9_isSquare 1 = .ok (.i2l, 1) := by decide +kernel
theorem dX9_isSquare_2 : decode cX9_isSquare 2 = .ok (.lconst 0, 1) := by decide +kernel
theorem dX9_isSquare_3 : decode cX9_isSquare 3 = .ok (.aload_n 0, 1) := by decide +kernel
theorem dX9_isSquare_4 : decode cX9_isSquare 4 = .ok (.getfield 68, 3) := by decide +kernel
theorem dX9_isSquare_7 : decode cX9_isSquare 7 = .ok (.iconst 1, 1) := by decide +kernel
theorem dX9_isSquare_8 : decode cX9_isSquare 8 = .ok (.isub, 1) := by decide +kernel
theorem dX9_isSquare_9 : decode cX9_isSquare 9 = .ok (.i2l, 1) := by decide +kernel
theorem dX9_isSquare_10 : decode cX9_isSquare 10 = .ok (.invokestatic 71, 3) := by decide +kernel
theorem dX9_isSquare_13 : decode cX9_isSquare 13 = .ok (.ireturn, 1) := by decide +kernel
theorem dX9_isPea_0 : decode cX9_isPea 0 = .ok (.iload_n 1, 1) := by decide +kernel
theorem dX9_isPea_1 : decode cX9_isPea 1 = .ok (.i2l, 1) := by decide +kernel
theorem dX9_isPea_2 : decode cX9_isPea 2 = .ok (.lconst 0, 1) := by decide +kernel
theorem dX9_isPea_3 : decode cX9_isPea 3 = .ok (.aload_n 0, 1) := by decide +kernel
theorem dX9_isPea_4 : decode cX9_isPea 4 = .ok (.getfield 75, 3) := by decide +kernel
theorem dX9_isPea_7 : decode cX9_isPea 7 = .ok (.iconst 1, 1) := by decide +kernel
theorem dX9_isPea_8 : decode cX9_isPea 8 = .ok (.isub, 1) := by decide +kernel
theorem dX9_isPea_9 : decode cX9_isPea 9 = .ok (.i2l, 1) := by decide +kernel
theorem dX9_isPea_10 : decode cX9_isPea 10 = .ok (.invokestatic 71, 3) := by decide +kernel
theorem dX9_isPea_13 : decode cX9_isPea 13 = .ok (.ireturn, 1) := by decide +kernel
theorem dX9_isEater_0 : decode cX9_isEater 0 = .ok (.iload_n 1, 1) := by decide +kernel
theorem dX9_isEater_1 : decode cX9_isEater 1 = .ok (.i2l, 1) := by decide +kernel
theorem dX9_isEater_2 : decode cX9_isEater 2 = .ok (.lconst 0, 1) := by decide +kernel
theorem dX9_isEater_3 : decode cX9_isEater 3 = .ok (.aload_n 0, 1) := by decide +kernel
theorem dX9_isEater_4 : decode cX9_isEater 4 = .ok (.getfield 78, 3) := by decide +kernel
theorem dX9_isEater_7 : decode cX9_isEater 7 = .ok (.iconst 1, 1) := by decide +kernel
theorem dX9_isEater_8 : decode cX9_isEater 8 = .ok (.isub, 1) := by decide +kernel
theorem dX9_isEater_9 : decode cX9_isEater 9 = .ok (.i2l, 1) := by decide +kernel
theorem dX9_isEater_10 : decode cX9_isEater 10 = .ok (.invokestatic 71, 3) := by decide +kernel
theorem dX9_isEater_13 : decode cX9_isEater 13 = .ok (.ireturn, 1) := by decide +kernel
theorem dX9_isSheet_0 : decode cX9_isSheet 0 = .ok (.iload_n 0, 1) := by decide +kernel
theorem dX9_isSheet_1 : decode cX9_isSheet 1 = .ok (.i2l, 1) := by decide +kernel
theorem dX9_isSheet_2 : decode cX9_isSheet 2 = .ok (.lconst 0, 1) := by decide +kernel
theorem dX9_isSheet_3 : decode cX9_isSheet 3 = .ok (.ldc2_w 81, 3) := by decide +kernel
theorem dX9_isSheet_6 : decode cX9_isSheet 6 = .ok (.invokestatic 71, 3) := by decide +kernel
theorem dX9_isSheet_9 : decode cX9_isSheet 9 = .ok (.ireturn, 1) := by decide +kernel
theorem dX9_isLane_0 : decode cX9_isLane 0 = .ok (.iload_n 0, 1) := by decide +kernel
theorem dX9_isLane_1 : decode cX9_isLane 1 = .ok (.i2l, 1) := by decide +kernel
theorem dX9_isLane_2 : decode cX9_isLane 2 = .ok (.lconst 0, 1) := by decide +kernel
theorem dX9_isLane_3 : decode cX9_isLane 3 = .ok (.ldc2_w 83, 3) := by decide +kernel
theorem dX9_isLane_6 : decode cX9_isLane 6 = .ok (.invokestatic 71, 3) := by decide +kernel
theorem dX9_isLane_9 : decode cX9_isLane 9 = .ok (.ireturn, 1) := by decide +kernel
theorem dX9_cut_0 : decode cX9_cut 0 = .ok (.iload_n 0, 1) := by decide +kernel
theorem dX9_cut_1 : decode cX9_cut 1 = .ok (.ifCond .ne 8, 3) := by decide +kernel
theorem dX9_cut_4 : decode cX9_cut 4 = .ok (.iload_n 1, 1) := by decide +kernel
theorem dX9_cut_5 : decode cX9_cut 5 = .ok (.i2b, 1) := by decide +kernel
theorem dX9_cut_6 : decode cX9_cut 6 = .ok (.goto 14, 3) := by decide +kernel
theorem dX9_cut_9 : decode cX9_cut 9 = .ok (.iload_n 0, 1) := by decide +kernel
theorem dX9_cut_10 : decode cX9_cut 10 = .ok (.iconst 1, 1) := by decide +kernel
theorem dX9_cut_11 : decode cX9_cut 11 = .ok (.if_icmp .ne 8, 3) := by decide +kernel
theorem dX9_cut_14 : decode cX9_cut 14 = .ok (.iload_n 1, 1) := by decide +kernel
theorem dX9_cut_15 : decode cX9_cut 15 = .ok (.i2s, 1) := by decide +kernel
theorem dX9_cut_16 : decode cX9_cut 16 = .ok (.goto 4, 3) := by decide +kernel
theorem dX9_cut_19 : decode cX9_cut 19 = .ok (.iload_n 1, 1) := by decide +kernel
theorem dX9_cut_20 : decode cX9_cut 20 = .ok (.ireturn, 1) := by decide +kernel
theorem dX9_sheet_0 : decode cX9_sheet 0 = .ok (.iload_n 1, 1) := by decide +kernel
theorem dX9_sheet_1 : decode cX9_sheet 1 = .ok (.invokestatic 85, 3) := by decide +kernel
theorem dX9_sheet_4 : decode cX9_sheet 4 = .ok (.ifCond .ne 9, 3) := by decide +kernel
theorem dX9_sheet_7 : decode cX9_sheet 7 = .ok (.aload_n 0, 1) := by decide +kernel
theorem dX9_sheet_8 : decode cX9_sheet 8 = .ok (.iconst (-1), 1) := by decide +kernel
theorem dX9_sheet_9 : decode cX9_sheet 9 = .ok (.invokevirtual 89, 3) := by decide +kernel
theorem dX9_sheet_12 : decode cX9_sheet 12 = .ok (.ireturn, 1) := by decide +kernel
theorem dX9_sheet_13 : decode cX9_sheet 13 = .ok (.iload_n 2, 1) := by decide +kernel
theorem dX9_sheet_14 : decode cX9_sheet 14 = .ok (.invokestatic 93, 3) := by decide +kernel
theorem dX9_sheet_17 : decode cX9_sheet 17 = .ok (.ifCond .eq 9, 3) := by decide +kernel
theorem dX9_sheet_20 : decode cX9_sheet 20 = .ok (.iload_n 3, 1) := by decide +kernel
theorem dX9_sheet_21 : decode cX9_sheet 21 = .ok (.bipush 60, 2) := by decide +kernel
theorem dX9_sheet_23 : decode cX9_sheet 23 = .ok (.if_icmp .le 10, 3) := by decide +kernel
theorem dX9_sheet_26 : decode cX9_sheet 26 = .ok (.aload_n 0, 1) := by decide +kernel
theorem dX9_sheet_27 : decode cX9_sheet 27 = .ok (.bipush (-2), 2) := by decide +kernel
theorem dX9_sheet_29 : decode cX9_sheet 29 = .ok (.invokevirtual 89, 3) := by decide +kernel
theorem dX9_sheet_32 : decode cX9_sheet 32 = .ok (.ireturn, 1) := by decide +kernel
theorem dX9_sheet_33 : decode cX9_sheet 33 = .ok (.iload_n 3, 1) := by decide +kernel
theorem dX9_sheet_34 : decode cX9_sheet 34 = .ok (.ifCond .ge 9, 3) := by decide +kernel
theorem dX9_sheet_37 : decode cX9_sheet 37 = .ok (.aload_n 0, 1) := by decide +kernel
theorem dX9_sheet_38 : decode cX9_sheet 38 = .ok (.iconst 4, 1) := by decide +kernel
theorem dX9_sheet_39 : decode cX9_sheet 39 = .ok (.invokevirtual 96, 3) := by decide +kernel
theorem dX9_sheet_42 : decode cX9_sheet 42 = .ok (.ireturn, 1) := by decide +kernel
theorem dX9_sheet_43 : decode cX9_sheet 43 = .ok (.aload_n 0, 1) := by decide +kernel
theorem dX9_sheet_44 : decode cX9_sheet 44 = .ok (.iconst 0, 1) := by decide +kernel
theorem dX9_sheet_45 : decode cX9_sheet 45 = .ok (.putfield 64, 3) := by decide +kernel
theorem dX9_sheet_48 : decode cX9_sheet 48 = .ok (.aload_n 0, 1) := by decide +kernel
theorem dX9_sheet_49 : decode cX9_sheet 49 = .ok (.getfield 31, 3) := by decide +kernel
theorem dX9_sheet_52 : decode cX9_sheet 52 = .ok (.iload_n 1, 1) := by decide +kernel
theorem dX9_sheet_53 : decode cX9_sheet 53 = .ok (.iload_n 2, 1) := by decide +kernel
theorem dX9_sheet_54 : decode cX9_sheet 54 = .ok (.iastore, 1) := by decide +kernel
theorem dX9_sheet_55 : decode cX9_sheet 55 = .ok (.aload_n 0, 1) := by decide +kernel
theorem dX9_sheet_56 : decode cX9_sheet 56 = .ok (.getfield 34, 3) := by decide +kernel
theorem dX9_sheet_59 : decode cX9_sheet 59 = .ok (.iload_n 1, 1) := by decide +kernel
theorem dX9_sheet_60 : decode cX9_sheet 60 = .ok (.iload_n 3, 1) := by decide +kernel
theorem dX9_sheet_61 : decode cX9_sheet 61 = .ok (.iastore, 1) := by decide +kernel
theorem dX9_sheet_62 : decode cX9_sheet 62 = .ok (.iconst 0, 1) := by decide +kernel
theorem dX9_sheet_63 : decode cX9_sheet 63 = .ok (.istore 4, 2) := by decide +kernel
theorem dX9_sheet_65 : decode cX9_sheet 65 = .ok (.iload 4, 2) := by decide +kernel
theorem dX9_sheet_67 : decode cX9_sheet 67 = .ok (.bipush 60, 2) := by decide +kernel
theorem dX9_sheet_69 : decode cX9_sheet 69 = .ok (.if_icmp .ge 22, 3) := by decide +kernel
theorem dX9_sheet_72 : decode cX9_sheet 72 = .ok (.aload_n 0, 1) := by decide +kernel
theorem dX9_sheet_73 : decode cX9_sheet 73 = .ok (.getfield 37, 3) := by decide +kernel
theorem dX9_sheet_76 : decode cX9_sheet 76 = .ok (.bipush 60, 2) := by decide +kernel
theorem dX9_sheet_78 : decode cX9_sheet 78 = .ok (.iload_n 1, 1) := by decide +kernel
theorem dX9_sheet_79 : decode cX9_sheet 79 = .ok (.imul, 1) := by decide +kernel
theorem dX9_sheet_80 : decode cX9_sheet 80 = .ok (.iload 4, 2) := by decide +kernel
theorem dX9_sheet_82 : decode cX9_sheet 82 = .ok (.iadd, 1) := by decide +kernel
theorem dX9_sheet_83 : decode cX9_sheet 83 = .ok (.iconst 0, 1) := by decide +kernel
theorem dX9_sheet_84 : decode cX9_sheet 84 = .ok (.iastore, 1) := by decide +kernel
theorem dX9_sheet_85 : decode cX9_sheet 85 = .ok (.iinc 4 1, 3) := by decide +kernel
theorem dX9_sheet_88 : decode cX9_sheet 88 = .ok (.goto (-23), 3) := by decide +kernel
theorem dX9_sheet_91 : decode cX9_sheet 91 = .ok (.iconst 1, 1) := by decide +kernel
theorem dX9_sheet_92 : decode cX9_sheet 92 = .ok (.ireturn, 1) := by decide +kernel
theorem dX9_lose_0 : decode cX9_lose 0 = .ok (.iload_n 1, 1) := by decide +kernel
theorem dX9_lose_1 : decode cX9_lose 1 = .ok (.invokestatic 85, 3) := by decide +kernel
theorem dX9_lose_4 : decode cX9_lose 4 = .ok (.ifCond .ne 5, 3) := by decide +kernel
theorem dX9_lose_7 : decode cX9_lose 7 = .ok (.iconst (-1), 1) := by decide +kernel
theorem dX9_lose_8 : decode cX9_lose 8 = .ok (.ireturn, 1) := by decide +kernel
theorem dX9_lose_9 : decode cX9_lose 9 = .ok (.aload_n 0, 1) := by decide +kernel
theorem dX9_lose_10 : decode cX9_lose 10 = .ok (.getfield 31, 3) := by decide +kernel
theorem dX9_lose_13 : decode cX9_lose 13 = .ok (.iload_n 1, 1) := by decide +kernel
theorem dX9_lose_14 : decode cX9_lose 14 = .ok (.iaload, 1) := by decide +kernel
theorem dX9_lose_15 : decode cX9_lose 15 = .ok (.ifCond .ge 7, 3) := by decide +kernel
theorem dX9_lose_18 : decode cX9_lose 18 = .ok (.iconst 0, 1) := by decide +kernel
theorem dX9_lose_19 : decode cX9_lose 19 = .ok (.goto 4, 3) := by decide +kernel
theorem dX9_lose_22 : decode cX9_lose 22 = .ok (.iconst 1, 1) := by decide +kernel
theorem dX9_lose_23 : decode cX9_lose 23 = .ok (.istore_n 2, 1) := by decide +kernel
theorem dX9_lose_24 : decode cX9_lose 24 = .ok (.aload_n 0, 1) := by decide +kernel
theorem dX9_lose_25 : decode cX9_lose 25 = .ok (.getfield 31, 3) := by decide +kernel
theorem dX9_lose_28 : decode cX9_lose 28 = .ok (.iload_n 1, 1) := by decide +kernel
theorem dX9_lose_29 : decode cX9_lose 29 = .ok (.iconst (-1), 1) := by decide +kernel
theorem dX9_lose_30 : decode cX9_lose 30 = .ok (.iastore, 1) := by decide +kernel
theorem dX9_lose_31 : decode cX9_lose 31 = .ok (.iload_n 2, 1) := by decide +kernel
theorem dX9_lose_32 : decode cX9_lose 32 = .ok (.ireturn, 1) := by decide +kernel
theorem dX9_put_0 : decode cX9_put 0 = .ok (.iload_n 1, 1) := by decide +kernel
theorem dX9_put_1 : decode cX9_put 1 = .ok (.invokestatic 85, 3) := by decide +kernel
theorem dX9_put_4 : decode cX9_put 4 = .ok (.ifCond .ne 9, 3) := by decide +kernel
theorem dX9_put_7 : decode cX9_put 7 = .ok (.aload_n 0, 1) := by decide +kernel
theorem dX9_put_8 : decode cX9_put 8 = .ok (.iconst (-1), 1) := by decide +kernel
theorem dX9_put_9 : decode cX9_put 9 = .ok (.invokevirtual 89, 3) := by decide +kernel
theorem dX9_put_12 : decode cX9_put 12 = .ok (.ireturn, 1) := by decide +kernel
theorem dX9_put_13 : decode cX9_put 13 = .ok (.aload_n 0, 1) := by decide +kernel
theorem dX9_put_14 : decode cX9_put 14 = .ok (.getfield 31, 3) := by decide +kernel
theorem dX9_put_17 : decode cX9_put 17 = .ok (.iload_n 1, 1) := by decide +kernel
theorem dX9_put_18 : decode cX9_put 18 = .ok (.iaload, 1) := by decide +kernel
theorem dX9_put_19 : decode cX9_put 19 = .ok (.ifCond .ge 9, 3) := by decide +kernel
theorem dX9_put_22 : decode cX9_put 22 = .ok (.aload_n 0, 1) := by decide +kernel
theorem dX9_put_23 : decode cX9_put 23 = .ok (.iconst 1, 1) := by decide +kernel
theorem dX9_put_24 : decode cX9_put 24 = .ok (.invokevirtual 96, 3) := by decide +kernel
theorem dX9_put_27 : decode cX9_put 27 = .ok (.ireturn, 1) := by decide +kernel
theorem dX9_put_28 : decode cX9_put 28 = .ok (.iload_n 2, 1) := by decide +kernel
theorem dX9_put_29 : decode cX9_put 29 = .ok (.i2l, 1) := by decide +kernel
theorem dX9_put_30 : decode cX9_put 30 = .ok (.lconst 0, 1) := by decide +kernel
theorem dX9_put_31 : decode cX9_put 31 = .ok (.aload_n 0, 1) := by decide +kernel
theorem dX9_put_32 : decode cX9_put 32 = .ok (.getfield 34, 3) := by decide +kernel
theorem dX9_put_35 : decode cX9_put 35 = .ok (.iload_n 1, 1) := by decide +kernel
theorem dX9_put_36 : decode cX9_put 36 = .ok (.iaload, 1) := by decide +kernel
theorem dX9_put_37 : decode cX9_put 37 = .ok (.iconst 1, 1) := by decide +kernel
theorem dX9_put_38 : decode cX9_put 38 = .ok (.isub, 1) := by decide +kernel
theorem dX9_put_39 : decode cX9_put 39 = .ok (.i2l, 1) := by decide +kernel
theorem dX9_put_40 : decode cX9_put 40 = .ok (.invokestatic 71, 3) := by decide +kernel
theorem dX9_put_43 : decode cX9_put 43 = .ok (.ifCond .ne 9, 3) := by decide +kernel
theorem dX9_put_46 : decode cX9_put 46 = .ok (.aload_n 0, 1) := by decide +kernel
theorem dX9_put_47 : decode cX9_put 47 = .ok (.iconst 3, 1) := by decide +kernel
theorem dX9_put_48 : decode cX9_put 48 = .ok (.invokevirtual 96, 3) := by decide +kernel
theorem dX9_put_51 : decode cX9_put 51 = .ok (.ireturn, 1) := by decide +kernel
theorem dX9_put_52 : decode cX9_put 52 = .ok (.aload_n 0, 1) := by decide +kernel
theorem dX9_put_53 : decode cX9_put 53 = .ok (.iconst 0, 1) := by decide +kernel
theorem dX9_put_54 : decode cX9_put 54 = .ok (.putfield 64, 3) := by decide +kernel
theorem dX9_put_57 : decode cX9_put 57 = .ok (.aload_n 0, 1) := by decide +kernel
theorem dX9_put_58 : decode cX9_put 58 = .ok (.getfield 37, 3) := by decide +kernel
theorem dX9_put_61 : decode cX9_put 61 = .ok (.bipush 60, 2) := by decide +kernel
theorem dX9_put_63 : decode cX9_put 63 = .ok (.iload_n 1, 1) := by decide +kernel
theorem dX9_put_64 : decode cX9_put 64 = .ok (.imul, 1) := by decide +kernel
theorem dX9_put_65 : decode cX9_put 65 = .ok (.iload_n 2, 1) := by decide +kernel
theorem dX9_put_66 : decode cX9_put 66 = .ok (.iadd, 1) := by decide +kernel
theorem dX9_put_67 : decode cX9_put 67 = .ok (.aload_n 0, 1) := by decide +kernel
theorem dX9_put_68 : decode cX9_put 68 = .ok (.getfield 31, 3) := by decide +kernel
theorem dX9_put_71 : decode cX9_put 71 = .ok (.iload_n 1, 1) := by decide +kernel
theorem dX9_put_72 : decode cX9_put 72 = .ok (.iaload, 1) := by decide +kernel
theorem dX9_put_73 : decode cX9_put 73 = .ok (.iload_n 3, 1) := by decide +kernel
theorem dX9_put_74 : decode cX9_put 74 = .ok (.invokestatic 99, 3) := by decide +kernel
theorem dX9_put_77 : decode cX9_put 77 = .ok (.iastore, 1) := by decide +kernel
theorem dX9_put_78 : decode cX9_put 78 = .ok (.iconst 1, 1) := by decide +kernel
theorem dX9_put_79 : decode cX9_put 79 = .ok (.ireturn, 1) := by decide +kernel
theorem dX9_lost_0 : decode cX9_lost 0 = .ok (.aload_n 0, 1) := by decide +kernel
theorem dX9_lost_1 : decode cX9_lost 1 = .ok (.iload_n 1, 1) := by decide +kernel
theorem dX9_lost_2 : decode cX9_lost 2 = .ok (.putfield 64, 3) := by decide +kernel
theorem dX9_lost_5 : decode cX9_lost 5 = .ok (.ldc2_w 103, 3) := by decide +kernel
theorem dX9_lost_8 : decode cX9_lost 8 = .ok (.lreturn, 1) := by decide +kernel
theorem dX9_cell_0 : decode cX9_cell 0 = .ok (.iload_n 1, 1) := by decide +kernel
theorem dX9_cell_1 : decode cX9_cell 1 = .ok (.invokestatic 85, 3) := by decide +kernel
theorem dX9_cell_4 : decode cX9_cell 4 = .ok (.ifCond .eq 10, 3) := by decide +kernel
theorem dX9_cell_7 : decode cX9_cell 7 = .ok (.iload_n 3, 1) := by decide +kernel
theorem dX9_cell_8 : decode cX9_cell 8 = .ok (.invokestatic 93, 3) := by decide +kernel
theorem dX9_cell_11 : decode cX9_cell 11 = .ok (.ifCond .ne 9, 3) := by decide +kernel
theorem dX9_cell_14 : decode cX9_cell 14 = .ok (.aload_n 0, 1) := by decide +kernel
theorem dX9_cell_15 : decode cX9_cell 15 = .ok (.iconst 0, 1) := by decide +kernel
theorem dX9_cell_16 : decode cX9_cell 16 = .ok (.invokevirtual 105, 3) := by decide +kernel
theorem dX9_cell_19 : decode cX9_cell 19 = .ok (.lreturn, 1) := by decide +kernel
theorem dX9_cell_20 : decode cX9_cell 20 = .ok (.aload_n 0, 1) := by decide +kernel
theorem dX9_cell_21 : decode cX9_cell 21 = .ok (.getfield 31, 3) := by decide +kernel
theorem dX9_cell_24 : decode cX9_cell 24 = .ok (.iload_n 1, 1) := by decide +kernel
theorem dX9_cell_25 : decode cX9_cell 25 = .ok (.iaload, 1) := by decide +kernel
theorem dX9_cell_26 : decode cX9_cell 26 = .ok (.ifCond .ge 9, 3) := by decide +kernel
theorem dX9_cell_29 : decode cX9_cell 29 = .ok (.aload_n 0, 1) := by decide +kernel
theorem dX9_cell_30 : decode cX9_cell 30 = .ok (.iconst 1, 1) := by decide +kernel
theorem dX9_cell_31 : decode cX9_cell 31 = .ok (.invokevirtual 105, 3) := by decide +kernel
theorem dX9_cell_34 : decode cX9_cell 34 = .ok (.lreturn, 1) := by decide +kernel
theorem dX9_cell_35 : decode cX9_cell 35 = .ok (.aload_n 0, 1) := by decide +kernel
theorem dX9_cell_36 : decode cX9_cell 36 = .ok (.getfield 31, 3) := by decide +kernel
theorem dX9_cell_39 : decode cX9_cell 39 = .ok (.iload_n 1, 1) := by decide +kernel
theorem dX9_cell_40 : decode cX9_cell 40 = .ok (.iaload, 1) := by decide +kernel
theorem dX9_cell_41 : decode cX9_cell 41 = .ok (.iload_n 3, 1) := by decide +kernel
theorem dX9_cell_42 : decode cX9_cell 42 = .ok (.if_icmp .eq 9, 3) := by decide +kernel
theorem dX9_cell_45 : decode cX9_cell 45 = .ok (.aload_n 0, 1) := by decide +kernel
theorem dX9_cell_46 : decode cX9_cell 46 = .ok (.iconst 2, 1) := by decide +kernel
theorem dX9_cell_47 : decode cX9_cell 47 = .ok (.invokevirtual 105, 3) := by decide +kernel
theorem dX9_cell_50 : decode cX9_cell 50 = .ok (.lreturn, 1) := by decide +kernel
theorem dX9_cell_51 : decode cX9_cell 51 = .ok (.iload_n 2, 1) := by decide +kernel
theorem dX9_cell_52 : decode cX9_cell 52 = .ok (.i2l, 1) := by decide +kernel
theorem dX9_cell_53 : decode cX9_cell 53 = .ok (.lconst 0, 1) := by decide +kernel
theorem dX9_cell_54 : decode cX9_cell 54 = .ok (.aload_n 0, 1) := by decide +kernel
theorem dX9_cell_55 : decode cX9_cell 55 = .ok (.getfield 34, 3) := by decide +kernel
theorem dX9_cell_58 : decode cX9_cell 58 = .ok (.iload_n 1, 1) := by decide +kernel
theorem dX9_cell_59 : decode cX9_cell 59 = .ok (.iaload, 1) := by decide +kernel
theorem dX9_cell_60 : decode cX9_cell 60 = .ok (.iconst 1, 1) := by decide +kernel
theorem dX9_cell_61 : decode cX9_cell 61 = .ok (.isub, 1) := by decide +kernel
theorem dX9_cell_62 : decode cX9_cell 62 = .ok (.i2l, 1) := by decide +kernel
theorem dX9_cell_63 : decode cX9_cell 63 = .ok (.invokestatic 71, 3) := by decide +kernel
theorem dX9_cell_66 : decode cX9_cell 66 = .ok (.ifCond .ne 9, 3) := by decide +kernel
theorem dX9_cell_69 : decode cX9_cell 69 = .ok (.aload_n 0, 1) := by decide +kernel
theorem dX9_cell_70 : decode cX9_cell 70 = .ok (.iconst 3, 1) := by decide +kernel
theorem dX9_cell_71 : decode cX9_cell 71 = .ok (.invokevirtual 105, 3) := by decide +kernel
theorem dX9_cell_74 : decode cX9_cell 74 = .ok (.lreturn, 1) := by decide +kernel
theorem dX9_cell_75 : decode cX9_cell 75 = .ok (.aload_n 0, 1) := by decide +kernel
theorem dX9_cell_76 : decode cX9_cell 76 = .ok (.iconst 0, 1) := by decide +kernel
theorem dX9_cell_77 : decode cX9_cell 77 = .ok (.putfield 64, 3) := by decide +kernel
theorem dX9_cell_80 : decode cX9_cell 80 = .ok (.aload_n 0, 1) := by decide +kernel
theorem dX9_cell_81 : decode cX9_cell 81 = .ok (.getfield 37, 3) := by decide +kernel
theorem dX9_cell_84 : decode cX9_cell 84 = .ok (.bipush 60, 2) := by decide +kernel
theorem dX9_cell_86 : decode cX9_cell 86 = .ok (.iload_n 1, 1) := by decide +kernel
theorem dX9_cell_87 : decode cX9_cell 87 = .ok (.imul, 1) := by decide +kernel
theorem dX9_cell_88 : decode cX9_cell 88 = .ok (.iload_n 2, 1) := by decide +kernel
theorem dX9_cell_89 : decode cX9_cell 89 = .ok (.iadd, 1) := by decide +kernel
theorem dX9_cell_90 : decode cX9_cell 90 = .ok (.iaload, 1) := by decide +kernel
theorem dX9_cell_91 : decode cX9_cell 91 = .ok (.i2l, 1) := by decide +kernel
theorem dX9_cell_92 : decode cX9_cell 92 = .ok (.lreturn, 1) := by decide +kernel
theorem dX9_copy_0 : decode cX9_copy 0 = .ok (.iload_n 1, 1) := by decide +kernel
theorem dX9_copy_1 : decode cX9_copy 1 = .ok (.invokestatic 85, 3) := by decide +kernel
theorem dX9_copy_4 : decode cX9_copy 4 = .ok (.ifCond .eq 10, 3) := by decide +kernel
theorem dX9_copy_7 : decode cX9_copy 7 = .ok (.iload_n 3, 1) := by decide +kernel
theorem dX9_copy_8 : decode cX9_copy 8 = .ok (.invokestatic 85, 3) := by decide +kernel
theorem dX9_copy_11 : decode cX9_copy 11 = .ok (.ifCond .ne 9, 3) := by decide +kernel
theorem dX9_copy_14 : decode cX9_copy 14 = .ok (.aload_n 0, 1) := by decide +kernel
theorem dX9_copy_15 : decode cX9_copy 15 = .ok (.iconst (-1), 1) := by decide +kernel
theorem dX9_copy_16 : decode cX9_copy 16 = .ok (.invokevirtual 89, 3) := by decide +kernel
theorem dX9_copy_19 : decode cX9_copy 19 = .ok (.ireturn, 1) := by decide +kernel
theorem dX9_copy_20 : decode cX9_copy 20 = .ok (.aload_n 0, 1) := by decide +kernel
theorem dX9_copy_21 : decode cX9_copy 21 = .ok (.getfield 31, 3) := by decide +kernel
theorem dX9_copy_24 : decode cX9_copy 24 = .ok (.iload_n 1, 1) := by decide +kernel
theorem dX9_copy_25 : decode cX9_copy 25 = .ok (.iaload, 1) := by decide +kernel
theorem dX9_copy_26 : decode cX9_copy 26 = .ok (.ifCond .lt 12, 3) := by decide +kernel
theorem dX9_copy_29 : decode cX9_copy 29 = .ok (.aload_n 0, 1) := by decide +kernel
theorem dX9_copy_30 : decode cX9_copy 30 = .ok (.getfield 31, 3) := by decide +kernel
theorem dX9_copy_33 : decode cX9_copy 33 = .ok (.iload_n 3, 1) := by decide +kernel
theorem dX9_copy_34 : decode cX9_copy 34 = .ok (.iaload, 1) := by decide +kernel
theorem dX9_copy_35 : decode cX9_copy 35 = .ok (.ifCond .ge 9, 3) := by decide +kernel
theorem dX9_copy_38 : decode cX9_copy 38 = .ok (.aload_n 0, 1) := by decide +kernel
theorem dX9_copy_39 : decode cX9_copy 39 = .ok (.iconst 1, 1) := by decide +kernel
theorem dX9_copy_40 : decode cX9_copy 40 = .ok (.invokevirtual 96, 3) := by decide +kernel
theorem dX9_copy_43 : decode cX9_copy 43 = .ok (.ireturn, 1) := by decide +kernel
theorem dX9_copy_44 : decode cX9_copy 44 = .ok (.aload_n 0, 1) := by decide +kernel
theorem dX9_copy_45 : decode cX9_copy 45 = .ok (.getfield 31, 3) := by decide +kernel
theorem dX9_copy_48 : decode cX9_copy 48 = .ok (.iload_n 1, 1) := by decide +kernel
theorem dX9_copy_49 : decode cX9_copy 49 = .ok (.iaload, 1) := by decide +kernel
theorem dX9_copy_50 : decode cX9_copy 50 = .ok (.aload_n 0, 1) := by decide +kernel
theorem dX9_copy_51 : decode cX9_copy 51 = .ok (.getfield 31, 3) := by decide +kernel
theorem dX9_copy_54 : decode cX9_copy 54 = .ok (.iload_n 3, 1) := by decide +kernel
theorem dX9_copy_55 : decode cX9_copy 55 = .ok (.iaload, 1) := by decide +kernel
theorem dX9_copy_56 : decode cX9_copy 56 = .ok (.if_icmp .eq 9, 3) := by decide +kernel
theorem dX9_copy_59 : decode cX9_copy 59 = .ok (.aload_n 0, 1) := by decide +kernel
theorem dX9_copy_60 : decode cX9_copy 60 = .ok (.iconst 2, 1) := by decide +kernel
theorem dX9_copy_61 : decode cX9_copy 61 = .ok (.invokevirtual 96, 3) := by decide +kernel
theorem dX9_copy_64 : decode cX9_copy 64 = .ok (.ireturn, 1) := by decide +kernel
theorem dX9_copy_65 : decode cX9_copy 65 = .ok (.iload 5, 2) := by decide +kernel
theorem dX9_copy_67 : decode cX9_copy 67 = .ok (.ifCond .lt 39, 3) := by decide +kernel
theorem dX9_copy_70 : decode cX9_copy 70 = .ok (.iload_n 2, 1) := by decide +kernel
theorem dX9_copy_71 : decode cX9_copy 71 = .ok (.ifCond .lt 35, 3) := by decide +kernel
theorem dX9_copy_74 : decode cX9_copy 74 = .ok (.iload 4, 2) := by decide +kernel
theorem dX9_copy_76 : decode cX9_copy 76 = .ok (.ifCond .lt 30, 3) := by decide +kernel
theorem dX9_copy_79 : decode cX9_copy 79 = .ok (.iload_n 2, 1) := by decide +kernel
theorem dX9_copy_80 : decode cX9_copy 80 = .ok (.aload_n 0, 1) := by decide +kernel
theorem dX9_copy_81 : decode cX9_copy 81 = .ok (.getfield 34, 3) := by decide +kernel
theorem dX9_copy_84 : decode cX9_copy 84 = .ok (.iload_n 1, 1) := by decide +kernel
theorem dX9_copy_85 : decode cX9_copy 85 = .ok (.iaload, 1) := by decide +kernel
theorem dX9_copy_86 : decode cX9_copy 86 = .ok (.iload 5, 2) := by decide +kernel
theorem dX9_copy_88 : decode cX9_copy 88 = .ok (.isub, 1) := by decide +kernel
theorem dX9_copy_89 : decode cX9_copy 89 = .ok (.if_icmp .gt 17, 3) := by decide +kernel
theorem dX9_copy_92 : decode cX9_copy 92 = .ok (.iload 4, 2) := by decide +kernel
theorem dX9_copy_94 : decode cX9_copy 94 = .ok (.aload_n 0, 1) := by decide +kernel
theorem dX9_copy_95 : decode cX9_copy 95 = .ok (.getfield 34, 3) := by decide +kernel
theorem dX9_copy_98 : decode cX9_copy 98 = .ok (.iload_n 3, 1) := by decide +kernel
theorem dX9_copy_99 : decode cX9_copy 99 = .ok (.iaload, 1) := by decide +kernel
theorem dX9_copy_100 : decode cX9_copy 100 = .ok (.iload 5, 2) := by decide +kernel
theorem dX9_copy_102 : decode cX9_copy 102 = .ok (.isub, 1) := by decide +kernel
theorem dX9_copy_103 : decode cX9_copy 103 = .ok (.if_icmp .le 9, 3) := by decide +kernel
theorem dX9_copy_106 : decode cX9_copy 106 = .ok (.aload_n 0, 1) := by decide +kernel
theorem dX9_copy_107 : decode cX9_copy 107 = .ok (.iconst 3, 1) := by decide +kernel
theorem dX9_copy_108 : decode cX9_copy 108 = .ok (.invokevirtual 96, 3) := by decide +kernel
theorem dX9_copy_111 : decode cX9_copy 111 = .ok (.ireturn, 1) := by decide +kernel
theorem dX9_copy_112 : decode cX9_copy 112 = .ok (.aload_n 0, 1) := by decide +kernel
theorem dX9_copy_113 : decode cX9_copy 113 = .ok (.iconst 0, 1) := by decide +kernel
theorem dX9_copy_114 : decode cX9_copy 114 = .ok (.putfield 64, 3) := by decide +kernel
theorem dX9_copy_117 : decode cX9_copy 117 = .ok (.iconst 0, 1) := by decide +kernel
theorem dX9_copy_118 : decode cX9_copy 118 = .ok (.istore 6, 2) := by decide +kernel
theorem dX9_copy_120 : decode cX9_copy 120 = .ok (.iload 6, 2) := by decide +kernel
theorem dX9_copy_122 : decode cX9_copy 122 = .ok (.iload 5, 2) := by decide +kernel
theorem dX9_copy_124 : decode cX9_copy 124 = .ok (.if_icmp .ge 30, 3) := by decide +kernel
theorem dX9_copy_127 : decode cX9_copy 127 = .ok (.aload_n 0, 1) := by decide +kernel
theorem dX9_copy_128 : decode cX9_copy 128 = .ok (.getfield 40, 3) := by decide +kernel
theorem dX9_copy_131 : decode cX9_copy 131 = .ok (.iload 6, 2) := by decide +kernel
theorem dX9_copy_133 : decode cX9_copy 133 = .ok (.aload_n 0, 1) := by decide +kernel
theorem dX9_copy_134 : decode cX9_copy 134 = .ok (.getfield 37, 3) := by decide +kernel
theorem dX9_copy_137 : decode cX9_copy 137 = .ok (.bipush 60, 2) := by decide +kernel
theorem dX9_copy_139 : decode cX9_copy 139 = .ok (.iload_n 1, 1) := by decide +kernel
theorem dX9_copy_140 : decode cX9_copy 140 = .ok (.imul, 1) := by decide +kernel
theorem dX9_copy_141 : decode cX9_copy 141 = .ok (.iload_n 2, 1) := by decide +kernel
theorem dX9_copy_142 : decode cX9_copy 142 = .ok (.iadd, 1) := by decide +kernel
theorem dX9_copy_143 : decode cX9_copy 143 = .ok (.iload 6, 2) := by decide +kernel
theorem dX9_copy_145 : decode cX9_copy 145 = .ok (.iadd, 1) := by decide +kernel
theorem dX9_copy_146 : decode cX9_copy 146 = .ok (.iaload, 1) := by decide +kernel
theorem dX9_copy_147 : decode cX9_copy 147 = .ok (.iastore, 1) := by decide +kernel
theorem dX9_copy_148 : decode cX9_copy 148 = .ok (.iinc 6 1, 3) := by decide +kernel
theorem dX9_copy_151 : decode cX9_copy 151 = .ok (.goto (-31), 3) := by decide +kernel
theorem dX9_copy_154 : decode cX9_copy 154 = .ok (.iconst 0, 1) := by decide +kernel
theorem dX9_copy_155 : decode cX9_copy 155 = .ok (.istore 6, 2) := by decide +kernel
theorem dX9_copy_157 : decode cX9_copy 157 = .ok (.iload 6, 2) := by decide +kernel
theorem dX9_copy_159 : decode cX9_copy 159 = .ok (.iload 5, 2) := by decide +kernel
theorem dX9_copy_161 : decode cX9_copy 161 = .ok (.if_icmp .ge 31, 3) := by decide +kernel
theorem dX9_copy_164 : decode cX9_copy 164 = .ok (.aload_n 0, 1) := by decide +kernel
theorem dX9_copy_165 : decode cX9_copy 165 = .ok (.getfield 37, 3) := by decide +kernel
theorem dX9_copy_168 : decode cX9_copy 168 = .ok (.bipush 60, 2) := by decide +kernel
theorem dX9_copy_170 : decode cX9_copy 170 = .ok (.iload_n 3, 1) := by decide +kernel
theorem dX9_copy_171 : decode cX9_copy 171 = .ok (.imul, 1) := by decide +kernel
theorem dX9_copy_172 : decode cX9_copy 172 = .ok (.iload 4, 2) := by decide +kernel
theorem dX9_copy_174 : decode cX9_copy 174 = .ok (.iadd, 1) := by decide +kernel
theorem dX9_copy_175 : decode cX9_copy 175 = .ok (.iload 6, 2) := by decide +kernel
theorem dX9_copy_177 : decode cX9_copy 177 = .ok (.iadd, 1) := by decide +kernel
theorem dX9_copy_178 : decode cX9_copy 178 = .ok (.aload_n 0, 1) := by decide +kernel
theorem dX9_copy_179 : decode cX9_copy 179 = .ok (.getfield 40, 3) := by decide +kernel
theorem dX9_copy_182 : decode cX9_copy 182 = .ok (.iload 6, 2) := by decide +kernel
theorem dX9_copy_184 : decode cX9_copy 184 = .ok (.iaload, 1) := by decide +kernel
theorem dX9_copy_185 : decode cX9_copy 185 = .ok (.iastore, 1) := by decide +kernel
theorem dX9_copy_186 : decode cX9_copy 186 = .ok (.iinc 6 1, 3) := by decide +kernel
theorem dX9_copy_189 : decode cX9_copy 189 = .ok (.goto (-32), 3) := by decide +kernel
theorem dX9_copy_192 : decode cX9_copy 192 = .ok (.iload 5, 2) := by decide +kernel
theorem dX9_copy_194 : decode cX9_copy 194 = .ok (.ireturn, 1) := by decide +kernel
theorem dX9_faultOf_0 : decode cX9_faultOf 0 = .ok (.aload_n 0, 1) := by decide +kernel
theorem dX9_faultOf_1 : decode cX9_faultOf 1 = .ok (.getfield 31, 3) := by decide +kernel
theorem dX9_faultOf_4 : decode cX9_faultOf 4 = .ok (.iload_n 1, 1) := by decide +kernel
theorem dX9_faultOf_5 : decode cX9_faultOf 5 = .ok (.iaload, 1) := by decide +kernel
theorem dX9_faultOf_6 : decode cX9_faultOf 6 = .ok (.ifCond .ge 5, 3) := by decide +kernel
theorem dX9_faultOf_9 : decode cX9_faultOf 9 = .ok (.iconst 1, 1) := by decide +kernel
theorem dX9_faultOf_10 : decode cX9_faultOf 10 = .ok (.ireturn, 1) := by decide +kernel
theorem dX9_faultOf_11 : decode cX9_faultOf 11 = .ok (.aload_n 0, 1) := by decide +kernel
theorem dX9_faultOf_12 : decode cX9_faultOf 12 = .ok (.getfield 31, 3) := by decide +kernel
theorem dX9_faultOf_15 : decode cX9_faultOf 15 = .ok (.iload_n 1, 1) := by decide +kernel
theorem dX9_faultOf_16 : decode cX9_faultOf 16 = .ok (.iaload, 1) := by decide +kernel
theorem dX9_faultOf_17 : decode cX9_faultOf 17 = .ok (.iload_n 2, 1) := by decide +kernel
theorem dX9_faultOf_18 : decode cX9_faultOf 18 = .ok (.if_icmp .eq 5, 3) := by decide +kernel
theorem dX9_faultOf_21 : decode cX9_faultOf 21 = .ok (.iconst 2, 1) := by decide +kernel
theorem dX9_faultOf_22 : decode cX9_faultOf 22 = .ok (.ireturn, 1) := by decide +kernel
theorem dX9_faultOf_23 : decode cX9_faultOf 23 = .ok (.iload 4, 2) := by decide +kernel
theorem dX9_faultOf_25 : decode cX9_faultOf 25 = .ok (.ifCond .ge 5, 3) := by decide +kernel
theorem dX9_faultOf_28 : decode cX9_faultOf 28 = .ok (.iconst 4, 1) := by decide +kernel
theorem dX9_faultOf_29 : decode cX9_faultOf 29 = .ok (.ireturn, 1) := by decide +kernel
theorem dX9_faultOf_30 : decode cX9_faultOf 30 = .ok (.iload_n 3, 1) := by decide +kernel
theorem dX9_faultOf_31 : decode cX9_faultOf 31 = .ok (.ifCond .lt 16, 3) := by decide +kernel
theorem dX9_faultOf_34 : decode cX9_faultOf 34 = .ok (.iload_n 3, 1) := by decide +kernel
theorem dX9_faultOf_35 : decode cX9_faultOf 35 = .ok (.aload_n 0, 1) := by decide +kernel
theorem dX9_faultOf_36 : decode cX9_faultOf 36 = .ok (.getfield 34, 3) := by decide +kernel
theorem dX9_faultOf_39 : decode cX9_faultOf 39 = .ok (.iload_n 1, 1) := by decide +kernel
theorem dX9_faultOf_40 : decode cX9_faultOf 40 = .ok (.iaload, 1) := by decide +kernel
theorem dX9_faultOf_41 : decode cX9_faultOf 41 = .ok (.iload 4, 2) := by decide +kernel
theorem dX9_faultOf_43 : decode cX9_faultOf 43 = .ok (.isub, 1) := by decide +kernel
theorem dX9_faultOf_44 : decode cX9_faultOf 44 = .ok (.if_icmp .le 7, 3) := by decide +kernel
theorem dX9_faultOf_47 : decode cX9_faultOf 47 = .ok (.iconst 3, 1) := by decide +kernel
theorem dX9_faultOf_48 : decode cX9_faultOf 48 = .ok (.goto 4, 3) := by decide +kernel
theorem dX9_faultOf_51 : decode cX9_faultOf 51 = .ok (.iconst 0, 1) := by decide +kernel
theorem dX9_faultOf_52 : decode cX9_faultOf 52 = .ok (.ireturn, 1) := by decide +kernel
theorem dX9_take_0 : decode cX9_take 0 = .ok (.aload_n 0, 1) := by decide +kernel
theorem dX9_take_1 : decode cX9_take 1 = .ok (.getfield 109, 3) := by decide +kernel
theorem dX9_take_4 : decode cX9_take 4 = .ok (.aload_n 0, 1) := by decide +kernel
theorem dX9_take_5 : decode cX9_take 5 = .ok (.getfield 112, 3) := by decide +kernel
theorem dX9_take_8 : decode cX9_take 8 = .ok (.if_icmp .eq 23, 3) := by decide +kernel
theorem dX9_take_11 : decode cX9_take 11 = .ok (.aload_n 0, 1) := by decide +kernel
theorem dX9_take_12 : decode cX9_take 12 = .ok (.getfield 37, 3) := by decide +kernel
theorem dX9_take_15 : decode cX9_take 15 = .ok (.aload_n 0, 1) := by decide +kernel
theorem dX9_take_16 : decode cX9_take 16 = .ok (.getfield 109, 3) := by decide +kernel
theorem dX9_take_19 : decode cX9_take 19 = .ok (.iaload, 1) := by decide +kernel
theorem dX9_take_20 : decode cX9_take 20 = .ok (.i2l, 1) := by decide +kernel
theorem dX9_take_21 : decode cX9_take 21 = .ok (.iload_n 1, 1) := by decide +kernel
theorem dX9_take_22 : decode cX9_take 22 = .ok (.i2l, 1) := by decide +kernel
theorem dX9_take_23 : decode cX9_take 23 = .ok (.iload_n 2, 1) := by decide +kernel
theorem dX9_take_24 : decode cX9_take 24 = .ok (.i2l, 1) := by decide +kernel
theorem dX9_take_25 : decode cX9_take 25 = .ok (.invokestatic 71, 3) := by decide +kernel
theorem dX9_take_28 : decode cX9_take 28 = .ok (.ifCond .ne 5, 3) := by decide +kernel
theorem dX9_take_31 : decode cX9_take 31 = .ok (.iconst (-1), 1) := by decide +kernel
theorem dX9_take_32 : decode cX9_take 32 = .ok (.ireturn, 1) := by decide +kernel
theorem dX9_take_33 : decode cX9_take 33 = .ok (.aload_n 0, 1) := by decide +kernel
theorem dX9_take_34 : decode cX9_take 34 = .ok (.dup, 1) := by decide +kernel
theorem dX9_take_35 : decode cX9_take 35 = .ok (.getfield 109, 3) := by decide +kernel
theorem dX9_take_38 : decode cX9_take 38 = .ok (.iconst 1, 1) := by decide +kernel
theorem dX9_take_39 : decode cX9_take 39 = .ok (.iadd, 1) := by decide +kernel
theorem dX9_take_40 : decode cX9_take 40 = .ok (.putfield 109, 3) := by decide +kernel
theorem dX9_take_43 : decode cX9_take 43 = .ok (.aload_n 0, 1) := by decide +kernel
theorem dX9_take_44 : decode cX9_take 44 = .ok (.getfield 37, 3) := by decide +kernel
theorem dX9_take_47 : decode cX9_take 47 = .ok (.aload_n 0, 1) := by decide +kernel
theorem dX9_take_48 : decode cX9_take 48 = .ok (.getfield 109, 3) := by decide +kernel
theorem dX9_take_51 : decode cX9_take 51 = .ok (.iconst 1, 1) := by decide +kernel
theorem dX9_take_52 : decode cX9_take 52 = .ok (.isub, 1) := by decide +kernel
theorem dX9_take_53 : decode cX9_take 53 = .ok (.iaload, 1) := by decide +kernel
theorem dX9_take_54 : decode cX9_take 54 = .ok (.iload_n 1, 1) := by decide +kernel
theorem dX9_take_55 : decode cX9_take 55 = .ok (.isub, 1) := by decide +kernel
theorem dX9_take_56 : decode cX9_take 56 = .ok (.ireturn, 1) := by decide +kernel
theorem dX9_takeSquare_0 : decode cX9_takeSquare 0 = .ok (.aload_n 0, 1) := by decide +kernel
theorem dX9_takeSquare_1 : decode cX9_takeSquare 1 = .ok (.getfield 109, 3) := by decide +kernel
theorem dX9_takeSquare_4 : decode cX9_takeSquare 4 = .ok (.aload_n 0, 1) := by decide +kernel
theorem dX9_takeSquare_5 : decode cX9_takeSquare 5 = .ok (.getfield 112, 3) := by decide +kernel
theorem dX9_takeSquare_8 : decode cX9_takeSquare 8 = .ok (.if_icmp .ne 7, 3) := by decide +kernel
theorem dX9_takeSquare_11 : decode cX9_takeSquare 11 = .ok (.iconst (-1), 1) := by decide +kernel
theorem dX9_takeSquare_12 : decode cX9_takeSquare 12 = .ok (.goto 12, 3) := by decide +kernel
theorem dX9_takeSquare_15 : decode cX9_takeSquare 15 = .ok (.aload_n 0, 1) := by decide +kernel
theorem dX9_takeSquare_16 : decode cX9_takeSquare 16 = .ok (.getfield 37, 3) := by decide +kernel
theorem dX9_takeSquare_19 : decode cX9_takeSquare 19 = .ok (.aload_n 0, 1) := by decide +kernel
theorem dX9_takeSquare_20 : decode cX9_takeSquare 20 = .ok (.getfield 109, 3) := by decide +kernel
theorem dX9_takeSquare_23 : decode cX9_takeSquare 23 = .ok (.iaload, 1) := by decide +kernel
theorem dX9_takeSquare_24 : decode cX9_takeSquare 24 = .ok (.istore_n 2, 1) := by decide +kernel
theorem dX9_takeSquare_25 : decode cX9_takeSquare 25 = .ok (.iload_n 2, 1) := by decide +kernel
theorem dX9_takeSquare_26 : decode cX9_takeSquare 26 = .ok (.bipush 111, 2) := by decide +kernel
theorem dX9_takeSquare_28 : decode cX9_takeSquare 28 = .ok (.if_icmp .ne 15, 3) := by decide +kernel
theorem dX9_takeSquare_31 : decode cX9_takeSquare 31 = .ok (.aload_n 0, 1) := by decide +kernel
theorem dX9_takeSquare_32 : decode cX9_takeSquare 32 = .ok (.getfield 115, 3) := by decide +kernel
theorem dX9_takeSquare_35 : decode cX9_takeSquare 35 = .ok (.iconst 5, 1) := by decide +kernel
theorem dX9_takeSquare_36 : decode cX9_takeSquare 36 = .ok (.if_icmp .ge 7, 3) := by decide +kernel
theorem dX9_takeSquare_39 : decode cX9_takeSquare 39 = .ok (.iconst 1, 1) := by decide +kernel
theorem dX9_takeSquare_40 : decode cX9_takeSquare 40 = .ok (.goto 4, 3) := by decide +kernel
theorem dX9_takeSquare_43 : decode cX9_takeSquare 43 = .ok (.iconst 0, 1) := by decide +kernel
theorem dX9_takeSquare_44 : decode cX9_takeSquare 44 = .ok (.istore_n 3, 1) := by decide +kernel
theorem dX9_takeSquare_45 : decode cX9_takeSquare 45 = .ok (.aload_n 0, 1) := by decide +kernel
theorem dX9_takeSquare_46 : decode cX9_takeSquare 46 = .ok (.getfield 43, 3) := by decide +kernel
theorem dX9_takeSquare_49 : decode cX9_takeSquare 49 = .ok (.iload_n 1, 1) := by decide +kernel
theorem dX9_takeSquare_50 : decode cX9_takeSquare 50 = .ok (.iload_n 2, 1) := by decide +kernel
theorem dX9_takeSquare_51 : decode cX9_takeSquare 51 = .ok (.bipush 103, 2) := by decide +kernel
theorem dX9_takeSquare_53 : decode cX9_takeSquare 53 = .ok (.if_icmp .ne 7, 3) := by decide +kernel
theorem dX9_takeSquare_56 : decode cX9_takeSquare 56 = .ok (.iconst 1, 1) := by decide +kernel
theorem dX9_takeSquare_57 : decode cX9_takeSquare 57 = .ok (.goto 14, 3) := by decide +kernel
theorem dX9_takeSquare_60 : decode cX9_takeSquare 60 = .ok (.iload_n 2, 1) := by decide +kernel
theorem dX9_takeSquare_61 : decode cX9_takeSquare 61 = .ok (.bipush 109, 2) := by decide +kernel
theorem dX9_takeSquare_63 : decode cX9_takeSquare 63 = .ok (.if_icmp .ne 7, 3) := by decide +kernel
theorem dX9_takeSquare_66 : decode cX9_takeSquare 66 = .ok (.iconst 2, 1) := by decide +kernel
theorem dX9_takeSquare_67 : decode cX9_takeSquare 67 = .ok (.goto 4, 3) := by decide +kernel
theorem dX9_takeSquare_70 : decode cX9_takeSquare 70 = .ok (.iconst 0, 1) := by decide +kernel
theorem dX9_takeSquare_71 : decode cX9_takeSquare 71 = .ok (.iastore, 1) := by decide +kernel
theorem dX9_takeSquare_72 : decode cX9_takeSquare 72 = .ok (.iload_n 2, 1) := by decide +kernel
theorem dX9_takeSquare_73 : decode cX9_takeSquare 73 = .ok (.bipush 46, 2) := by decide +kernel
theorem dX9_takeSquare_75 : decode cX9_takeSquare 75 = .ok (.if_icmp .eq 21, 3) := by decide +kernel
theorem dX9_takeSquare_78 : decode cX9_takeSquare 78 = .ok (.iload_n 2, 1) := by decide +kernel
theorem dX9_takeSquare_79 : decode cX9_takeSquare 79 = .ok (.bipush 103, 2) := by decide +kernel
theorem dX9_takeSquare_81 : decode cX9_takeSquare 81 = .ok (.if_icmp .eq 15, 3) := by decide +kernel
theorem dX9_takeSquare_84 : decode cX9_takeSquare 84 = .ok (.iload_n 2, 1) := by decide +kernel
theorem dX9_takeSquare_85 : decode cX9_takeSquare 85 = .ok (.bipush 109, 2) := by decide +kernel
theorem dX9_takeSquare_87 : decode cX9_takeSquare 87 = .ok (.if_icmp .eq 9, 3) := by decide +kernel
theorem dX9_takeSquare_90 : decode cX9_takeSquare 90 = .ok (.iload_n 3, 1) := by decide +kernel
theorem dX9_takeSquare_91 : decode cX9_takeSquare 91 = .ok (.ifCond .ne 5, 3) := by decide +kernel
theorem dX9_takeSquare_94 : decode cX9_takeSquare 94 = .ok (.iconst 0, 1) := by decide +kernel
theorem dX9_takeSquare_95 : decode cX9_takeSquare 95 = .ok (.ireturn, 1) := by decide +kernel
theorem dX9_takeSquare_96 : decode cX9_takeSquare 96 = .ok (.iload_n 3, 1) := by decide +kernel
theorem dX9_takeSquare_97 : decode cX9_takeSquare 97 = .ok (.ifCond .eq 23, 3) := by decide +kernel
theorem dX9_takeSquare_100 : decode cX9_takeSquare 100 = .ok (.aload_n 0, 1) := by decide +kernel
theorem dX9_takeSquare_101 : decode cX9_takeSquare 101 = .ok (.getfield 46, 3) := by decide +kernel
theorem dX9_takeSquare_104 : decode cX9_takeSquare 104 = .ok (.aload_n 0, 1) := by decide +kernel
theorem dX9_takeSquare_105 : decode cX9_takeSquare 105 = .ok (.getfield 115, 3) := by decide +kernel
theorem dX9_takeSquare_108 : decode cX9_takeSquare 108 = .ok (.iload_n 1, 1) := by decide +kernel
theorem dX9_takeSquare_109 : decode cX9_takeSquare 109 = .ok (.iastore, 1) := by decide +kernel
theorem dX9_takeSquare_110 : decode cX9_takeSquare 110 = .ok (.aload_n 0, 1) := by decide +kernel
theorem dX9_takeSquare_111 : decode cX9_takeSquare 111 = .ok (.dup, 1) := by decide +kernel
theorem dX9_takeSquare_112 : decode cX9_takeSquare 112 = .ok (.getfield 115, 3) := by decide +kernel
theorem dX9_takeSquare_115 : decode cX9_takeSquare 115 = .ok (.iconst 1, 1) := by decide +kernel
theorem dX9_takeSquare_116 : decode cX9_takeSquare 116 = .ok (.iadd, 1) := by decide +kernel
theorem dX9_takeSquare_117 : decode cX9_takeSquare 117 = .ok (.putfield 115, 3) := by decide +kernel
theorem dX9_takeSquare_120 : decode cX9_takeSquare 120 = .ok (.aload_n 0, 1) := by decide +kernel
theorem dX9_takeSquare_121 : decode cX9_takeSquare 121 = .ok (.dup, 1) := by decide +kernel
theorem dX9_takeSquare_122 : decode cX9_takeSquare 122 = .ok (.getfield 109, 3) := by decide +kernel
theorem dX9_takeSquare_125 : decode cX9_takeSquare 125 = .ok (.iconst 1, 1) := by decide +kernel
theorem dX9_takeSquare_126 : decode cX9_takeSquare 126 = .ok (.iadd, 1) := by decide +kernel
theorem dX9_takeSquare_127 : decode cX9_takeSquare 127 = .ok (.putfield 109, 3) := by decide +kernel
theorem dX9_takeSquare_130 : decode cX9_takeSquare 130 = .ok (.iconst 1, 1) := by decide +kernel
theorem dX9_takeSquare_131 : decode cX9_takeSquare 131 = .ok (.ireturn, 1) := by decide +kernel
theorem dX9_takeSquares_0 : decode cX9_takeSquares 0 = .ok (.iconst 1, 1) := by decide +kernel
theorem dX9_takeSquares_1 : decode cX9_takeSquares 1 = .ok (.istore_n 1, 1) := by decide +kernel
theorem dX9_takeSquares_2 : decode cX9_takeSquares 2 = .ok (.iconst 0, 1) := by decide +kernel
theorem dX9_takeSquares_3 : decode cX9_takeSquares 3 = .ok (.istore_n 2, 1) := by decide +kernel
theorem dX9_takeSquares_4 : decode cX9_takeSquares 4 = .ok (.iload_n 2, 1) := by decide +kernel
theorem dX9_takeSquares_5 : decode cX9_takeSquares 5 = .ok (.aload_n 0, 1) := by decide +kernel
theorem dX9_takeSquares_6 : decode cX9_takeSquares 6 = .ok (.getfield 118, 3) := by decide +kernel
theorem dX9_takeSquares_9 : decode cX9_takeSquares 9 = .ok (.aload_n 0, 1) := by decide +kernel
theorem dX9_takeSquares_10 : decode cX9_takeSquares 10 = .ok (.getfield 121, 3) := by decide +kernel
theorem dX9_takeSquares_13 : decode cX9_takeSquares 13 = .ok (.imul, 1) := by decide +kernel
theorem dX9_takeSquares_14 : decode cX9_takeSquares 14 = .ok (.if_icmp .ge 47, 3) := by decide +kernel
theorem dX9_takeSquares_17 : decode cX9_takeSquares 17 = .ok (.iload_n 1, 1) := by decide +kernel
theorem dX9_takeSquares_18 : decode cX9_takeSquares 18 = .ok (.ifCond .eq 43, 3) := by decide +kernel
theorem dX9_takeSquares_21 : decode cX9_takeSquares 21 = .ok (.iload_n 2, 1) := by decide +kernel
theorem dX9_takeSquares_22 : decode cX9_takeSquares 22 = .ok (.aload_n 0, 1) := by decide +kernel
theorem dX9_takeSquares_23 : decode cX9_takeSquares 23 = .ok (.getfield 121, 3) := by decide +kernel
theorem dX9_takeSquares_26 : decode cX9_takeSquares 26 = .ok (.irem, 1) := by decide +kernel
theorem dX9_takeSquares_27 : decode cX9_takeSquares 27 = .ok (.ifCond .ne 14, 3) := by decide +kernel
theorem dX9_takeSquares_30 : decode cX9_takeSquares 30 = .ok (.aload_n 0, 1) := by decide +kernel
theorem dX9_takeSquares_31 : decode cX9_takeSquares 31 = .ok (.bipush 59, 2) := by decide +kernel
theorem dX9_takeSquares_33 : decode cX9_takeSquares 33 = .ok (.bipush 59, 2) := by decide +kernel
theorem dX9_takeSquares_35 : decode cX9_takeSquares 35 = .ok (.invokevirtual 124, 3) := by decide +kernel
theorem dX9_takeSquares_38 : decode cX9_takeSquares 38 = .ok (.ifCond .ne 15, 3) := by decide +kernel
theorem dX9_takeSquares_41 : decode cX9_takeSquares 41 = .ok (.aload_n 0, 1) := by decide +kernel
theorem dX9_takeSquares_42 : decode cX9_takeSquares 42 = .ok (.iload_n 2, 1) := by decide +kernel
theorem dX9_takeSquares_43 : decode cX9_takeSquares 43 = .ok (.invokevirtual 127, 3) := by decide +kernel
theorem dX9_takeSquares_46 : decode cX9_takeSquares 46 = .ok (.ifCond .eq 7, 3) := by decide +kernel
theorem dX9_takeSquares_49 : decode cX9_takeSquares 49 = .ok (.iconst 1, 1) := by decide +kernel
theorem dX9_takeSquares_50 : decode cX9_takeSquares 50 = .ok (.goto 4, 3) := by decide +kernel
theorem dX9_takeSquares_53 : decode cX9_takeSquares 53 = .ok (.iconst 0, 1) := by decide +kernel
theorem dX9_takeSquares_54 : decode cX9_takeSquares 54 = .ok (.istore_n 1, 1) := by decide +kernel
theorem dX9_takeSquares_55 : decode cX9_takeSquares 55 = .ok (.iinc 2 1, 3) := by decide +kernel
theorem dX9_takeSquares_58 : decode cX9_takeSquares 58 = .ok (.goto (-54), 3) := by decide +kernel
theorem dX9_takeSquares_61 : decode cX9_takeSquares 61 = .ok (.iload_n 1, 1) := by decide +kernel
theorem dX9_takeSquares_62 : decode cX9_takeSquares 62 = .ok (.ireturn, 1) := by decide +kernel
theorem dX9_takeEater_0 : decode cX9_takeEater 0 = .ok (.aload_n 0, 1) := by decide +kernel
theorem dX9_takeEater_1 : decode cX9_takeEater 1 = .ok (.getfield 130, 3) := by decide +kernel
theorem dX9_takeEater_4 : decode cX9_takeEater 4 = .ok (.istore_n 1, 1) := by decide +kernel
theorem dX9_takeEater_5 : decode cX9_takeEater 5 = .ok (.aload_n 0, 1) := by decide +kernel
theorem dX9_takeEater_6 : decode cX9_takeEater 6 = .ok (.bipush 59, 2) := by decide +kernel
theorem dX9_takeEater_8 : decode cX9_takeEater 8 = .ok (.bipush 59, 2) := by decide +kernel
theorem dX9_takeEater_10 : decode cX9_takeEater 10 = .ok (.invokevirtual 124, 3) := by decide +kernel
theorem dX9_takeEater_13 : decode cX9_takeEater 13 = .ok (.ifCond .ge 5, 3) := by decide +kernel
theorem dX9_takeEater_16 : decode cX9_takeEater 16 = .ok (.iconst 0, 1) := by decide +kernel
theorem dX9_takeEater_17 : decode cX9_takeEater 17 = .ok (.ireturn, 1) := by decide +kernel
theorem dX9_takeEater_18 : decode cX9_takeEater 18 = .ok (.aload_n 0, 1) := by decide +kernel
theorem dX9_takeEater_19 : decode cX9_takeEater 19 = .ok (.getfield 109, 3) := by decide +kernel
theorem dX9_takeEater_22 : decode cX9_takeEater 22 = .ok (.aload_n 0, 1) := by decide +kernel
theorem dX9_takeEater_23 : decode cX9_takeEater 23 = .ok (.getfield 112, 3) := by decide +kernel
theorem dX9_takeEater_26 : decode cX9_takeEater 26 = .ok (.if_icmp .ne 7, 3) := by decide +kernel
theorem dX9_takeEater_29 : decode cX9_takeEater 29 = .ok (.iconst (-1), 1) := by decide +kernel
theorem dX9_takeEater_30 : decode cX9_takeEater 30 = .ok (.goto 12, 3) := by decide +kernel
theorem dX9_takeEater_33 : decode cX9_takeEater 33 = .ok (.aload_n 0, 1) := by decide +kernel
theorem dX9_takeEater_34 : decode cX9_takeEater 34 = .ok (.getfield 37, 3) := by decide +kernel
theorem dX9_takeEater_37 : decode cX9_takeEater 37 = .ok (.aload_n 0, 1) := by decide +kernel
theorem dX9_takeEater_38 : decode cX9_takeEater 38 = .ok (.getfield 109, 3) := by decide +kernel
theorem dX9_takeEater_41 : decode cX9_takeEater 41 = .ok (.iaload, 1) := by decide +kernel
theorem dX9_takeEater_42 : decode cX9_takeEater 42 = .ok (.istore_n 2, 1) := by decide +kernel
theorem dX9_takeEater_43 : decode cX9_takeEater 43 = .ok (.aload_n 0, 1) := by decide +kernel
theorem dX9_takeEater_44 : decode cX9_takeEater 44 = .ok (.getfield 49, 3) := by decide +kernel
theorem dX9_takeEater_47 : decode cX9_takeEater 47 = .ok (.iload_n 1, 1) := by decide +kernel
theorem dX9_takeEater_48 : decode cX9_takeEater 48 = .ok (.iload_n 2, 1) := by decide +kernel
theorem dX9_takeEater_49 : decode cX9_takeEater 49 = .ok (.bipush 102, 2) := by decide +kernel
theorem dX9_takeEater_51 : decode cX9_takeEater 51 = .ok (.if_icmp .ne 7, 3) := by decide +kernel
theorem dX9_takeEater_54 : decode cX9_takeEater 54 = .ok (.iconst 0, 1) := by decide +kernel
theorem dX9_takeEater_55 : decode cX9_takeEater 55 = .ok (.goto 24, 3) := by decide +kernel
theorem dX9_takeEater_58 : decode cX9_takeEater 58 = .ok (.iload_n 2, 1) := by decide +kernel
theorem dX9_takeEater_59 : decode cX9_takeEater 59 = .ok (.bipush 107, 2) := by decide +kernel
theorem dX9_takeEater_61 : decode cX9_takeEater 61 = .ok (.if_icmp .ne 7, 3) := by decide +kernel
theorem dX9_takeEater_64 : decode cX9_takeEater 64 = .ok (.iconst 1, 1) := by decide +kernel
theorem dX9_takeEater_65 : decode cX9_takeEater 65 = .ok (.goto 14, 3) := by decide +kernel
theorem dX9_takeEater_68 : decode cX9_takeEater 68 = .ok (.iload_n 2, 1) := by decide +kernel
theorem dX9_takeEater_69 : decode cX9_takeEater 69 = .ok (.bipush 115, 2) := by decide +kernel
theorem dX9_takeEater_71 : decode cX9_takeEater 71 = .ok (.if_icmp .ne 7, 3) := by decide +kernel
theorem dX9_takeEater_74 : decode cX9_takeEater 74 = .ok (.iconst 2, 1) := by decide +kernel
theorem dX9_takeEater_75 : decode cX9_takeEater 75 = .ok (.goto 4, 3) := by decide +kernel
theorem dX9_takeEater_78 : decode cX9_takeEater 78 = .ok (.iconst (-1), 1) := by decide +kernel
theorem dX9_takeEater_79 : decode cX9_takeEater 79 = .ok (.iastore, 1) := by decide +kernel
theorem dX9_takeEater_80 : decode cX9_takeEater 80 = .ok (.aload_n 0, 1) := by decide +kernel
theorem dX9_takeEater_81 : decode cX9_takeEater 81 = .ok (.getfield 49, 3) := by decide +kernel
theorem dX9_takeEater_84 : decode cX9_takeEater 84 = .ok (.iload_n 1, 1) := by decide +kernel
theorem dX9_takeEater_85 : decode cX9_takeEater 85 = .ok (.iaload, 1) := by decide +kernel
theorem dX9_takeEater_86 : decode cX9_takeEater 86 = .ok (.ifCond .ge 5, 3) := by decide +kernel
theorem dX9_takeEater_89 : decode cX9_takeEater 89 = .ok (.iconst 0, 1) := by decide +kernel
theorem dX9_takeEater_90 : decode cX9_takeEater 90 = .ok (.ireturn, 1) := by decide +kernel
theorem dX9_takeEater_91 : decode cX9_takeEater 91 = .ok (.aload_n 0, 1) := by decide +kernel
theorem dX9_takeEater_92 : decode cX9_takeEater 92 = .ok (.dup, 1) := by decide +kernel
theorem dX9_takeEater_93 : decode cX9_takeEater 93 = .ok (.getfield 109, 3) := by decide +kernel
theorem dX9_takeEater_96 : decode cX9_takeEater 96 = .ok (.iconst 1, 1) := by decide +kernel
theorem dX9_takeEater_97 : decode cX9_takeEater 97 = .ok (.iadd, 1) := by decide +kernel
theorem dX9_takeEater_98 : decode cX9_takeEater 98 = .ok (.putfield 109, 3) := by decide +kernel
theorem dX9_takeEater_101 : decode cX9_takeEater 101 = .ok (.aload_n 0, 1) := by decide +kernel
theorem dX9_takeEater_102 : decode cX9_takeEater 102 = .ok (.getfield 52, 3) := by decide +kernel
theorem dX9_takeEater_105 : decode cX9_takeEater 105 = .ok (.iload_n 1, 1) := by decide +kernel
theorem dX9_takeEater_106 : decode cX9_takeEater 106 = .ok (.aload_n 0, 1) := by decide +kernel
theorem dX9_takeEater_107 : decode cX9_takeEater 107 = .ok (.bipush 49, 2) := by decide +kernel
theorem dX9_takeEater_109 : decode cX9_takeEater 109 = .ok (.bipush 52, 2) := by decide +kernel
theorem dX9_takeEater_111 : decode cX9_takeEater 111 = .ok (.invokevirtual 124, 3) := by decide +kernel
theorem dX9_takeEater_114 : decode cX9_takeEater 114 = .ok (.iconst 1, 1) := by decide +kernel
theorem dX9_takeEater_115 : decode cX9_takeEater 115 = .ok (.iadd, 1) := by decide +kernel
theorem dX9_takeEater_116 : decode cX9_takeEater 116 = .ok (.iastore, 1) := by decide +kernel
theorem dX9_takeEater_117 : decode cX9_takeEater 117 = .ok (.aload_n 0, 1) := by decide +kernel
theorem dX9_takeEater_118 : decode cX9_takeEater 118 = .ok (.dup, 1) := by decide +kernel
theorem dX9_takeEater_119 : decode cX9_takeEater 119 = .ok (.getfield 130, 3) := by decide +kernel
theorem dX9_takeEater_122 : decode cX9_takeEater 122 = .ok (.iconst 1, 1) := by decide +kernel
theorem dX9_takeEater_123 : decode cX9_takeEater 123 = .ok (.iadd, 1) := by decide +kernel
theorem dX9_takeEater_124 : decode cX9_takeEater 124 = .ok (.putfield 130, 3) := by decide +kernel
theorem dX9_takeEater_127 : decode cX9_takeEater 127 = .ok (.aload_n 0, 1) := by decide +kernel
theorem dX9_takeEater_128 : decode cX9_takeEater 128 = .ok (.getfield 52, 3) := by decide +kernel
theorem dX9_takeEater_131 : decode cX9_takeEater 131 = .ok (.iload_n 1, 1) := by decide +kernel
theorem dX9_takeEater_132 : decode cX9_takeEater 132 = .ok (.iaload, 1) := by decide +kernel
theorem dX9_takeEater_133 : decode cX9_takeEater 133 = .ok (.ifCond .le 7, 3) := by decide +kernel
theorem dX9_takeEater_136 : decode cX9_takeEater 136 = .ok (.iconst 1, 1) := by decide +kernel
theorem dX9_takeEater_137 : decode cX9_takeEater 137 = .ok (.goto 4, 3) := by decide +kernel
theorem dX9_takeEater_140 : decode cX9_takeEater 140 = .ok (.iconst 0, 1) := by decide +kernel
theorem dX9_takeEater_141 : decode cX9_takeEater 141 = .ok (.ireturn, 1) := by decide +kernel
theorem dX9_takeText_0 : decode cX9_takeText 0 = .ok (.aload_n 0, 1) := by decide +kernel
theorem dX9_takeText_1 : decode cX9_takeText 1 = .ok (.iconst 0, 1) := by decide +kernel
theorem dX9_takeText_2 : decode cX9_takeText 2 = .ok (.putfield 115, 3) := by decide +kernel
theorem dX9_takeText_5 : decode cX9_takeText 5 = .ok (.aload_n 0, 1) := by decide +kernel
theorem dX9_takeText_6 : decode cX9_takeText 6 = .ok (.iconst 0, 1) := by decide +kernel
theorem dX9_takeText_7 : decode cX9_takeText 7 = .ok (.putfield 130, 3) := by decide +kernel
theorem dX9_takeText_10 : decode cX9_takeText 10 = .ok (.aload_n 0, 1) := by decide +kernel
theorem dX9_takeText_11 : decode cX9_takeText 11 = .ok (.bipush 112, 2) := by decide +kernel
theorem dX9_takeText_13 : decode cX9_takeText 13 = .ok (.bipush 112, 2) := by decide +kernel
theorem dX9_takeText_15 : decode cX9_takeText 15 = .ok (.invokevirtual 124, 3) := by decide +kernel
theorem dX9_takeText_18 : decode cX9_takeText 18 = .ok (.ifCond .ge 5, 3) := by decide +kernel
theorem dX9_takeText_21 : decode cX9_takeText 21 = .ok (.iconst 0, 1) := by decide +kernel
theorem dX9_takeText_22 : decode cX9_takeText 22 = .ok (.ireturn, 1) := by decide +kernel
theorem dX9_takeText_23 : decode cX9_takeText 23 = .ok (.aload_n 0, 1) := by decide +kernel
theorem dX9_takeText_24 : decode cX9_takeText 24 = .ok (.aload_n 0, 1) := by decide +kernel
theorem dX9_takeText_25 : decode cX9_takeText 25 = .ok (.bipush 50, 2) := by decide +kernel
theorem dX9_takeText_27 : decode cX9_takeText 27 = .ok (.bipush 53, 2) := by decide +kernel
theorem dX9_takeText_29 : decode cX9_takeText 29 = .ok (.invokevirtual 124, 3) := by decide +kernel
theorem dX9_takeText_32 : decode cX9_takeText 32 = .ok (.iconst 2, 1) := by decide +kernel
theorem dX9_takeText_33 : decode cX9_takeText 33 = .ok (.iadd, 1) := by decide +kernel
theorem dX9_takeText_34 : decode cX9_takeText 34 = .ok (.putfield 118, 3) := by decide +kernel
theorem dX9_takeText_37 : decode cX9_takeText 37 = .ok (.aload_n 0, 1) := by decide +kernel
theorem dX9_takeText_38 : decode cX9_takeText 38 = .ok (.getfield 118, 3) := by decide +kernel
theorem dX9_takeText_41 : decode cX9_takeText 41 = .ok (.iconst 2, 1) := by decide +kernel
theorem dX9_takeText_42 : decode cX9_takeText 42 = .ok (.if_icmp .ge 5, 3) := by decide +kernel
theorem dX9_takeText_45 : decode cX9_takeText 45 = .ok (.iconst 0, 1) := by decide +kernel
theorem dX9_takeText_46 : decode cX9_takeText 46 = .ok (.ireturn, 1) := by decide +kernel
theorem dX9_takeText_47 : decode cX9_takeText 47 = .ok (.aload_n 0, 1) := by decide +kernel
theorem dX9_takeText_48 : decode cX9_takeText 48 = .ok (.aload_n 0, 1) := by decide +kernel
theorem dX9_takeText_49 : decode cX9_takeText 49 = .ok (.bipush 50, 2) := by decide +kernel
theorem dX9_takeText_51 : decode cX9_takeText 51 = .ok (.bipush 54, 2) := by decide +kernel
theorem dX9_takeText_53 : decode cX9_takeText 53 = .ok (.invokevirtual 124, 3) := by decide +kernel
theorem dX9_takeText_56 : decode cX9_takeText 56 = .ok (.iconst 2, 1) := by decide +kernel
theorem dX9_takeText_57 : decode cX9_takeText 57 = .ok (.iadd, 1) := by decide +kernel
theorem dX9_takeText_58 : decode cX9_takeText 58 = .ok (.putfield 121, 3) := by decide +kernel
theorem dX9_takeText_61 : decode cX9_takeText 61 = .ok (.aload_n 0, 1) := by decide +kernel
theorem dX9_takeText_62 : decode cX9_takeText 62 = .ok (.getfield 121, 3) := by decide +kernel
theorem dX9_takeText_65 : decode cX9_takeText 65 = .ok (.iconst 2, 1) := by decide +kernel
theorem dX9_takeText_66 : decode cX9_takeText 66 = .ok (.if_icmp .lt 17, 3) := by decide +kernel
theorem dX9_takeText_69 : decode cX9_takeText 69 = .ok (.aload_n 0, 1) := by decide +kernel
theorem dX9_takeText_70 : decode cX9_takeText 70 = .ok (.invokevirtual 133, 3) := by decide +kernel
theorem dX9_takeText_73 : decode cX9_takeText 73 = .ok (.ifCond .eq 10, 3) := by decide +kernel
theorem dX9_takeText_76 : decode cX9_takeText 76 = .ok (.aload_n 0, 1) := by decide +kernel
theorem dX9_takeText_77 : decode cX9_takeText 77 = .ok (.invokevirtual 137, 3) := by decide +kernel
theorem dX9_takeText_80 : decode cX9_takeText 80 = .ok (.ifCond .ne 5, 3) := by decide +kernel
theorem dX9_takeText_83 : decode cX9_takeText 83 = .ok (.iconst 0, 1) := by decide +kernel
theorem dX9_takeText_84 : decode cX9_takeText 84 = .ok (.ireturn, 1) := by decide +kernel
theorem dX9_takeText_85 : decode cX9_takeText 85 = .ok (.aload_n 0, 1) := by decide +kernel
theorem dX9_takeText_86 : decode cX9_takeText 86 = .ok (.getfield 109, 3) := by decide +kernel
theorem dX9_takeText_89 : decode cX9_takeText 89 = .ok (.aload_n 0, 1) := by decide +kernel
theorem dX9_takeText_90 : decode cX9_takeText 90 = .ok (.getfield 112, 3) := by decide +kernel
theorem dX9_takeText_93 : decode cX9_takeText 93 = .ok (.if_icmp .eq 21, 3) := by decide +kernel
theorem dX9_takeText_96 : decode cX9_takeText 96 = .ok (.aload_n 0, 1) := by decide +kernel
theorem dX9_takeText_97 : decode cX9_takeText 97 = .ok (.invokevirtual 137, 3) := by decide +kernel
theorem dX9_takeText_100 : decode cX9_takeText 100 = .ok (.ifCond .eq 18, 3) := by decide +kernel
theorem dX9_takeText_103 : decode cX9_takeText 103 = .ok (.aload_n 0, 1) := by decide +kernel
theorem dX9_takeText_104 : decode cX9_takeText 104 = .ok (.getfield 109, 3) := by decide +kernel
theorem dX9_takeText_107 : decode cX9_takeText 107 = .ok (.aload_n 0, 1) := by decide +kernel
theorem dX9_takeText_108 : decode cX9_takeText 108 = .ok (.getfield 112, 3) := by decide +kernel
theorem dX9_takeText_111 : decode cX9_takeText 111 = .ok (.if_icmp .ne 7, 3) := by decide +kernel
theorem dX9_takeText_114 : decode cX9_takeText 114 = .ok (.iconst 1, 1) := by decide +kernel
theorem dX9_takeText_115 : decode cX9_takeText 115 = .ok (.goto 4, 3) := by decide +kernel
theorem dX9_takeText_118 : decode cX9_takeText 118 = .ok (.iconst 0, 1) := by decide +kernel
theorem dX9_takeText_119 : decode cX9_takeText 119 = .ok (.ireturn, 1) := by decide +kernel
theorem dX9_plate_0 : decode cX9_plate 0 = .ok (.iload_n 1, 1) := by decide +kernel
theorem dX9_plate_1 : decode cX9_plate 1 = .ok (.invokestatic 85, 3) := by decide +kernel
theorem dX9_plate_4 : decode cX9_plate 4 = .ok (.ifCond .ne 9, 3) := by decide +kernel
theorem dX9_plate_7 : decode cX9_plate 7 = .ok (.aload_n 0, 1) := by decide +kernel
theorem dX9_plate_8 : decode cX9_plate 8 = .ok (.iconst (-1), 1) := by decide +kernel
theorem dX9_plate_9 : decode cX9_plate 9 = .ok (.invokevirtual 89, 3) := by decide +kernel
theorem dX9_plate_12 : decode cX9_plate 12 = .ok (.ireturn, 1) := by decide +kernel
theorem dX9_plate_13 : decode cX9_plate 13 = .ok (.iload_n 2, 1) := by decide +kernel
theorem dX9_plate_14 : decode cX9_plate 14 = .ok (.invokestatic 93, 3) := by decide +kernel
theorem dX9_plate_17 : decode cX9_plate 17 = .ok (.ifCond .ne 10, 3) := by decide +kernel
theorem dX9_plate_20 : decode cX9_plate 20 = .ok (.aload_n 0, 1) := by decide +kernel
theorem dX9_plate_21 : decode cX9_plate 21 = .ok (.bipush (-2), 2) := by decide +kernel
theorem dX9_plate_23 : decode cX9_plate 23 = .ok (.invokevirtual 89, 3) := by decide +kernel
theorem dX9_plate_26 : decode cX9_plate 26 = .ok (.ireturn, 1) := by decide +kernel
theorem dX9_plate_27 : decode cX9_plate 27 = .ok (.aload_n 0, 1) := by decide +kernel
theorem dX9_plate_28 : decode cX9_plate 28 = .ok (.iload_n 1, 1) := by decide +kernel
theorem dX9_plate_29 : decode cX9_plate 29 = .ok (.iload_n 2, 1) := by decide +kernel
theorem dX9_plate_30 : decode cX9_plate 30 = .ok (.iload_n 3, 1) := by decide +kernel
theorem dX9_plate_31 : decode cX9_plate 31 = .ok (.iload 4, 2) := by decide +kernel
theorem dX9_plate_33 : decode cX9_plate 33 = .ok (.invokevirtual 140, 3) := by decide +kernel
theorem dX9_plate_36 : decode cX9_plate 36 = .ok (.istore 5, 2) := by decide +kernel
theorem dX9_plate_38 : decode cX9_plate 38 = .ok (.iload 5, 2) := by decide +kernel
theorem dX9_plate_40 : decode cX9_plate 40 = .ok (.ifCond .eq 10, 3) := by decide +kernel
theorem dX9_plate_43 : decode cX9_plate 43 = .ok (.aload_n 0, 1) := by decide +kernel
theorem dX9_plate_44 : decode cX9_plate 44 = .ok (.iload 5, 2) := by decide +kernel
theorem dX9_plate_46 : decode cX9_plate 46 = .ok (.invokevirtual 96, 3) := by decide +kernel
theorem dX9_plate_49 : decode cX9_plate 49 = .ok (.ireturn, 1) := by decide +kernel
theorem dX9_plate_50 : decode cX9_plate 50 = .ok (.aload_n 0, 1) := by decide +kernel
theorem dX9_plate_51 : decode cX9_plate 51 = .ok (.iconst 0, 1) := by decide +kernel
theorem dX9_plate_52 : decode cX9_plate 52 = .ok (.putfield 64, 3) := by decide +kernel
theorem dX9_plate_55 : decode cX9_plate 55 = .ok (.aload_n 0, 1) := by decide +kernel
theorem dX9_plate_56 : decode cX9_plate 56 = .ok (.bipush 60, 2) := by decide +kernel
theorem dX9_plate_58 : decode cX9_plate 58 = .ok (.iload_n 1, 1) := by decide +kernel
theorem dX9_plate_59 : decode cX9_plate 59 = .ok (.imul, 1) := by decide +kernel
theorem dX9_plate_60 : decode cX9_plate 60 = .ok (.iload_n 3, 1) := by decide +kernel
theorem dX9_plate_61 : decode cX9_plate 61 = .ok (.iadd, 1) := by decide +kernel
theorem dX9_plate_62 : decode cX9_plate 62 = .ok (.putfield 109, 3) := by decide +kernel
theorem dX9_plate_65 : decode cX9_plate 65 = .ok (.aload_n 0, 1) := by decide +kernel
theorem dX9_plate_66 : decode cX9_plate 66 = .ok (.aload_n 0, 1) := by decide +kernel
theorem dX9_plate_67 : decode cX9_plate 67 = .ok (.getfield 109, 3) := by decide +kernel
theorem dX9_plate_70 : decode cX9_plate 70 = .ok (.iload 4, 2) := by decide +kernel
theorem dX9_plate_72 : decode cX9_plate 72 = .ok (.iadd, 1) := by decide +kernel
theorem dX9_plate_73 : decode cX9_plate 73 = .ok (.putfield 112, 3) := by decide +kernel
theorem dX9_plate_76 : decode cX9_plate 76 = .ok (.aload_n 0, 1) := by decide +kernel
theorem dX9_plate_77 : decode cX9_plate 77 = .ok (.getfield 109, 3) := by decide +kernel
theorem dX9_plate_80 : decode cX9_plate 80 = .ok (.istore 6, 2) := by decide +kernel
theorem dX9_plate_82 : decode cX9_plate 82 = .ok (.aload_n 0, 1) := by decide +kernel
theorem dX9_plate_83 : decode cX9_plate 83 = .ok (.invokevirtual 144, 3) := by decide +kernel
theorem dX9_plate_86 : decode cX9_plate 86 = .ok (.ifCond .ne 14, 3) := by decide +kernel
theorem dX9_plate_89 : decode cX9_plate 89 = .ok (.bipush (-100), 2) := by decide +kernel
theorem dX9_plate_91 : decode cX9_plate 91 = .ok (.aload_n 0, 1) := by decide +kernel
theorem dX9_plate_92 : decode cX9_plate 92 = .ok (.getfield 109, 3) := by decide +kernel
theorem dX9_plate_95 : decode cX9_plate 95 = .ok (.iload 6, 2) := by decide +kernel
theorem dX9_plate_97 : decode cX9_plate 97 = .ok (.isub, 1) := by decide +kernel
theorem dX9_plate_98 : decode cX9_plate 98 = .ok (.isub, 1) := by decide +kernel
theorem dX9_plate_99 : decode cX9_plate 99 = .ok (.ireturn, 1) := by decide +kernel
theorem dX9_plate_100 : decode cX9_plate 100 = .ok (.aload_n 0, 1) := by decide +kernel
theorem dX9_plate_101 : decode cX9_plate 101 = .ok (.aload_n 0, 1) := by decide +kernel
theorem dX9_plate_102 : decode cX9_plate 102 = .ok (.getfield 121, 3) := by decide +kernel
theorem dX9_plate_105 : decode cX9_plate 105 = .ok (.putfield 147, 3) := by decide +kernel
theorem dX9_plate_108 : decode cX9_plate 108 = .ok (.aload_n 0, 1) := by decide +kernel
theorem dX9_plate_109 : decode cX9_plate 109 = .ok (.aload_n 0, 1) := by decide +kernel
theorem dX9_plate_110 : decode cX9_plate 110 = .ok (.getfield 118, 3) := by decide +kernel
theorem dX9_plate_113 : decode cX9_plate 113 = .ok (.aload_n 0, 1) := by decide +kernel
theorem dX9_plate_114 : decode cX9_plate 114 = .ok (.getfield 121, 3) := by decide +kernel
theorem dX9_plate_117 : decode cX9_plate 117 = .ok (.imul, 1) := by decide +kernel
theorem dX9_plate_118 : decode cX9_plate 118 = .ok (.putfield 68, 3) := by decide +kernel
theorem dX9_plate_121 : decode cX9_plate 121 = .ok (.aload_n 0, 1) := by decide +kernel
theorem dX9_plate_122 : decode cX9_plate 122 = .ok (.aload_n 0, 1) := by decide +kernel
theorem dX9_plate_123 : decode cX9_plate 123 = .ok (.getfield 115, 3) := by decide +kernel
theorem dX9_plate_126 : decode cX9_plate 126 = .ok (.putfield 75, 3) := by decide +kernel
theorem dX9_plate_129 : decode cX9_plate 129 = .ok (.aload_n 0, 1) := by decide +kernel
theorem dX9_plate_130 : decode cX9_plate 130 = .ok (.aload_n 0, 1) := by decide +kernel
theorem dX9_plate_131 : decode cX9_plate 131 = .ok (.getfield 130, 3) := by decide +kernel
theorem dX9_plate_134 : decode cX9_plate 134 = .ok (.putfield 78, 3) := by decide +kernel
theorem dX9_plate_137 : decode cX9_plate 137 = .ok (.iconst 0, 1) := by decide +kernel
theorem dX9_plate_138 : decode cX9_plate 138 = .ok (.istore 7, 2) := by decide +kernel
theorem dX9_plate_140 : decode cX9_plate 140 = .ok (.iload 7, 2) := by decide +kernel
theorem dX9_plate_142 : decode cX9_plate 142 = .ok (.bipush 30, 2) := by decide +kernel
theorem dX9_plate_144 : decode cX9_plate 144 = .ok (.if_icmp .ge 23, 3) := by decide +kernel
theorem dX9_plate_147 : decode cX9_plate 147 = .ok (.aload_n 0, 1) := by decide +kernel
theorem dX9_plate_148 : decode cX9_plate 148 = .ok (.getfield 7, 3) := by decide +kernel
theorem dX9_plate_151 : decode cX9_plate 151 = .ok (.iload 7, 2) := by decide +kernel
theorem dX9_plate_153 : decode cX9_plate 153 = .ok (.aload_n 0, 1) := by decide +kernel
theorem dX9_plate_154 : decode cX9_plate 154 = .ok (.getfield 43, 3) := by decide +kernel
theorem dX9_plate_157 : decode cX9_plate 157 = .ok (.iload 7, 2) := by decide +kernel
theorem dX9_plate_159 : decode cX9_plate 159 = .ok (.iaload, 1) := by decide +kernel
theorem dX9_plate_160 : decode cX9_plate 160 = .ok (.iastore, 1) := by decide +kernel
theorem dX9_plate_161 : decode cX9_plate 161 = .ok (.iinc 7 1, 3) := by decide +kernel
theorem dX9_plate_164 : decode cX9_plate 164 = .ok (.goto (-24), 3) := by decide +kernel
theorem dX9_plate_167 : decode cX9_plate 167 = .ok (.iconst 0, 1) := by decide +kernel
theorem dX9_plate_168 : decode cX9_plate 168 = .ok (.istore 7, 2) := by decide +kernel
theorem dX9_plate_170 : decode cX9_plate 170 = .ok (.iload 7, 2) := by decide +kernel
theorem dX9_plate_172 : decode cX9_plate 172 = .ok (.iconst 5, 1) := by decide +kernel
theorem dX9_plate_173 : decode cX9_plate 173 = .ok (.if_icmp .ge 23, 3) := by decide +kernel
theorem dX9_plate_176 : decode cX9_plate 176 = .ok (.aload_n 0, 1) := by decide +kernel
theorem dX9_plate_177 : decode cX9_plate 177 = .ok (.getfield 13, 3) := by decide +kernel
theorem dX9_plate_180 : decode cX9_plate 180 = .ok (.iload 7, 2) := by decide +kernel
theorem dX9_plate_182 : decode cX9_plate 182 = .ok (.aload_n 0, 1) := by decide +kernel
theorem dX9_plate_183 : decode cX9_plate 183 = .ok (.getfield 46, 3) := by decide +kernel
theorem dX9_plate_186 : decode cX9_plate 186 = .ok (.iload 7, 2) := by decide +kernel
theorem dX9_plate_188 : decode cX9_plate 188 = .ok (.iaload, 1) := by decide +kernel
theorem dX9_plate_189 : decode cX9_plate 189 = .ok (.iastore, 1) := by decide +kernel
theorem dX9_plate_190 : decode cX9_plate 190 = .ok (.iinc 7 1, 3) := by decide +kernel
theorem dX9_plate_193 : decode cX9_plate 193 = .ok (.goto (-23), 3) := by decide +kernel
theorem dX9_plate_196 : decode cX9_plate 196 = .ok (.iconst 0, 1) := by decide +kernel
theorem dX9_plate_197 : decode cX9_plate 197 = .ok (.istore 7, 2) := by decide +kernel
theorem dX9_plate_199 : decode cX9_plate 199 = .ok (.iload 7, 2) := by decide +kernel
theorem dX9_plate_201 : decode cX9_plate 201 = .ok (.iconst 2, 1) := by decide +kernel
theorem dX9_plate_202 : decode cX9_plate 202 = .ok (.if_icmp .ge 37, 3) := by decide +kernel
theorem dX9_plate_205 : decode cX9_plate 205 = .ok (.aload_n 0, 1) := by decide +kernel
theorem dX9_plate_206 : decode cX9_plate 206 = .ok (.getfield 16, 3) := by decide +kernel
theorem dX9_plate_209 : decode cX9_plate 209 = .ok (.iload 7, 2) := by decide +kernel
theorem dX9_plate_211 : decode cX9_plate 211 = .ok (.aload_n 0, 1) := by decide +kernel
theorem dX9_plate_212 : decode cX9_plate 212 = .ok (.getfield 49, 3) := by decide +kernel
theorem dX9_plate_215 : decode cX9_plate 215 = .ok (.iload 7, 2) := by decide +kernel
theorem dX9_plate_217 : decode cX9_plate 217 = .ok (.iaload, 1) := by decide +kernel
theorem dX9_plate_218 : decode cX9_plate 218 = .ok (.iastore, 1) := by decide +kernel
theorem dX9_plate_219 : decode cX9_plate 219 = .ok (.aload_n 0, 1) := by decide +kernel
theorem dX9_plate_220 : decode cX9_plate 220 = .ok (.getfield 19, 3) := by decide +kernel
theorem dX9_plate_223 : decode cX9_plate 223 = .ok (.iload 7, 2) := by decide +kernel
theorem dX9_plate_225 : decode cX9_plate 225 = .ok (.aload_n 0, 1) := by decide +kernel
theorem dX9_plate_226 : decode cX9_plate 226 = .ok (.getfield 52, 3) := by decide +kernel
theorem dX9_plate_229 : decode cX9_plate 229 = .ok (.iload 7, 2) := by decide +kernel
theorem dX9_plate_231 : decode cX9_plate 231 = .ok (.iaload, 1) := by decide +kernel
theorem dX9_plate_232 : decode cX9_plate 232 = .ok (.iastore, 1) := by decide +kernel
theorem dX9_plate_233 : decode cX9_plate 233 = .ok (.iinc 7 1, 3) := by decide +kernel
theorem dX9_plate_236 : decode cX9_plate 236 = .ok (.goto (-37), 3) := by decide +kernel
theorem dX9_plate_239 : decode cX9_plate 239 = .ok (.aload_n 0, 1) := by decide +kernel
theorem dX9_plate_240 : decode cX9_plate 240 = .ok (.iconst 0, 1) := by decide +kernel
theorem dX9_plate_241 : decode cX9_plate 241 = .ok (.putfield 150, 3) := by decide +kernel
theorem dX9_plate_244 : decode cX9_plate 244 = .ok (.aload_n 0, 1) := by decide +kernel
theorem dX9_plate_245 : decode cX9_plate 245 = .ok (.iconst 0, 1) := by decide +kernel
theorem dX9_plate_246 : decode cX9_plate 246 = .ok (.putfield 153, 3) := by decide +kernel
theorem dX9_plate_249 : decode cX9_plate 249 = .ok (.aload_n 0, 1) := by decide +kernel
theorem dX9_plate_250 : decode cX9_plate 250 = .ok (.iconst 0, 1) := by decide +kernel
theorem dX9_plate_251 : decode cX9_plate 251 = .ok (.putfield 156, 3) := by decide +kernel
theorem dX9_plate_254 : decode cX9_plate 254 = .ok (.aload_n 0, 1) := by decide +kernel
theorem dX9_plate_255 : decode cX9_plate 255 = .ok (.getfield 75, 3) := by decide +kernel
theorem dX9_plate_258 : decode cX9_plate 258 = .ok (.ireturn, 1) := by decide +kernel
theorem dX9_sign_0 : decode cX9_sign 0 = .ok (.aload_n 0, 1) := by decide +kernel
theorem dX9_sign_1 : decode cX9_sign 1 = .ok (.iload_n 1, 1) := by decide +kernel
theorem dX9_sign_2 : decode cX9_sign 2 = .ok (.invokevirtual 159, 3) := by decide +kernel
theorem dX9_sign_5 : decode cX9_sign 5 = .ok (.ifCond .eq 12, 3) := by decide +kernel
theorem dX9_sign_8 : decode cX9_sign 8 = .ok (.aload_n 0, 1) := by decide +kernel
theorem dX9_sign_9 : decode cX9_sign 9 = .ok (.getfield 7, 3) := by decide +kernel
theorem dX9_sign_12 : decode cX9_sign 12 = .ok (.iload_n 1, 1) := by decide +kernel
theorem dX9_sign_13 : decode cX9_sign 13 = .ok (.iaload, 1) := by decide +kernel
theorem dX9_sign_14 : decode cX9_sign 14 = .ok (.goto 4, 3) := by decide +kernel
theorem dX9_sign_17 : decode cX9_sign 17 = .ok (.iconst (-1), 1) := by decide +kernel
theorem dX9_sign_18 : decode cX9_sign 18 = .ok (.ireturn, 1) := by decide +kernel
theorem dX9_startsAt_0 : decode cX9_startsAt 0 = .ok (.iconst 0, 1) := by decide +kernel
theorem dX9_startsAt_1 : decode cX9_startsAt 1 = .ok (.istore_n 2, 1) := by decide +kernel
theorem dX9_startsAt_2 : decode cX9_startsAt 2 = .ok (.iconst 0, 1) := by decide +kernel
theorem dX9_startsAt_3 : decode cX9_startsAt 3 = .ok (.istore_n 3, 1) := by decide +kernel
theorem dX9_startsAt_4 : decode cX9_startsAt 4 = .ok (.iload_n 3, 1) := by decide +kernel
theorem dX9_startsAt_5 : decode cX9_startsAt 5 = .ok (.aload_n 0, 1) := by decide +kernel
theorem dX9_startsAt_6 : decode cX9_startsAt 6 = .ok (.getfield 75, 3) := by decide +kernel
theorem dX9_startsAt_9 : decode cX9_startsAt 9 = .ok (.if_icmp .ge 29, 3) := by decide +kernel
theorem dX9_startsAt_12 : decode cX9_startsAt 12 = .ok (.iload_n 2, 1) := by decide +kernel
theorem dX9_startsAt_13 : decode cX9_startsAt 13 = .ok (.ifCond .ne 13, 3) := by decide +kernel
theorem dX9_startsAt_16 : decode cX9_startsAt 16 = .ok (.aload_n 0, 1) := by decide +kernel
theorem dX9_startsAt_17 : decode cX9_startsAt 17 = .ok (.getfield 13, 3) := by decide +kernel
theorem dX9_startsAt_20 : decode cX9_startsAt 20 = .ok (.iload_n 3, 1) := by decide +kernel
theorem dX9_startsAt_21 : decode cX9_startsAt 21 = .ok (.iaload, 1) := by decide +kernel
theorem dX9_startsAt_22 : decode cX9_startsAt 22 = .ok (.iload_n 1, 1) := by decide +kernel
theorem dX9_startsAt_23 : decode cX9_startsAt 23 = .ok (.if_icmp .ne 7, 3) := by decide +kernel
theorem dX9_startsAt_26 : decode cX9_startsAt 26 = .ok (.iconst 1, 1) := by decide +kernel
theorem dX9_startsAt_27 : decode cX9_startsAt 27 = .ok (.goto 4, 3) := by decide +kernel
theorem dX9_startsAt_30 : decode cX9_startsAt 30 = .ok (.iconst 0, 1) := by decide +kernel
theorem dX9_startsAt_31 : decode cX9_startsAt 31 = .ok (.istore_n 2, 1) := by decide +kernel
theorem dX9_startsAt_32 : decode cX9_startsAt 32 = .ok (.iinc 3 1, 3) := by decide +kernel
theorem dX9_startsAt_35 : decode cX9_startsAt 35 = .ok (.goto (-31), 3) := by decide +kernel
theorem dX9_startsAt_38 : decode cX9_startsAt 38 = .ok (.iload_n 2, 1) := by decide +kernel
theorem dX9_startsAt_39 : decode cX9_startsAt 39 = .ok (.ireturn, 1) := by decide +kernel
theorem dX9_set_0 : decode cX9_set 0 = .ok (.aload_n 0, 1) := by decide +kernel
theorem dX9_set_1 : decode cX9_set 1 = .ok (.iload_n 1, 1) := by decide +kernel
theorem dX9_set_2 : decode cX9_set 2 = .ok (.invokevirtual 159, 3) := by decide +kernel
theorem dX9_set_5 : decode cX9_set 5 = .ok (.ifCond .ne 5, 3) := by decide +kernel
theorem dX9_set_8 : decode cX9_set 8 = .ok (.iconst (-1), 1) := by decide +kernel
theorem dX9_set_9 : decode cX9_set 9 = .ok (.ireturn, 1) := by decide +kernel
theorem dX9_set_10 : decode cX9_set 10 = .ok (.iload_n 2, 1) := by decide +kernel
theorem dX9_set_11 : decode cX9_set 11 = .ok (.i2l, 1) := by decide +kernel
theorem dX9_set_12 : decode cX9_set 12 = .ok (.lconst 0, 1) := by decide +kernel
theorem dX9_set_13 : decode cX9_set 13 = .ok (.ldc2_w 83, 3) := by decide +kernel
theorem dX9_set_16 : decode cX9_set 16 = .ok (.invokestatic 71, 3) := by decide +kernel
theorem dX9_set_19 : decode cX9_set 19 = .ok (.ifCond .ne 6, 3) := by decide +kernel
theorem dX9_set_22 : decode cX9_set 22 = .ok (.bipush (-2), 2) := by decide +kernel
theorem dX9_set_24 : decode cX9_set 24 = .ok (.ireturn, 1) := by decide +kernel
theorem dX9_set_25 : decode cX9_set 25 = .ok (.iload_n 2, 1) := by decide +kernel
theorem dX9_set_26 : decode cX9_set 26 = .ok (.iconst 2, 1) := by decide +kernel
theorem dX9_set_27 : decode cX9_set 27 = .ok (.if_icmp .ne 14, 3) := by decide +kernel
theorem dX9_set_30 : decode cX9_set 30 = .ok (.aload_n 0, 1) := by decide +kernel
theorem dX9_set_31 : decode cX9_set 31 = .ok (.iload_n 1, 1) := by decide +kernel
theorem dX9_set_32 : decode cX9_set 32 = .ok (.invokevirtual 162, 3) := by decide +kernel
theorem dX9_set_35 : decode cX9_set 35 = .ok (.ifCond .eq 6, 3) := by decide +kernel
theorem dX9_set_38 : decode cX9_set 38 = .ok (.bipush (-3), 2) := by decide +kernel
theorem dX9_set_40 : decode cX9_set 40 = .ok (.ireturn, 1) := by decide +kernel
theorem dX9_set_41 : decode cX9_set 41 = .ok (.aload_n 0, 1) := by decide +kernel
theorem dX9_set_42 : decode cX9_set 42 = .ok (.getfield 7, 3) := by decide +kernel
theorem dX9_set_45 : decode cX9_set 45 = .ok (.iload_n 1, 1) := by decide +kernel
theorem dX9_set_46 : decode cX9_set 46 = .ok (.iaload, 1) := by decide +kernel
theorem dX9_set_47 : decode cX9_set 47 = .ok (.istore_n 3, 1) := by decide +kernel
theorem dX9_set_48 : decode cX9_set 48 = .ok (.aload_n 0, 1) := by decide +kernel
theorem dX9_set_49 : decode cX9_set 49 = .ok (.getfield 7, 3) := by decide +kernel
theorem dX9_set_52 : decode cX9_set 52 = .ok (.iload_n 1, 1) := by decide +kernel
theorem dX9_set_53 : decode cX9_set 53 = .ok (.iload_n 2, 1) := by decide +kernel
theorem dX9_set_54 : decode cX9_set 54 = .ok (.iastore, 1) := by decide +kernel
theorem dX9_set_55 : decode cX9_set 55 = .ok (.iload_n 3, 1) := by decide +kernel
theorem dX9_set_56 : decode cX9_set 56 = .ok (.ireturn, 1) := by decide +kernel
theorem dX9_forceOf_0 : decode cX9_forceOf 0 = .ok (.aload_n 0, 1) := by decide +kernel
theorem dX9_forceOf_1 : decode cX9_forceOf 1 = .ok (.getfield 16, 3) := by decide +kernel
theorem dX9_forceOf_4 : decode cX9_forceOf 4 = .ok (.iload_n 1, 1) := by decide +kernel
theorem dX9_forceOf_5 : decode cX9_forceOf 5 = .ok (.iaload, 1) := by decide +kernel
theorem dX9_forceOf_6 : decode cX9_forceOf 6 = .ok (.ifCond .ne 12, 3) := by decide +kernel
theorem dX9_forceOf_9 : decode cX9_forceOf 9 = .ok (.aload_n 0, 1) := by decide +kernel
theorem dX9_forceOf_10 : decode cX9_forceOf 10 = .ok (.getfield 19, 3) := by decide +kernel
theorem dX9_forceOf_13 : decode cX9_forceOf 13 = .ok (.iload_n 1, 1) := by decide +kernel
theorem dX9_forceOf_14 : decode cX9_forceOf 14 = .ok (.iaload, 1) := by decide +kernel
theorem dX9_forceOf_15 : decode cX9_forceOf 15 = .ok (.goto 34, 3) := by decide +kernel
theorem dX9_forceOf_18 : decode cX9_forceOf 18 = .ok (.aload_n 0, 1) := by decide +kernel
theorem dX9_forceOf_19 : decode cX9_forceOf 19 = .ok (.getfield 16, 3) := by decide +kernel
theorem dX9_forceOf_22 : decode cX9_forceOf 22 = .ok (.iload_n 1, 1) := by decide +kernel
theorem dX9_forceOf_23 : decode cX9_forceOf 23 = .ok (.iaload, 1) := by decide +kernel
theorem dX9_forceOf_24 : decode cX9_forceOf 24 = .ok (.iconst 1, 1) := by decide +kernel
theorem dX9_forceOf_25 : decode cX9_forceOf 25 = .ok (.if_icmp .ne 14, 3) := by decide +kernel
theorem dX9_forceOf_28 : decode cX9_forceOf 28 = .ok (.aload_n 0, 1) := by decide +kernel
theorem dX9_forceOf_29 : decode cX9_forceOf 29 = .ok (.getfield 19, 3) := by decide +kernel
theorem dX9_forceOf_32 : decode cX9_forceOf 32 = .ok (.iload_n 1, 1) := by decide +kernel
theorem dX9_forceOf_33 : decode cX9_forceOf 33 = .ok (.iaload, 1) := by decide +kernel
theorem dX9_forceOf_34 : decode cX9_forceOf 34 = .ok (.iconst 1, 1) := by decide +kernel
theorem dX9_forceOf_35 : decode cX9_forceOf 35 = .ok (.iadd, 1) := by decide +kernel
theorem dX9_forceOf_36 : decode cX9_forceOf 36 = .ok (.goto 13, 3) := by decide +kernel
theorem dX9_forceOf_39 : decode cX9_forceOf 39 = .ok (.iconst 2, 1) := by decide +kernel
theorem dX9_forceOf_40 : decode cX9_forceOf 40 = .ok (.aload_n 0, 1) := by decide +kernel
theorem dX9_forceOf_41 : decode cX9_forceOf 41 = .ok (.getfield 19, 3) := by decide +kernel
theorem dX9_forceOf_44 : decode cX9_forceOf 44 = .ok (.iload_n 1, 1) := by decide +kernel
theorem dX9_forceOf_45 : decode cX9_forceOf 45 = .ok (.iaload, 1) := by decide +kernel
theorem dX9_forceOf_46 : decode cX9_forceOf 46 = .ok (.iconst 1, 1) := by decide +kernel
theorem dX9_forceOf_47 : decode cX9_forceOf 47 = .ok (.iadd, 1) := by decide +kernel
theorem dX9_forceOf_48 : decode cX9_forceOf 48 = .ok (.imul, 1) := by decide +kernel
theorem dX9_forceOf_49 : decode cX9_forceOf 49 = .ok (.ireturn, 1) := by decide +kernel
theorem dX9_ofEater_0 : decode cX9_ofEater 0 = .ok (.aload_n 0, 1) := by decide +kernel
theorem dX9_ofEater_1 : decode cX9_ofEater 1 = .ok (.iload_n 1, 1) := by decide +kernel
theorem dX9_ofEater_2 : decode cX9_ofEater 2 = .ok (.invokevirtual 165, 3) := by decide +kernel
theorem dX9_ofEater_5 : decode cX9_ofEater 5 = .ok (.ifCond .ne 5, 3) := by decide +kernel
theorem dX9_ofEater_8 : decode cX9_ofEater 8 = .ok (.iconst (-1), 1) := by decide +kernel
theorem dX9_ofEater_9 : decode cX9_ofEater 9 = .ok (.ireturn, 1) := by decide +kernel
theorem dX9_ofEater_10 : decode cX9_ofEater 10 = .ok (.iload_n 2, 1) := by decide +kernel
theorem dX9_ofEater_11 : decode cX9_ofEater 11 = .ok (.ifCond .ne 12, 3) := by decide +kernel
theorem dX9_ofEater_14 : decode cX9_ofEater 14 = .ok (.aload_n 0, 1) := by decide +kernel
theorem dX9_ofEater_15 : decode cX9_ofEater 15 = .ok (.getfield 16, 3) := by decide +kernel
theorem dX9_ofEater_18 : decode cX9_ofEater 18 = .ok (.iload_n 1, 1) := by decide +kernel
theorem dX9_ofEater_19 : decode cX9_ofEater 19 = .ok (.iaload, 1) := by decide +kernel
theorem dX9_ofEater_20 : decode cX9_ofEater 20 = .ok (.goto 32, 3) := by decide +kernel
theorem dX9_ofEater_23 : decode cX9_ofEater 23 = .ok (.iload_n 2, 1) := by decide +kernel
theorem dX9_ofEater_24 : decode cX9_ofEater 24 = .ok (.iconst 1, 1) := by decide +kernel
theorem dX9_ofEater_25 : decode cX9_ofEater 25 = .ok (.if_icmp .ne 12, 3) := by decide +kernel
theorem dX9_ofEater_28 : decode cX9_ofEater 28 = .ok (.aload_n 0, 1) := by decide +kernel
theorem dX9_ofEater_29 : decode cX9_ofEater 29 = .ok (.getfield 19, 3) := by decide +kernel
theorem dX9_ofEater_32 : decode cX9_ofEater 32 = .ok (.iload_n 1, 1) := by decide +kernel
theorem dX9_ofEater_33 : decode cX9_ofEater 33 = .ok (.iaload, 1) := by decide +kernel
theorem dX9_ofEater_34 : decode cX9_ofEater 34 = .ok (.goto 18, 3) := by decide +kernel
theorem dX9_ofEater_37 : decode cX9_ofEater 37 = .ok (.iload_n 2, 1) := by decide +kernel
theorem dX9_ofEater_38 : decode cX9_ofEater 38 = .ok (.iconst 2, 1) := by decide +kernel
theorem dX9_ofEater_39 : decode cX9_ofEater 39 = .ok (.if_icmp .ne 11, 3) := by decide +kernel
theorem dX9_ofEater_42 : decode cX9_ofEater 42 = .ok (.aload_n 0, 1) := by decide +kernel
theorem dX9_ofEater_43 : decode cX9_ofEater 43 = .ok (.iload_n 1, 1) := by decide +kernel
theorem dX9_ofEater_44 : decode cX9_ofEater 44 = .ok (.invokevirtual 168, 3) := by decide +kernel
theorem dX9_ofEater_47 : decode cX9_ofEater 47 = .ok (.goto 5, 3) := by decide +kernel
theorem dX9_ofEater_50 : decode cX9_ofEater 50 = .ok (.bipush (-2), 2) := by decide +kernel
theorem dX9_ofEater_52 : decode cX9_ofEater 52 = .ok (.ireturn, 1) := by decide +kernel
theorem dX9_law_0 : decode cX9_law 0 = .ok (.iload_n 1, 1) := by decide +kernel
theorem dX9_law_1 : decode cX9_law 1 = .ok (.i2l, 1) := by decide +kernel
theorem dX9_law_2 : decode cX9_law 2 = .ok (.lconst 0, 1) := by decide +kernel
theorem dX9_law_3 : decode cX9_law 3 = .ok (.ldc2_w 83, 3) := by decide +kernel
theorem dX9_law_6 : decode cX9_law 6 = .ok (.invokestatic 71, 3) := by decide +kernel
theorem dX9_law_9 : decode cX9_law 9 = .ok (.ifCond .ne 6, 3) := by decide +kernel
theorem dX9_law_12 : decode cX9_law 12 = .ok (.bipush (-2), 2) := by decide +kernel
theorem dX9_law_14 : decode cX9_law 14 = .ok (.ireturn, 1) := by decide +kernel
theorem dX9_law_15 : decode cX9_law 15 = .ok (.aload_n 0, 1) := by decide +kernel
theorem dX9_law_16 : decode cX9_law 16 = .ok (.getfield 68, 3) := by decide +kernel
theorem dX9_law_19 : decode cX9_law 19 = .ok (.ifCond .ne 6, 3) := by decide +kernel
theorem dX9_law_22 : decode cX9_law 22 = .ok (.bipush (-3), 2) := by decide +kernel
theorem dX9_law_24 : decode cX9_law 24 = .ok (.ireturn, 1) := by decide +kernel
theorem dX9_law_25 : decode cX9_law 25 = .ok (.aload_n 0, 1) := by decide +kernel
theorem dX9_law_26 : decode cX9_law 26 = .ok (.getfield 150, 3) := by decide +kernel
theorem dX9_law_29 : decode cX9_law 29 = .ok (.istore_n 2, 1) := by decide +kernel
theorem dX9_law_30 : decode cX9_law 30 = .ok (.aload_n 0, 1) := by decide +kernel
theorem dX9_law_31 : decode cX9_law 31 = .ok (.iload_n 1, 1) := by decide +kernel
theorem dX9_law_32 : decode cX9_law 32 = .ok (.putfield 150, 3) := by decide +kernel
theorem dX9_law_35 : decode cX9_law 35 = .ok (.iload_n 2, 1) := by decide +kernel
theorem dX9_law_36 : decode cX9_law 36 = .ok (.ireturn, 1) := by decide +kernel
theorem dX9_next_0 : decode cX9_next 0 = .ok (.iload_n 1, 1) := by decide +kernel
theorem dX9_next_1 : decode cX9_next 1 = .ok (.aload_n 0, 1) := by decide +kernel
theorem dX9_next_2 : decode cX9_next 2 = .ok (.getfield 147, 3) := by decide +kernel
theorem dX9_next_5 : decode cX9_next 5 = .ok (.irem, 1) := by decide +kernel
theorem dX9_next_6 : decode cX9_next 6 = .ok (.iload_n 2, 1) := by decide +kernel
theorem dX9_next_7 : decode cX9_next 7 = .ok (.iconst 1, 1) := by decide +kernel
theorem dX9_next_8 : decode cX9_next 8 = .ok (.if_icmp .ne 7, 3) := by decide +kernel
theorem dX9_next_11 : decode cX9_next 11 = .ok (.iconst 1, 1) := by decide +kernel
theorem dX9_next_12 : decode cX9_next 12 = .ok (.goto 13, 3) := by decide +kernel
theorem dX9_next_15 : decode cX9_next 15 = .ok (.iload_n 2, 1) := by decide +kernel
theorem dX9_next_16 : decode cX9_next 16 = .ok (.iconst 3, 1) := by decide +kernel
theorem dX9_next_17 : decode cX9_next 17 = .ok (.if_icmp .ne 7, 3) := by decide +kernel
theorem dX9_next_20 : decode cX9_next 20 = .ok (.iconst (-1), 1) := by decide +kernel
theorem dX9_next_21 : decode cX9_next 21 = .ok (.goto 4, 3) := by decide +kernel
theorem dX9_next_24 : decode cX9_next 24 = .ok (.iconst 0, 1) := by decide +kernel
theorem dX9_next_25 : decode cX9_next 25 = .ok (.iadd, 1) := by decide +kernel
theorem dX9_next_26 : decode cX9_next 26 = .ok (.istore_n 3, 1) := by decide +kernel
theorem dX9_next_27 : decode cX9_next 27 = .ok (.iload_n 1, 1) := by decide +kernel
theorem dX9_next_28 : decode cX9_next 28 = .ok (.iload_n 2, 1) := by decide +kernel
theorem dX9_next_29 : decode cX9_next 29 = .ok (.ifCond .ne 11, 3) := by decide +kernel
theorem dX9_next_32 : decode cX9_next 32 = .ok (.aload_n 0, 1) := by decide +kernel
theorem dX9_next_33 : decode cX9_next 33 = .ok (.getfield 147, 3) := by decide +kernel
theorem dX9_next_36 : decode cX9_next 36 = .ok (.ineg, 1) := by decide +kernel
theorem dX9_next_37 : decode cX9_next 37 = .ok (.goto 25, 3) := by decide +kernel
theorem dX9_next_40 : decode cX9_next 40 = .ok (.iload_n 2, 1) := by decide +kernel
theorem dX9_next_41 : decode cX9_next 41 = .ok (.iconst 2, 1) := by decide +kernel
theorem dX9_next_42 : decode cX9_next 42 = .ok (.if_icmp .ne 10, 3) := by decide +kernel
theorem dX9_next_45 : decode cX9_next 45 = .ok (.aload_n 0, 1) := by decide +kernel
theorem dX9_next_46 : decode cX9_next 46 = .ok (.getfield 147, 3) := by decide +kernel
theorem dX9_next_49 : decode cX9_next 49 = .ok (.goto 13, 3) := by decide +kernel
theorem dX9_next_52 : decode cX9_next 52 = .ok (.iload_n 2, 1) := by decide +kernel
theorem dX9_next_53 : decode cX9_next 53 = .ok (.iconst 1, 1) := by decide +kernel
theorem dX9_next_54 : decode cX9_next 54 = .ok (.if_icmp .ne 7, 3) := by decide +kernel
theorem dX9_next_57 : decode cX9_next 57 = .ok (.iconst 1, 1) := by decide +kernel
theorem dX9_next_58 : decode cX9_next 58 = .ok (.goto 4, 3) := by decide +kernel
theorem dX9_next_61 : decode cX9_next 61 = .ok (.iconst (-1), 1) := by decide +kernel
theorem dX9_next_62 : decode cX9_next 62 = .ok (.iadd, 1) := by decide +kernel
theorem dX9_next_63 : decode cX9_next 63 = .ok (.istore 4, 2) := by decide +kernel
theorem dX9_next_65 : decode cX9_next 65 = .ok (.iload_n 3, 1) := by decide +kernel
theorem dX9_next_66 : decode cX9_next 66 = .ok (.i2l, 1) := by decide +kernel
theorem dX9_next_67 : decode cX9_next 67 = .ok (.lconst 0, 1) := by decide +kernel
theorem dX9_next_68 : decode cX9_next 68 = .ok (.aload_n 0, 1) := by decide +kernel
theorem dX9_next_69 : decode cX9_next 69 = .ok (.getfield 147, 3) := by decide +kernel
theorem dX9_next_72 : decode cX9_next 72 = .ok (.iconst 1, 1) := by decide +kernel
theorem dX9_next_73 : decode cX9_next 73 = .ok (.isub, 1) := by decide +kernel
theorem dX9_next_74 : decode cX9_next 74 = .ok (.i2l, 1) := by decide +kernel
theorem dX9_next_75 : decode cX9_next 75 = .ok (.invokestatic 71, 3) := by decide +kernel
theorem dX9_next_78 : decode cX9_next 78 = .ok (.ifCond .eq 17, 3) := by decide +kernel
theorem dX9_next_81 : decode cX9_next 81 = .ok (.aload_n 0, 1) := by decide +kernel
theorem dX9_next_82 : decode cX9_next 82 = .ok (.iload 4, 2) := by decide +kernel
theorem dX9_next_84 : decode cX9_next 84 = .ok (.invokevirtual 159, 3) := by decide +kernel
theorem dX9_next_87 : decode cX9_next 87 = .ok (.ifCond .eq 8, 3) := by decide +kernel
theorem dX9_next_90 : decode cX9_next 90 = .ok (.iload 4, 2) := by decide +kernel
theorem dX9_next_92 : decode cX9_next 92 = .ok (.goto 4, 3) := by decide +kernel
theorem dX9_next_95 : decode cX9_next 95 = .ok (.iconst (-1), 1) := by decide +kernel
theorem dX9_next_96 : decode cX9_next 96 = .ok (.ireturn, 1) := by decide +kernel
theorem dX9_peaAt_0 : decode cX9_peaAt 0 = .ok (.iconst 0, 1) := by decide +kernel
theorem dX9_peaAt_1 : decode cX9_peaAt 1 = .ok (.istore_n 2, 1) := by decide +kernel
theorem dX9_peaAt_2 : decode cX9_peaAt 2 = .ok (.iload_n 2, 1) := by decide +kernel
theorem dX9_peaAt_3 : decode cX9_peaAt 3 = .ok (.aload_n 0, 1) := by decide +kernel
theorem dX9_peaAt_4 : decode cX9_peaAt 4 = .ok (.getfield 75, 3) := by decide +kernel
theorem dX9_peaAt_7 : decode cX9_peaAt 7 = .ok (.if_icmp .ge 21, 3) := by decide +kernel
theorem dX9_peaAt_10 : decode cX9_peaAt 10 = .ok (.aload_n 0, 1) := by decide +kernel
theorem dX9_peaAt_11 : decode cX9_peaAt 11 = .ok (.getfield 55, 3) := by decide +kernel
theorem dX9_peaAt_14 : decode cX9_peaAt 14 = .ok (.iload_n 2, 1) := by decide +kernel
theorem dX9_peaAt_15 : decode cX9_peaAt 15 = .ok (.iaload, 1) := by decide +kernel
theorem dX9_peaAt_16 : decode cX9_peaAt 16 = .ok (.iload_n 1, 1) := by decide +kernel
theorem dX9_peaAt_17 : decode cX9_peaAt 17 = .ok (.if_icmp .ne 5, 3) := by decide +kernel
theorem dX9_peaAt_20 : decode cX9_peaAt 20 = .ok (.iload_n 2, 1) := by decide +kernel
theorem dX9_peaAt_21 : decode cX9_peaAt 21 = .ok (.ireturn, 1) := by decide +kernel
theorem dX9_peaAt_22 : decode cX9_peaAt 22 = .ok (.iinc 2 1, 3) := by decide +kernel
theorem dX9_peaAt_25 : decode cX9_peaAt 25 = .ok (.goto (-23), 3) := by decide +kernel
theorem dX9_peaAt_28 : decode cX9_peaAt 28 = .ok (.iconst (-1), 1) := by decide +kernel
theorem dX9_peaAt_29 : decode cX9_peaAt 29 = .ok (.ireturn, 1) := by decide +kernel
theorem dX9_isHeld_0 : decode cX9_isHeld 0 = .ok (.iload_n 1, 1) := by decide +kernel
theorem dX9_isHeld_1 : decode cX9_isHeld 1 = .ok (.istore_n 3, 1) := by decide +kernel
theorem dX9_isHeld_2 : decode cX9_isHeld 2 = .ok (.iload_n 3, 1) := by decide +kernel
theorem dX9_isHeld_3 : decode cX9_isHeld 3 = .ok (.ifCond .lt 58, 3) := by decide +kernel
theorem dX9_isHeld_6 : decode cX9_isHeld 6 = .ok (.aload_n 0, 1) := by decide +kernel
theorem dX9_isHeld_7 : decode cX9_isHeld 7 = .ok (.aload_n 0, 1) := by decide +kernel
theorem dX9_isHeld_8 : decode cX9_isHeld 8 = .ok (.getfield 55, 3) := by decide +kernel
theorem dX9_isHeld_11 : decode cX9_isHeld 11 = .ok (.iload_n 3, 1) := by decide +kernel
theorem dX9_isHeld_12 : decode cX9_isHeld 12 = .ok (.iaload, 1) := by decide +kernel
theorem dX9_isHeld_13 : decode cX9_isHeld 13 = .ok (.iload_n 2, 1) := by decide +kernel
theorem dX9_isHeld_14 : decode cX9_isHeld 14 = .ok (.invokevirtual 171, 3) := by decide +kernel
theorem dX9_isHeld_17 : decode cX9_isHeld 17 = .ok (.istore 4, 2) := by decide +kernel
theorem dX9_isHeld_19 : decode cX9_isHeld 19 = .ok (.iload 4, 2) := by decide +kernel
theorem dX9_isHeld_21 : decode cX9_isHeld 21 = .ok (.ifCond .ge 17, 3) := by decide +kernel
theorem dX9_isHeld_24 : decode cX9_isHeld 24 = .ok (.aload_n 0, 1) := by decide +kernel
theorem dX9_isHeld_25 : decode cX9_isHeld 25 = .ok (.getfield 150, 3) := by decide +kernel
theorem dX9_isHeld_28 : decode cX9_isHeld 28 = .ok (.iconst 2, 1) := by decide +kernel
theorem dX9_isHeld_29 : decode cX9_isHeld 29 = .ok (.if_icmp .ne 7, 3) := by decide +kernel
theorem dX9_isHeld_32 : decode cX9_isHeld 32 = .ok (.iconst 1, 1) := by decide +kernel
theorem dX9_isHeld_33 : decode cX9_isHeld 33 = .ok (.goto 4, 3) := by decide +kernel
theorem dX9_isHeld_36 : decode cX9_isHeld 36 = .ok (.iconst 0, 1) := by decide +kernel
theorem dX9_isHeld_37 : decode cX9_isHeld 37 = .ok (.ireturn, 1) := by decide +kernel
theorem dX9_isHeld_38 : decode cX9_isHeld 38 = .ok (.aload_n 0, 1) := by decide +kernel
theorem dX9_isHeld_39 : decode cX9_isHeld 39 = .ok (.getfield 7, 3) := by decide +kernel
theorem dX9_isHeld_42 : decode cX9_isHeld 42 = .ok (.iload 4, 2) := by decide +kernel
theorem dX9_isHeld_44 : decode cX9_isHeld 44 = .ok (.iaload, 1) := by decide +kernel
theorem dX9_isHeld_45 : decode cX9_isHeld 45 = .ok (.iconst 2, 1) := by decide +kernel
theorem dX9_isHeld_46 : decode cX9_isHeld 46 = .ok (.if_icmp .ne 5, 3) := by decide +kernel
theorem dX9_isHeld_49 : decode cX9_isHeld 49 = .ok (.iconst 1, 1) := by decide +kernel
theorem dX9_isHeld_50 : decode cX9_isHeld 50 = .ok (.ireturn, 1) := by decide +kernel
theorem dX9_isHeld_51 : decode cX9_isHeld 51 = .ok (.aload_n 0, 1) := by decide +kernel
theorem dX9_isHeld_52 : decode cX9_isHeld 52 = .ok (.iload 4, 2) := by decide +kernel
theorem dX9_isHeld_54 : decode cX9_isHeld 54 = .ok (.invokevirtual 174, 3) := by decide +kernel
theorem dX9_isHeld_57 : decode cX9_isHeld 57 = .ok (.istore_n 3, 1) := by decide +kernel
theorem dX9_isHeld_58 : decode cX9_isHeld 58 = .ok (.goto (-56), 3) := by decide +kernel
theorem dX9_isHeld_61 : decode cX9_isHeld 61 = .ok (.iconst 0, 1) := by decide +kernel
theorem dX9_isHeld_62 : decode cX9_isHeld 62 = .ok (.ireturn, 1) := by decide +kernel
theorem dX9_roll_0 : decode cX9_roll 0 = .ok (.iload_n 1, 1) := by decide +kernel
theorem dX9_roll_1 : decode cX9_roll 1 = .ok (.istore 4, 2) := by decide +kernel
theorem dX9_roll_3 : decode cX9_roll 3 = .ok (.iload_n 2, 1) := by decide +kernel
theorem dX9_roll_4 : decode cX9_roll 4 = .ok (.istore 5, 2) := by decide +kernel
theorem dX9_roll_6 : decode cX9_roll 6 = .ok (.iload_n 3, 1) := by decide +kernel
theorem dX9_roll_7 : decode cX9_roll 7 = .ok (.istore 6, 2) := by decide +kernel
theorem dX9_roll_9 : decode cX9_roll 9 = .ok (.iload 5, 2) := by decide +kernel
theorem dX9_roll_11 : decode cX9_roll 11 = .ok (.ifCond .le 155, 3) := by decide +kernel
theorem dX9_roll_14 : decode cX9_roll 14 = .ok (.aload_n 0, 1) := by decide +kernel
theorem dX9_roll_15 : decode cX9_roll 15 = .ok (.aload_n 0, 1) := by decide +kernel
theorem dX9_roll_16 : decode cX9_roll 16 = .ok (.getfield 55, 3) := by decide +kernel
theorem dX9_roll_19 : decode cX9_roll 19 = .ok (.iload 4, 2) := by decide +kernel
theorem dX9_roll_21 : decode cX9_roll 21 = .ok (.iaload, 1) := by decide +kernel
theorem dX9_roll_22 : decode cX9_roll 22 = .ok (.iload 6, 2) := by decide +kernel
theorem dX9_roll_24 : decode cX9_roll 24 = .ok (.invokevirtual 171, 3) := by decide +kernel
theorem dX9_roll_27 : decode cX9_roll 27 = .ok (.istore 7, 2) := by decide +kernel
theorem dX9_roll_29 : decode cX9_roll 29 = .ok (.iload 7, 2) := by decide +kernel
theorem dX9_roll_31 : decode cX9_roll 31 = .ok (.ifCond .ge 24, 3) := by decide +kernel
theorem dX9_roll_34 : decode cX9_roll 34 = .ok (.aload_n 0, 1) := by decide +kernel
theorem dX9_roll_35 : decode cX9_roll 35 = .ok (.getfield 150, 3) := by decide +kernel
theorem dX9_roll_38 : decode cX9_roll 38 = .ok (.ifCond .ne 17, 3) := by decide +kernel
theorem dX9_roll_41 : decode cX9_roll 41 = .ok (.iload 6, 2) := by decide +kernel
theorem dX9_roll_43 : decode cX9_roll 43 = .ok (.iconst 2, 1) := by decide +kernel
theorem dX9_roll_44 : decode cX9_roll 44 = .ok (.iadd, 1) := by decide +kernel
theorem dX9_roll_45 : decode cX9_roll 45 = .ok (.iconst 4, 1) := by decide +kernel
theorem dX9_roll_46 : decode cX9_roll 46 = .ok (.irem, 1) := by decide +kernel
theorem dX9_roll_47 : decode cX9_roll 47 = .ok (.istore 6, 2) := by decide +kernel
theorem dX9_roll_49 : decode cX9_roll 49 = .ok (.iinc 5 (-1), 3) := by decide +kernel
theorem dX9_roll_52 : decode cX9_roll 52 = .ok (.goto 111, 3) := by decide +kernel
theorem dX9_roll_55 : decode cX9_roll 55 = .ok (.iload 7, 2) := by decide +kernel
theorem dX9_roll_57 : decode cX9_roll 57 = .ok (.ifCond .ge 36, 3) := by decide +kernel
theorem dX9_roll_60 : decode cX9_roll 60 = .ok (.aload_n 0, 1) := by decide +kernel
theorem dX9_roll_61 : decode cX9_roll 61 = .ok (.getfield 55, 3) := by decide +kernel
theorem dX9_roll_64 : decode cX9_roll 64 = .ok (.iload 4, 2) := by decide +kernel
theorem dX9_roll_66 : decode cX9_roll 66 = .ok (.aload_n 0, 1) := by decide +kernel
theorem dX9_roll_67 : decode cX9_roll 67 = .ok (.getfield 150, 3) := by decide +kernel
theorem dX9_roll_70 : decode cX9_roll 70 = .ok (.iconst 1, 1) := by decide +kernel
theorem dX9_roll_71 : decode cX9_roll 71 = .ok (.if_icmp .ne 8, 3) := by decide +kernel
theorem dX9_roll_74 : decode cX9_roll 74 = .ok (.bipush (-2), 2) := by decide +kernel
theorem dX9_roll_76 : decode cX9_roll 76 = .ok (.goto 10, 3) := by decide +kernel
theorem dX9_roll_79 : decode cX9_roll 79 = .ok (.aload_n 0, 1) := by decide +kernel
theorem dX9_roll_80 : decode cX9_roll 80 = .ok (.getfield 55, 3) := by decide +kernel
theorem dX9_roll_83 : decode cX9_roll 83 = .ok (.iload 4, 2) := by decide +kernel
theorem dX9_roll_85 : decode cX9_roll 85 = .ok (.iaload, 1) := by decide +kernel
theorem dX9_roll_86 : decode cX9_roll 86 = .ok (.iastore, 1) := by decide +kernel
theorem dX9_roll_87 : decode cX9_roll 87 = .ok (.iconst 0, 1) := by decide +kernel
theorem dX9_roll_88 : decode cX9_roll 88 = .ok (.istore 5, 2) := by decide +kernel
theorem dX9_roll_90 : decode cX9_roll 90 = .ok (.goto 73, 3) := by decide +kernel
theorem dX9_roll_93 : decode cX9_roll 93 = .ok (.aload_n 0, 1) := by decide +kernel
theorem dX9_roll_94 : decode cX9_roll 94 = .ok (.getfield 7, 3) := by decide +kernel
theorem dX9_roll_97 : decode cX9_roll 97 = .ok (.iload 7, 2) := by decide +kernel
theorem dX9_roll_99 : decode cX9_roll 99 = .ok (.iaload, 1) := by decide +kernel
theorem dX9_roll_100 : decode cX9_roll 100 = .ok (.iconst 2, 1) := by decide +kernel
theorem dX9_roll_101 : decode cX9_roll 101 = .ok (.if_icmp .ne 9, 3) := by decide +kernel
theorem dX9_roll_104 : decode cX9_roll 104 = .ok (.iconst 0, 1) := by decide +kernel
theorem dX9_roll_105 : decode cX9_roll 105 = .ok (.istore 5, 2) := by decide +kernel
theorem dX9_roll_107 : decode cX9_roll 107 = .ok (.goto 56, 3) := by decide +kernel
theorem dX9_roll_110 : decode cX9_roll 110 = .ok (.aload_n 0, 1) := by decide +kernel
theorem dX9_roll_111 : decode cX9_roll 111 = .ok (.iload 7, 2) := by decide +kernel
theorem dX9_roll_113 : decode cX9_roll 113 = .ok (.invokevirtual 174, 3) := by decide +kernel
theorem dX9_roll_116 : decode cX9_roll 116 = .ok (.ifCond .lt 17, 3) := by decide +kernel
theorem dX9_roll_119 : decode cX9_roll 119 = .ok (.aload_n 0, 1) := by decide +kernel
theorem dX9_roll_120 : decode cX9_roll 120 = .ok (.iload 7, 2) := by decide +kernel
theorem dX9_roll_122 : decode cX9_roll 122 = .ok (.invokevirtual 174, 3) := by decide +kernel
theorem dX9_roll_125 : decode cX9_roll 125 = .ok (.istore 4, 2) := by decide +kernel
theorem dX9_roll_127 : decode cX9_roll 127 = .ok (.iinc 5 (-1), 3) := by decide +kernel
theorem dX9_roll_130 : decode cX9_roll 130 = .ok (.goto 33, 3) := by decide +kernel
theorem dX9_roll_133 : decode cX9_roll 133 = .ok (.aload_n 0, 1) := by decide +kernel
theorem dX9_roll_134 : decode cX9_roll 134 = .ok (.getfield 55, 3) := by decide +kernel
theorem dX9_roll_137 : decode cX9_roll 137 = .ok (.iload 4, 2) := by decide +kernel
theorem dX9_roll_139 : decode cX9_roll 139 = .ok (.iload 7, 2) := by decide +kernel
theorem dX9_roll_141 : decode cX9_roll 141 = .ok (.iastore, 1) := by decide +kernel
theorem dX9_roll_142 : decode cX9_roll 142 = .ok (.aload_n 0, 1) := by decide +kernel
theorem dX9_roll_143 : decode cX9_roll 143 = .ok (.getfield 7, 3) := by decide +kernel
theorem dX9_roll_146 : decode cX9_roll 146 = .ok (.iload 7, 2) := by decide +kernel
theorem dX9_roll_148 : decode cX9_roll 148 = .ok (.iaload, 1) := by decide +kernel
theorem dX9_roll_149 : decode cX9_roll 149 = .ok (.iconst 1, 1) := by decide +kernel
theorem dX9_roll_150 : decode cX9_roll 150 = .ok (.if_icmp .ne 7, 3) := by decide +kernel
theorem dX9_roll_153 : decode cX9_roll 153 = .ok (.iconst 0, 1) := by decide +kernel
theorem dX9_roll_154 : decode cX9_roll 154 = .ok (.goto 7, 3) := by decide +kernel
theorem dX9_roll_157 : decode cX9_roll 157 = .ok (.iload 5, 2) := by decide +kernel
theorem dX9_roll_159 : decode cX9_roll 159 = .ok (.iconst 1, 1) := by decide +kernel
theorem dX9_roll_160 : decode cX9_roll 160 = .ok (.isub, 1) := by decide +kernel
theorem dX9_roll_161 : decode cX9_roll 161 = .ok (.istore 5, 2) := by decide +kernel
theorem dX9_roll_163 : decode cX9_roll 163 = .ok (.goto (-154), 3) := by decide +kernel
theorem dX9_roll_166 : decode cX9_roll 166 = .ok (.return_, 1) := by decide +kernel
theorem dX9_eaterOf_0 : decode cX9_eaterOf 0 = .ok (.iload_n 0, 1) := by decide +kernel
theorem dX9_eaterOf_1 : decode cX9_eaterOf 1 = .ok (.bipush 100, 2) := by decide +kernel
theorem dX9_eaterOf_3 : decode cX9_eaterOf 3 = .ok (.idiv, 1) := by decide +kernel
theorem dX9_eaterOf_4 : decode cX9_eaterOf 4 = .ok (.ireturn, 1) := by decide +kernel
theorem dX9_peaOf_0 : decode cX9_peaOf 0 = .ok (.iload_n 0, 1) := by decide +kernel
theorem dX9_peaOf_1 : decode cX9_peaOf 1 = .ok (.bipush 10, 2) := by decide +kernel
theorem dX9_peaOf_3 : decode cX9_peaOf 3 = .ok (.idiv, 1) := by decide +kernel
theorem dX9_peaOf_4 : decode cX9_peaOf 4 = .ok (.bipush 10, 2) := by decide +kernel
theorem dX9_peaOf_6 : decode cX9_peaOf 6 = .ok (.irem, 1) := by decide +kernel
theorem dX9_peaOf_7 : decode cX9_peaOf 7 = .ok (.ireturn, 1) := by decide +kernel
theorem dX9_doPush_0 : decode cX9_doPush 0 = .ok (.iload_n 1, 1) := by decide +kernel
theorem dX9_doPush_1 : decode cX9_doPush 1 = .ok (.invokestatic 177, 3) := by decide +kernel
theorem dX9_doPush_4 : decode cX9_doPush 4 = .ok (.istore_n 2, 1) := by decide +kernel
theorem dX9_doPush_5 : decode cX9_doPush 5 = .ok (.iload_n 1, 1) := by decide +kernel
theorem dX9_doPush_6 : decode cX9_doPush 6 = .ok (.bipush 10, 2) := by decide +kernel
theorem dX9_doPush_8 : decode cX9_doPush 8 = .ok (.irem, 1) := by decide +kernel
theorem dX9_doPush_9 : decode cX9_doPush 9 = .ok (.istore_n 3, 1) := by decide +kernel
theorem dX9_doPush_10 : decode cX9_doPush 10 = .ok (.aload_n 0, 1) := by decide +kernel
theorem dX9_doPush_11 : decode cX9_doPush 11 = .ok (.getfield 55, 3) := by decide +kernel
theorem dX9_doPush_14 : decode cX9_doPush 14 = .ok (.iload_n 2, 1) := by decide +kernel
theorem dX9_doPush_15 : decode cX9_doPush 15 = .ok (.iaload, 1) := by decide +kernel
theorem dX9_doPush_16 : decode cX9_doPush 16 = .ok (.ifCond .lt 36, 3) := by decide +kernel
theorem dX9_doPush_19 : decode cX9_doPush 19 = .ok (.aload_n 0, 1) := by decide +kernel
theorem dX9_doPush_20 : decode cX9_doPush 20 = .ok (.iload_n 2, 1) := by decide +kernel
theorem dX9_doPush_21 : decode cX9_doPush 21 = .ok (.iload_n 3, 1) := by decide +kernel
theorem dX9_doPush_22 : decode cX9_doPush 22 = .ok (.invokevirtual 180, 3) := by decide +kernel
theorem dX9_doPush_25 : decode cX9_doPush 25 = .ok (.ifCond .eq 13, 3) := by decide +kernel
theorem dX9_doPush_28 : decode cX9_doPush 28 = .ok (.aload_n 0, 1) := by decide +kernel
theorem dX9_doPush_29 : decode cX9_doPush 29 = .ok (.getfield 55, 3) := by decide +kernel
theorem dX9_doPush_32 : decode cX9_doPush 32 = .ok (.iload_n 2, 1) := by decide +kernel
theorem dX9_doPush_33 : decode cX9_doPush 33 = .ok (.iconst (-1), 1) := by decide +kernel
theorem dX9_doPush_34 : decode cX9_doPush 34 = .ok (.iastore, 1) := by decide +kernel
theorem dX9_doPush_35 : decode cX9_doPush 35 = .ok (.goto 17, 3) := by decide +kernel
theorem dX9_doPush_38 : decode cX9_doPush 38 = .ok (.aload_n 0, 1) := by decide +kernel
theorem dX9_doPush_39 : decode cX9_doPush 39 = .ok (.iload_n 2, 1) := by decide +kernel
theorem dX9_doPush_40 : decode cX9_doPush 40 = .ok (.aload_n 0, 1) := by decide +kernel
theorem dX9_doPush_41 : decode cX9_doPush 41 = .ok (.iload_n 1, 1) := by decide +kernel
theorem dX9_doPush_42 : decode cX9_doPush 42 = .ok (.invokestatic 184, 3) := by decide +kernel
theorem dX9_doPush_45 : decode cX9_doPush 45 = .ok (.invokevirtual 168, 3) := by decide +kernel
theorem dX9_doPush_48 : decode cX9_doPush 48 = .ok (.iload_n 3, 1) := by decide +kernel
theorem dX9_doPush_49 : decode cX9_doPush 49 = .ok (.invokevirtual 187, 3) := by decide +kernel
theorem dX9_doPush_52 : decode cX9_doPush 52 = .ok (.return_, 1) := by decide +kernel
theorem dX9_goThrough_0 : decode cX9_goThrough 0 = .ok (.iconst 0, 1) := by decide +kernel
theorem dX9_goThrough_1 : decode cX9_goThrough 1 = .ok (.istore_n 2, 1) := by decide +kernel
theorem dX9_goThrough_2 : decode cX9_goThrough 2 = .ok (.iload_n 2, 1) := by decide +kernel
theorem dX9_goThrough_3 : decode cX9_goThrough 3 = .ok (.aload_n 0, 1) := by decide +kernel
theorem dX9_goThrough_4 : decode cX9_goThrough 4 = .ok (.getfield 75, 3) := by decide +kernel
theorem dX9_goThrough_7 : decode cX9_goThrough 7 = .ok (.if_icmp .ge 21, 3) := by decide +kernel
theorem dX9_goThrough_10 : decode cX9_goThrough 10 = .ok (.aload_n 0, 1) := by decide +kernel
theorem dX9_goThrough_11 : decode cX9_goThrough 11 = .ok (.getfield 55, 3) := by decide +kernel
theorem dX9_goThrough_14 : decode cX9_goThrough 14 = .ok (.iload_n 2, 1) := by decide +kernel
theorem dX9_goThrough_15 : decode cX9_goThrough 15 = .ok (.aload_n 0, 1) := by decide +kernel
theorem dX9_goThrough_16 : decode cX9_goThrough 16 = .ok (.getfield 13, 3) := by decide +kernel
theorem dX9_goThrough_19 : decode cX9_goThrough 19 = .ok (.iload_n 2, 1) := by decide +kernel
theorem dX9_goThrough_20 : decode cX9_goThrough 20 = .ok (.iaload, 1) := by decide +kernel
theorem dX9_goThrough_21 : decode cX9_goThrough 21 = .ok (.iastore, 1) := by decide +kernel
theorem dX9_goThrough_22 : decode cX9_goThrough 22 = .ok (.iinc 2 1, 3) := by decide +kernel
theorem dX9_goThrough_25 : decode cX9_goThrough 25 = .ok (.goto (-23), 3) := by decide +kernel
theorem dX9_goThrough_28 : decode cX9_goThrough 28 = .ok (.iconst 0, 1) := by decide +kernel
theorem dX9_goThrough_29 : decode cX9_goThrough 29 = .ok (.istore_n 2, 1) := by decide +kernel
theorem dX9_goThrough_30 : decode cX9_goThrough 30 = .ok (.iload_n 2, 1) := by decide +kernel
theorem dX9_goThrough_31 : decode cX9_goThrough 31 = .ok (.aload_n 0, 1) := by decide +kernel
theorem dX9_goThrough_32 : decode cX9_goThrough 32 = .ok (.getfield 153, 3) := by decide +kernel
theorem dX9_goThrough_35 : decode cX9_goThrough 35 = .ok (.if_icmp .ge 24, 3) := by decide +kernel
theorem dX9_goThrough_38 : decode cX9_goThrough 38 = .ok (.iload_n 2, 1) := by decide +kernel
theorem dX9_goThrough_39 : decode cX9_goThrough 39 = .ok (.iload_n 1, 1) := by decide +kernel
theorem dX9_goThrough_40 : decode cX9_goThrough 40 = .ok (.if_icmp .eq 13, 3) := by decide +kernel
theorem dX9_goThrough_43 : decode cX9_goThrough 43 = .ok (.aload_n 0, 1) := by decide +kernel
theorem dX9_goThrough_44 : decode cX9_goThrough 44 = .ok (.aload_n 0, 1) := by decide +kernel
theorem dX9_goThrough_45 : decode cX9_goThrough 45 = .ok (.getfield 22, 3) := by decide +kernel
theorem dX9_goThrough_48 : decode cX9_goThrough 48 = .ok (.iload_n 2, 1) := by decide +kernel
theorem dX9_goThrough_49 : decode cX9_goThrough 49 = .ok (.iaload, 1) := by decide +kernel
theorem dX9_goThrough_50 : decode cX9_goThrough 50 = .ok (.invokevirtual 191, 3) := by decide +kernel
theorem dX9_goThrough_53 : decode cX9_goThrough 53 = .ok (.iinc 2 1, 3) := by decide +kernel
theorem dX9_goThrough_56 : decode cX9_goThrough 56 = .ok (.goto (-26), 3) := by decide +kernel
theorem dX9_goThrough_59 : decode cX9_goThrough 59 = .ok (.return_, 1) := by decide +kernel
theorem dX9_isCode_0 : decode cX9_isCode 0 = .ok (.iload_n 1, 1) := by decide +kernel
theorem dX9_isCode_1 : decode cX9_isCode 1 = .ok (.ifCond .lt 37, 3) := by decide +kernel
theorem dX9_isCode_4 : decode cX9_isCode 4 = .ok (.aload_n 0, 1) := by decide +kernel
theorem dX9_isCode_5 : decode cX9_isCode 5 = .ok (.iload_n 1, 1) := by decide +kernel
theorem dX9_isCode_6 : decode cX9_isCode 6 = .ok (.invokestatic 184, 3) := by decide +kernel
theorem dX9_isCode_9 : decode cX9_isCode 9 = .ok (.invokevirtual 165, 3) := by decide +kernel
theorem dX9_isCode_12 : decode cX9_isCode 12 = .ok (.ifCond .eq 26, 3) := by decide +kernel
theorem dX9_isCode_15 : decode cX9_isCode 15 = .ok (.aload_n 0, 1) := by decide +kernel
theorem dX9_isCode_16 : decode cX9_isCode 16 = .ok (.iload_n 1, 1) := by decide +kernel
theorem dX9_isCode_17 : decode cX9_isCode 17 = .ok (.invokestatic 177, 3) := by decide +kernel
theorem dX9_isCode_20 : decode cX9_isCode 20 = .ok (.invokevirtual 195, 3) := by decide +kernel
theorem dX9_isCode_23 : decode cX9_isCode 23 = .ok (.ifCond .eq 15, 3) := by decide +kernel
theorem dX9_isCode_26 : decode cX9_isCode 26 = .ok (.iload_n 1, 1) := by decide +kernel
theorem dX9_isCode_27 : decode cX9_isCode 27 = .ok (.bipush 10, 2) := by decide +kernel
theorem dX9_isCode_29 : decode cX9_isCode 29 = .ok (.irem, 1) := by decide +kernel
theorem dX9_isCode_30 : decode cX9_isCode 30 = .ok (.iconst 4, 1) := by decide +kernel
theorem dX9_isCode_31 : decode cX9_isCode 31 = .ok (.if_icmp .ge 7, 3) := by decide +kernel
theorem dX9_isCode_34 : decode cX9_isCode 34 = .ok (.iconst 1, 1) := by decide +kernel
theorem dX9_isCode_35 : decode cX9_isCode 35 = .ok (.goto 4, 3) := by decide +kernel
theorem dX9_isCode_38 : decode cX9_isCode 38 = .ok (.iconst 0, 1) := by decide +kernel
theorem dX9_isCode_39 : decode cX9_isCode 39 = .ok (.ireturn, 1) := by decide +kernel
theorem dX9_push_0 : decode cX9_push 0 = .ok (.aload_n 0, 1) := by decide +kernel
theorem dX9_push_1 : decode cX9_push 1 = .ok (.iload_n 1, 1) := by decide +kernel
theorem dX9_push_2 : decode cX9_push 2 = .ok (.invokevirtual 165, 3) := by decide +kernel
theorem dX9_push_5 : decode cX9_push 5 = .ok (.ifCond .eq 11, 3) := by decide +kernel
theorem dX9_push_8 : decode cX9_push 8 = .ok (.aload_n 0, 1) := by decide +kernel
theorem dX9_push_9 : decode cX9_push 9 = .ok (.iload_n 2, 1) := by decide +kernel
theorem dX9_push_10 : decode cX9_push 10 = .ok (.invokevirtual 195, 3) := by decide +kernel
theorem dX9_push_13 : decode cX9_push 13 = .ok (.ifCond .ne 5, 3) := by decide +kernel
theorem dX9_push_16 : decode cX9_push 16 = .ok (.iconst (-1), 1) := by decide +kernel
theorem dX9_push_17 : decode cX9_push 17 = .ok (.ireturn, 1) := by decide +kernel
theorem dX9_push_18 : decode cX9_push 18 = .ok (.iload_n 3, 1) := by decide +kernel
theorem dX9_push_19 : decode cX9_push 19 = .ok (.i2l, 1) := by decide +kernel
theorem dX9_push_20 : decode cX9_push 20 = .ok (.lconst 0, 1) := by decide +kernel
theorem dX9_push_21 : decode cX9_push 21 = .ok (.ldc2_w 81, 3) := by decide +kernel
theorem dX9_push_24 : decode cX9_push 24 = .ok (.invokestatic 71, 3) := by decide +kernel
theorem dX9_push_27 : decode cX9_push 27 = .ok (.ifCond .ne 6, 3) := by decide +kernel
theorem dX9_push_30 : decode cX9_push 30 = .ok (.bipush (-2), 2) := by decide +kernel
theorem dX9_push_32 : decode cX9_push 32 = .ok (.ireturn, 1) := by decide +kernel
theorem dX9_push_33 : decode cX9_push 33 = .ok (.aload_n 0, 1) := by decide +kernel
theorem dX9_push_34 : decode cX9_push 34 = .ok (.getfield 153, 3) := by decide +kernel
theorem dX9_push_37 : decode cX9_push 37 = .ok (.bipush 30, 2) := by decide +kernel
theorem dX9_push_39 : decode cX9_push 39 = .ok (.if_icmp .ne 6, 3) := by decide +kernel
theorem dX9_push_42 : decode cX9_push 42 = .ok (.bipush (-4), 2) := by decide +kernel
theorem dX9_push_44 : decode cX9_push 44 = .ok (.ireturn, 1) := by decide +kernel
theorem dX9_push_45 : decode cX9_push 45 = .ok (.aload_n 0, 1) := by decide +kernel
theorem dX9_push_46 : decode cX9_push 46 = .ok (.getfield 22, 3) := by decide +kernel
theorem dX9_push_49 : decode cX9_push 49 = .ok (.aload_n 0, 1) := by decide +kernel
theorem dX9_push_50 : decode cX9_push 50 = .ok (.getfield 153, 3) := by decide +kernel
theorem dX9_push_53 : decode cX9_push 53 = .ok (.bipush 100, 2) := by decide +kernel
theorem dX9_push_55 : decode cX9_push 55 = .ok (.iload_n 1, 1) := by decide +kernel
theorem dX9_push_56 : decode cX9_push 56 = .ok (.imul, 1) := by decide +kernel
theorem dX9_push_57 : decode cX9_push 57 = .ok (.bipush 10, 2) := by decide +kernel
theorem dX9_push_59 : decode cX9_push 59 = .ok (.iload_n 2, 1) := by decide +kernel
theorem dX9_push_60 : decode cX9_push 60 = .ok (.imul, 1) := by decide +kernel
theorem dX9_push_61 : decode cX9_push 61 = .ok (.iadd, 1) := by decide +kernel
theorem dX9_push_62 : decode cX9_push 62 = .ok (.iload_n 3, 1) := by decide +kernel
theorem dX9_push_63 : decode cX9_push 63 = .ok (.iadd, 1) := by decide +kernel
theorem dX9_push_64 : decode cX9_push 64 = .ok (.iastore, 1) := by decide +kernel
theorem dX9_push_65 : decode cX9_push 65 = .ok (.aload_n 0, 1) := by decide +kernel
theorem dX9_push_66 : decode cX9_push 66 = .ok (.dup, 1) := by decide +kernel
theorem dX9_push_67 : decode cX9_push 67 = .ok (.getfield 153, 3) := by decide +kernel
theorem dX9_push_70 : decode cX9_push 70 = .ok (.iconst 1, 1) := by decide +kernel
theorem dX9_push_71 : decode cX9_push 71 = .ok (.iadd, 1) := by decide +kernel
theorem dX9_push_72 : decode cX9_push 72 = .ok (.putfield 153, 3) := by decide +kernel
theorem dX9_push_75 : decode cX9_push 75 = .ok (.aload_n 0, 1) := by decide +kernel
theorem dX9_push_76 : decode cX9_push 76 = .ok (.getfield 153, 3) := by decide +kernel
theorem dX9_push_79 : decode cX9_push 79 = .ok (.iconst 1, 1) := by decide +kernel
theorem dX9_push_80 : decode cX9_push 80 = .ok (.isub, 1) := by decide +kernel
theorem dX9_push_81 : decode cX9_push 81 = .ok (.ireturn, 1) := by decide +kernel
theorem dX9_undo_0 : decode cX9_undo 0 = .ok (.iload_n 1, 1) := by decide +kernel
theorem dX9_undo_1 : decode cX9_undo 1 = .ok (.i2l, 1) := by decide +kernel
theorem dX9_undo_2 : decode cX9_undo 2 = .ok (.lconst 0, 1) := by decide +kernel
theorem dX9_undo_3 : decode cX9_undo 3 = .ok (.aload_n 0, 1) := by decide +kernel
theorem dX9_undo_4 : decode cX9_undo 4 = .ok (.getfield 153, 3) := by decide +kernel
theorem dX9_undo_7 : decode cX9_undo 7 = .ok (.i2l, 1) := by decide +kernel
theorem dX9_undo_8 : decode cX9_undo 8 = .ok (.invokestatic 71, 3) := by decide +kernel
theorem dX9_undo_11 : decode cX9_undo 11 = .ok (.ifCond .ne 6, 3) := by decide +kernel
theorem dX9_undo_14 : decode cX9_undo 14 = .ok (.bipush (-2), 2) := by decide +kernel
theorem dX9_undo_16 : decode cX9_undo 16 = .ok (.ireturn, 1) := by decide +kernel
theorem dX9_undo_17 : decode cX9_undo 17 = .ok (.aload_n 0, 1) := by decide +kernel
theorem dX9_undo_18 : decode cX9_undo 18 = .ok (.dup, 1) := by decide +kernel
theorem dX9_undo_19 : decode cX9_undo 19 = .ok (.getfield 153, 3) := by decide +kernel
theorem dX9_undo_22 : decode cX9_undo 22 = .ok (.iload_n 1, 1) := by decide +kernel
theorem dX9_undo_23 : decode cX9_undo 23 = .ok (.isub, 1) := by decide +kernel
theorem dX9_undo_24 : decode cX9_undo 24 = .ok (.putfield 153, 3) := by decide +kernel
theorem dX9_undo_27 : decode cX9_undo 27 = .ok (.aload_n 0, 1) := by decide +kernel
theorem dX9_undo_28 : decode cX9_undo 28 = .ok (.getfield 153, 3) := by decide +kernel
theorem dX9_undo_31 : decode cX9_undo 31 = .ok (.ireturn, 1) := by decide +kernel
theorem dX9_where_0 : decode cX9_where 0 = .ok (.aload_n 0, 1) := by decide +kernel
theorem dX9_where_1 : decode cX9_where 1 = .ok (.iload_n 1, 1) := by decide +kernel
theorem dX9_where_2 : decode cX9_where 2 = .ok (.invokevirtual 195, 3) := by decide +kernel
theorem dX9_where_5 : decode cX9_where 5 = .ok (.ifCond .ne 5, 3) := by decide +kernel
theorem dX9_where_8 : decode cX9_where 8 = .ok (.iconst (-1), 1) := by decide +kernel
theorem dX9_where_9 : decode cX9_where 9 = .ok (.ireturn, 1) := by decide +kernel
theorem dX9_where_10 : decode cX9_where 10 = .ok (.aload_n 0, 1) := by decide +kernel
theorem dX9_where_11 : decode cX9_where 11 = .ok (.iconst (-1), 1) := by decide +kernel
theorem dX9_where_12 : decode cX9_where 12 = .ok (.invokevirtual 198, 3) := by decide +kernel
theorem dX9_where_15 : decode cX9_where 15 = .ok (.aload_n 0, 1) := by decide +kernel
theorem dX9_where_16 : decode cX9_where 16 = .ok (.getfield 55, 3) := by decide +kernel
theorem dX9_where_19 : decode cX9_where 19 = .ok (.iload_n 1, 1) := by decide +kernel
theorem dX9_where_20 : decode cX9_where 20 = .ok (.iaload, 1) := by decide +kernel
theorem dX9_where_21 : decode cX9_where 21 = .ok (.ifCond .ge 8, 3) := by decide +kernel
theorem dX9_where_24 : decode cX9_where 24 = .ok (.bipush (-9), 2) := by decide +kernel
theorem dX9_where_26 : decode cX9_where 26 = .ok (.goto 9, 3) := by decide +kernel
theorem dX9_where_29 : decode cX9_where 29 = .ok (.aload_n 0, 1) := by decide +kernel
theorem dX9_where_30 : decode cX9_where 30 = .ok (.getfield 55, 3) := by decide +kernel
theorem dX9_where_33 : decode cX9_where 33 = .ok (.iload_n 1, 1) := by decide +kernel
theorem dX9_where_34 : decode cX9_where 34 = .ok (.iaload, 1) := by decide +kernel
theorem dX9_where_35 : decode cX9_where 35 = .ok (.ireturn, 1) := by decide +kernel
theorem dX9_setOf_0 : decode cX9_setOf 0 = .ok (.iconst 0, 1) := by decide +kernel
theorem dX9_setOf_1 : decode cX9_setOf 1 = .ok (.istore_n 2, 1) := by decide +kernel
theorem dX9_setOf_2 : decode cX9_setOf 2 = .ok (.iconst 0, 1) := by decide +kernel
theorem dX9_setOf_3 : decode cX9_setOf 3 = .ok (.istore_n 3, 1) := by decide +kernel
theorem dX9_setOf_4 : decode cX9_setOf 4 = .ok (.iload_n 3, 1) := by decide +kernel
theorem dX9_setOf_5 : decode cX9_setOf 5 = .ok (.aload_n 0, 1) := by decide +kernel
theorem dX9_setOf_6 : decode cX9_setOf 6 = .ok (.getfield 75, 3) := by decide +kernel
theorem dX9_setOf_9 : decode cX9_setOf 9 = .ok (.if_icmp .ge 97, 3) := by decide +kernel
theorem dX9_setOf_12 : decode cX9_setOf 12 = .ok (.iload_n 1, 1) := by decide +kernel
theorem dX9_setOf_13 : decode cX9_setOf 13 = .ok (.ifCond .ne 21, 3) := by decide +kernel
theorem dX9_setOf_16 : decode cX9_setOf 16 = .ok (.aload_n 0, 1) := by decide +kernel
theorem dX9_setOf_17 : decode cX9_setOf 17 = .ok (.getfield 55, 3) := by decide +kernel
theorem dX9_setOf_20 : decode cX9_setOf 20 = .ok (.iload_n 3, 1) := by decide +kernel
theorem dX9_setOf_21 : decode cX9_setOf 21 = .ok (.iaload, 1) := by decide +kernel
theorem dX9_setOf_22 : decode cX9_setOf 22 = .ok (.iconst (-1), 1) := by decide +kernel
theorem dX9_setOf_23 : decode cX9_setOf 23 = .ok (.if_icmp .ne 7, 3) := by decide +kernel
theorem dX9_setOf_26 : decode cX9_setOf 26 = .ok (.iconst 1, 1) := by decide +kernel
theorem dX9_setOf_27 : decode cX9_setOf 27 = .ok (.goto 56, 3) := by decide +kernel
theorem dX9_setOf_30 : decode cX9_setOf 30 = .ok (.iconst 0, 1) := by decide +kernel
theorem dX9_setOf_31 : decode cX9_setOf 31 = .ok (.goto 52, 3) := by decide +kernel
theorem dX9_setOf_34 : decode cX9_setOf 34 = .ok (.iload_n 1, 1) := by decide +kernel
theorem dX9_setOf_35 : decode cX9_setOf 35 = .ok (.iconst 1, 1) := by decide +kernel
theorem dX9_setOf_36 : decode cX9_setOf 36 = .ok (.if_icmp .ne 22, 3) := by decide +kernel
theorem dX9_setOf_39 : decode cX9_setOf 39 = .ok (.aload_n 0, 1) := by decide +kernel
theorem dX9_setOf_40 : decode cX9_setOf 40 = .ok (.getfield 55, 3) := by decide +kernel
theorem dX9_setOf_43 : decode cX9_setOf 43 = .ok (.iload_n 3, 1) := by decide +kernel
theorem dX9_setOf_44 : decode cX9_setOf 44 = .ok (.iaload, 1) := by decide +kernel
theorem dX9_setOf_45 : decode cX9_setOf 45 = .ok (.bipush (-2), 2) := by decide +kernel
theorem dX9_setOf_47 : decode cX9_setOf 47 = .ok (.if_icmp .ne 7, 3) := by decide +kernel
theorem dX9_setOf_50 : decode cX9_setOf 50 = .ok (.iconst 1, 1) := by decide +kernel
theorem dX9_setOf_51 : decode cX9_setOf 51 = .ok (.goto 32, 3) := by decide +kernel
theorem dX9_setOf_54 : decode cX9_setOf 54 = .ok (.iconst 0, 1) := by decide +kernel
theorem dX9_setOf_55 : decode cX9_setOf 55 = .ok (.goto 28, 3) := by decide +kernel
theorem dX9_setOf_58 : decode cX9_setOf 58 = .ok (.aload_n 0, 1) := by decide +kernel
theorem dX9_setOf_59 : decode cX9_setOf 59 = .ok (.getfield 55, 3) := by decide +kernel
theorem dX9_setOf_62 : decode cX9_setOf 62 = .ok (.iload_n 3, 1) := by decide +kernel
theorem dX9_setOf_63 : decode cX9_setOf 63 = .ok (.iaload, 1) := by decide +kernel
theorem dX9_setOf_64 : decode cX9_setOf 64 = .ok (.ifCond .lt 18, 3) := by decide +kernel
theorem dX9_setOf_67 : decode cX9_setOf 67 = .ok (.aload_n 0, 1) := by decide +kernel
theorem dX9_setOf_68 : decode cX9_setOf 68 = .ok (.iload_n 3, 1) := by decide +kernel
theorem dX9_setOf_69 : decode cX9_setOf 69 = .ok (.iload_n 1, 1) := by decide +kernel
theorem dX9_setOf_70 : decode cX9_setOf 70 = .ok (.iconst 2, 1) := by decide +kernel
theorem dX9_setOf_71 : decode cX9_setOf 71 = .ok (.isub, 1) := by decide +kernel
theorem dX9_setOf_72 : decode cX9_setOf 72 = .ok (.invokevirtual 180, 3) := by decide +kernel
theorem dX9_setOf_75 : decode cX9_setOf 75 = .ok (.ifCond .eq 7, 3) := by decide +kernel
theorem dX9_setOf_78 : decode cX9_setOf 78 = .ok (.iconst 1, 1) := by decide +kernel
theorem dX9_setOf_79 : decode cX9_setOf 79 = .ok (.goto 4, 3) := by decide +kernel
theorem dX9_setOf_82 : decode cX9_setOf 82 = .ok (.iconst 0, 1) := by decide +kernel
theorem dX9_setOf_83 : decode cX9_setOf 83 = .ok (.istore 4, 2) := by decide +kernel
theorem dX9_setOf_85 : decode cX9_setOf 85 = .ok (.iload_n 2, 1) := by decide +kernel
theorem dX9_setOf_86 : decode cX9_setOf 86 = .ok (.iload 4, 2) := by decide +kernel
theorem dX9_setOf_88 : decode cX9_setOf 88 = .ok (.ifCond .eq 9, 3) := by decide +kernel
theorem dX9_setOf_91 : decode cX9_setOf 91 = .ok (.iconst 1, 1) := by decide +kernel
theorem dX9_setOf_92 : decode cX9_setOf 92 = .ok (.iload_n 3, 1) := by decide +kernel
theorem dX9_setOf_93 : decode cX9_setOf 93 = .ok (.ishl, 1) := by decide +kernel
theorem dX9_setOf_94 : decode cX9_setOf 94 = .ok (.goto 4, 3) := by decide +kernel
theorem dX9_setOf_97 : decode cX9_setOf 97 = .ok (.iconst 0, 1) := by decide +kernel
theorem dX9_setOf_98 : decode cX9_setOf 98 = .ok (.ior, 1) := by decide +kernel
theorem dX9_setOf_99 : decode cX9_setOf 99 = .ok (.istore_n 2, 1) := by decide +kernel
theorem dX9_setOf_100 : decode cX9_setOf 100 = .ok (.iinc 3 1, 3) := by decide +kernel
theorem dX9_setOf_103 : decode cX9_setOf 103 = .ok (.goto (-99), 3) := by decide +kernel
theorem dX9_setOf_106 : decode cX9_setOf 106 = .ok (.iload_n 2, 1) := by decide +kernel
theorem dX9_setOf_107 : decode cX9_setOf 107 = .ok (.ireturn, 1) := by decide +kernel
theorem dX9_peas_0 : decode cX9_peas 0 = .ok (.iload_n 1, 1) := by decide +kernel
theorem dX9_peas_1 : decode cX9_peas 1 = .ok (.i2l, 1) := by decide +kernel
theorem dX9_peas_2 : decode cX9_peas 2 = .ok (.lconst 0, 1) := by decide +kernel
theorem dX9_peas_3 : decode cX9_peas 3 = .ok (.ldc2_w 201, 3) := by decide +kernel
theorem dX9_peas_6 : decode cX9_peas 6 = .ok (.invokestatic 71, 3) := by decide +kernel
theorem dX9_peas_9 : decode cX9_peas 9 = .ok (.ifCond .ne 6, 3) := by decide +kernel
theorem dX9_peas_12 : decode cX9_peas 12 = .ok (.bipush (-2), 2) := by decide +kernel
theorem dX9_peas_14 : decode cX9_peas 14 = .ok (.ireturn, 1) := by decide +kernel
theorem dX9_peas_15 : decode cX9_peas 15 = .ok (.aload_n 0, 1) := by decide +kernel
theorem dX9_peas_16 : decode cX9_peas 16 = .ok (.getfield 68, 3) := by decide +kernel
theorem dX9_peas_19 : decode cX9_peas 19 = .ok (.ifCond .ne 6, 3) := by decide +kernel
theorem dX9_peas_22 : decode cX9_peas 22 = .ok (.bipush (-3), 2) := by decide +kernel
theorem dX9_peas_24 : decode cX9_peas 24 = .ok (.ireturn, 1) := by decide +kernel
theorem dX9_peas_25 : decode cX9_peas 25 = .ok (.aload_n 0, 1) := by decide +kernel
theorem dX9_peas_26 : decode cX9_peas 26 = .ok (.iconst (-1), 1) := by decide +kernel
theorem dX9_peas_27 : decode cX9_peas 27 = .ok (.invokevirtual 198, 3) := by decide +kernel
theorem dX9_peas_30 : decode cX9_peas 30 = .ok (.aload_n 0, 1) := by decide +kernel
theorem dX9_peas_31 : decode cX9_peas 31 = .ok (.iload_n 1, 1) := by decide +kernel
theorem dX9_peas_32 : decode cX9_peas 32 = .ok (.invokevirtual 203, 3) := by decide +kernel
theorem dX9_peas_35 : decode cX9_peas 35 = .ok (.ireturn, 1) := by decide +kernel
theorem dX9_save_0 : decode cX9_save 0 = .ok (.iconst 0, 1) := by decide +kernel
theorem dX9_save_1 : decode cX9_save 1 = .ok (.istore_n 2, 1) := by decide +kernel
theorem dX9_save_2 : decode cX9_save 2 = .ok (.iload_n 2, 1) := by decide +kernel
theorem dX9_save_3 : decode cX9_save 3 = .ok (.aload_n 0, 1) := by decide +kernel
theorem dX9_save_4 : decode cX9_save 4 = .ok (.getfield 75, 3) := by decide +kernel
theorem dX9_save_7 : decode cX9_save 7 = .ok (.if_icmp .ge 25, 3) := by decide +kernel
theorem dX9_save_10 : decode cX9_save 10 = .ok (.aload_n 0, 1) := by decide +kernel
theorem dX9_save_11 : decode cX9_save 11 = .ok (.getfield 58, 3) := by decide +kernel
theorem dX9_save_14 : decode cX9_save 14 = .ok (.iconst 5, 1) := by decide +kernel
theorem dX9_save_15 : decode cX9_save 15 = .ok (.iload_n 1, 1) := by decide +kernel
theorem dX9_save_16 : decode cX9_save 16 = .ok (.imul, 1) := by decide +kernel
theorem dX9_save_17 : decode cX9_save 17 = .ok (.iload_n 2, 1) := by decide +kernel
theorem dX9_save_18 : decode cX9_save 18 = .ok (.iadd, 1) := by decide +kernel
theorem dX9_save_19 : decode cX9_save 19 = .ok (.aload_n 0, 1) := by decide +kernel
theorem dX9_save_20 : decode cX9_save 20 = .ok (.getfield 55, 3) := by decide +kernel
theorem dX9_save_23 : decode cX9_save 23 = .ok (.iload_n 2, 1) := by decide +kernel
theorem dX9_save_24 : decode cX9_save 24 = .ok (.iaload, 1) := by decide +kernel
theorem dX9_save_25 : decode cX9_save 25 = .ok (.iastore, 1) := by decide +kernel
theorem dX9_save_26 : decode cX9_save 26 = .ok (.iinc 2 1, 3) := by decide +kernel
theorem dX9_save_29 : decode cX9_save 29 = .ok (.goto (-27), 3) := by decide +kernel
theorem dX9_save_32 : decode cX9_save 32 = .ok (.return_, 1) := by decide +kernel
theorem dX9_load_0 : decode cX9_load 0 = .ok (.iconst 0, 1) := by decide +kernel
theorem dX9_load_1 : decode cX9_load 1 = .ok (.istore_n 2, 1) := by decide +kernel
theorem dX9_load_2 : decode cX9_load 2 = .ok (.iload_n 2, 1) := by decide +kernel
theorem dX9_load_3 : decode cX9_load 3 = .ok (.aload_n 0, 1) := by decide +kernel
theorem dX9_load_4 : decode cX9_load 4 = .ok (.getfield 75, 3) := by decide +kernel
theorem dX9_load_7 : decode cX9_load 7 = .ok (.if_icmp .ge 25, 3) := by decide +kernel
theorem dX9_load_10 : decode cX9_load 10 = .ok (.aload_n 0, 1) := by decide +kernel
theorem dX9_load_11 : decode cX9_load 11 = .ok (.getfield 55, 3) := by decide +kernel
theorem dX9_load_14 : decode cX9_load 14 = .ok (.iload_n 2, 1) := by decide +kernel
theorem dX9_load_15 : decode cX9_load 15 = .ok (.aload_n 0, 1) := by decide +kernel
theorem dX9_load_16 : decode cX9_load 16 = .ok (.getfield 58, 3) := by decide +kernel
theorem dX9_load_19 : decode cX9_load 19 = .ok (.iconst 5, 1) := by decide +kernel
theorem dX9_load_20 : decode cX9_load 20 = .ok (.iload_n 1, 1) := by decide +kernel
theorem dX9_load_21 : decode cX9_load 21 = .ok (.imul, 1) := by decide +kernel
theorem dX9_load_22 : decode cX9_load 22 = .ok (.iload_n 2, 1) := by decide +kernel
theorem dX9_load_23 : decode cX9_load 23 = .ok (.iadd, 1) := by decide +kernel
theorem dX9_load_24 : decode cX9_load 24 = .ok (.iaload, 1) := by decide +kernel
theorem dX9_load_25 : decode cX9_load 25 = .ok (.iastore, 1) := by decide +kernel
theorem dX9_load_26 : decode cX9_load 26 = .ok (.iinc 2 1, 3) := by decide +kernel
theorem dX9_load_29 : decode cX9_load 29 = .ok (.goto (-27), 3) := by decide +kernel
theorem dX9_load_32 : decode cX9_load 32 = .ok (.return_, 1) := by decide +kernel
theorem dX9_would_0 : decode cX9_would 0 = .ok (.aload_n 0, 1) := by decide +kernel
theorem dX9_would_1 : decode cX9_would 1 = .ok (.iload_n 1, 1) := by decide +kernel
theorem dX9_would_2 : decode cX9_would 2 = .ok (.invokevirtual 165, 3) := by decide +kernel
theorem dX9_would_5 : decode cX9_would 5 = .ok (.ifCond .eq 11, 3) := by decide +kernel
theorem dX9_would_8 : decode cX9_would 8 = .ok (.aload_n 0, 1) := by decide +kernel
theorem dX9_would_9 : decode cX9_would 9 = .ok (.iload_n 2, 1) := by decide +kernel
theorem dX9_would_10 : decode cX9_would 10 = .ok (.invokevirtual 195, 3) := by decide +kernel
theorem dX9_would_13 : decode cX9_would 13 = .ok (.ifCond .ne 5, 3) := by decide +kernel
theorem dX9_would_16 : decode cX9_would 16 = .ok (.iconst (-1), 1) := by decide +kernel
theorem dX9_would_17 : decode cX9_would 17 = .ok (.ireturn, 1) := by decide +kernel
theorem dX9_would_18 : decode cX9_would 18 = .ok (.iload_n 3, 1) := by decide +kernel
theorem dX9_would_19 : decode cX9_would 19 = .ok (.i2l, 1) := by decide +kernel
theorem dX9_would_20 : decode cX9_would 20 = .ok (.lconst 0, 1) := by decide +kernel
theorem dX9_would_21 : decode cX9_would 21 = .ok (.ldc2_w 81, 3) := by decide +kernel
theorem dX9_would_24 : decode cX9_would 24 = .ok (.invokestatic 71, 3) := by decide +kernel
theorem dX9_would_27 : decode cX9_would 27 = .ok (.ifCond .eq 16, 3) := by decide +kernel
theorem dX9_would_30 : decode cX9_would 30 = .ok (.iload 4, 2) := by decide +kernel
theorem dX9_would_32 : decode cX9_would 32 = .ok (.i2l, 1) := by decide +kernel
theorem dX9_would_33 : decode cX9_would 33 = .ok (.lconst 0, 1) := by decide +kernel
theorem dX9_would_34 : decode cX9_would 34 = .ok (.ldc2_w 83, 3) := by decide +kernel
theorem dX9_would_37 : decode cX9_would 37 = .ok (.invokestatic 71, 3) := by decide +kernel
theorem dX9_would_40 : decode cX9_would 40 = .ok (.ifCond .ne 6, 3) := by decide +kernel
theorem dX9_would_43 : decode cX9_would 43 = .ok (.bipush (-2), 2) := by decide +kernel
theorem dX9_would_45 : decode cX9_would 45 = .ok (.ireturn, 1) := by decide +kernel
theorem dX9_would_46 : decode cX9_would 46 = .ok (.aload_n 0, 1) := by decide +kernel
theorem dX9_would_47 : decode cX9_would 47 = .ok (.iconst (-1), 1) := by decide +kernel
theorem dX9_would_48 : decode cX9_would 48 = .ok (.invokevirtual 198, 3) := by decide +kernel
theorem dX9_would_51 : decode cX9_would 51 = .ok (.aload_n 0, 1) := by decide +kernel
theorem dX9_would_52 : decode cX9_would 52 = .ok (.getfield 55, 3) := by decide +kernel
theorem dX9_would_55 : decode cX9_would 55 = .ok (.iload_n 2, 1) := by decide +kernel
theorem dX9_would_56 : decode cX9_would 56 = .ok (.iaload, 1) := by decide +kernel
theorem dX9_would_57 : decode cX9_would 57 = .ok (.ifCond .ge 6, 3) := by decide +kernel
theorem dX9_would_60 : decode cX9_would 60 = .ok (.bipush (-3), 2) := by decide +kernel
theorem dX9_would_62 : decode cX9_would 62 = .ok (.ireturn, 1) := by decide +kernel
theorem dX9_would_63 : decode cX9_would 63 = .ok (.aload_n 0, 1) := by decide +kernel
theorem dX9_would_64 : decode cX9_would 64 = .ok (.iconst 0, 1) := by decide +kernel
theorem dX9_would_65 : decode cX9_would 65 = .ok (.invokevirtual 206, 3) := by decide +kernel
theorem dX9_would_68 : decode cX9_would 68 = .ok (.aload_n 0, 1) := by decide +kernel
theorem dX9_would_69 : decode cX9_would 69 = .ok (.bipush 100, 2) := by decide +kernel
theorem dX9_would_71 : decode cX9_would 71 = .ok (.iload_n 1, 1) := by decide +kernel
theorem dX9_would_72 : decode cX9_would 72 = .ok (.imul, 1) := by decide +kernel
theorem dX9_would_73 : decode cX9_would 73 = .ok (.bipush 10, 2) := by decide +kernel
theorem dX9_would_75 : decode cX9_would 75 = .ok (.iload_n 2, 1) := by decide +kernel
theorem dX9_would_76 : decode cX9_would 76 = .ok (.imul, 1) := by decide +kernel
theorem dX9_would_77 : decode cX9_would 77 = .ok (.iadd, 1) := by decide +kernel
theorem dX9_would_78 : decode cX9_would 78 = .ok (.iload_n 3, 1) := by decide +kernel
theorem dX9_would_79 : decode cX9_would 79 = .ok (.iadd, 1) := by decide +kernel
theorem dX9_would_80 : decode cX9_would 80 = .ok (.invokevirtual 191, 3) := by decide +kernel
theorem dX9_would_83 : decode cX9_would 83 = .ok (.iconst 0, 1) := by decide +kernel
theorem dX9_would_84 : decode cX9_would 84 = .ok (.istore 5, 2) := by decide +kernel
theorem dX9_would_86 : decode cX9_would 86 = .ok (.iconst 0, 1) := by decide +kernel
theorem dX9_would_87 : decode cX9_would 87 = .ok (.istore 6, 2) := by decide +kernel
theorem dX9_would_89 : decode cX9_would 89 = .ok (.iload 6, 2) := by decide +kernel
theorem dX9_would_91 : decode cX9_would 91 = .ok (.aload_n 0, 1) := by decide +kernel
theorem dX9_would_92 : decode cX9_would 92 = .ok (.getfield 75, 3) := by decide +kernel
theorem dX9_would_95 : decode cX9_would 95 = .ok (.if_icmp .ge 39, 3) := by decide +kernel
theorem dX9_would_98 : decode cX9_would 98 = .ok (.iload 5, 2) := by decide +kernel
theorem dX9_would_100 : decode cX9_would 100 = .ok (.aload_n 0, 1) := by decide +kernel
theorem dX9_would_101 : decode cX9_would 101 = .ok (.getfield 55, 3) := by decide +kernel
theorem dX9_would_104 : decode cX9_would 104 = .ok (.iload 6, 2) := by decide +kernel
theorem dX9_would_106 : decode cX9_would 106 = .ok (.iaload, 1) := by decide +kernel
theorem dX9_would_107 : decode cX9_would 107 = .ok (.aload_n 0, 1) := by decide +kernel
theorem dX9_would_108 : decode cX9_would 108 = .ok (.getfield 58, 3) := by decide +kernel
theorem dX9_would_111 : decode cX9_would 111 = .ok (.iload 6, 2) := by decide +kernel
theorem dX9_would_113 : decode cX9_would 113 = .ok (.iaload, 1) := by decide +kernel
theorem dX9_would_114 : decode cX9_would 114 = .ok (.if_icmp .ne 7, 3) := by decide +kernel
theorem dX9_would_117 : decode cX9_would 117 = .ok (.iconst 0, 1) := by decide +kernel
theorem dX9_would_118 : decode cX9_would 118 = .ok (.goto 7, 3) := by decide +kernel
theorem dX9_would_121 : decode cX9_would 121 = .ok (.iconst 1, 1) := by decide +kernel
theorem dX9_would_122 : decode cX9_would 122 = .ok (.iload 6, 2) := by decide +kernel
theorem dX9_would_124 : decode cX9_would 124 = .ok (.ishl, 1) := by decide +kernel
theorem dX9_would_125 : decode cX9_would 125 = .ok (.ior, 1) := by decide +kernel
theorem dX9_would_126 : decode cX9_would 126 = .ok (.istore 5, 2) := by decide +kernel
theorem dX9_would_128 : decode cX9_would 128 = .ok (.iinc 6 1, 3) := by decide +kernel
theorem dX9_would_131 : decode cX9_would 131 = .ok (.goto (-42), 3) := by decide +kernel
theorem dX9_would_134 : decode cX9_would 134 = .ok (.iload 4, 2) := by decide +kernel
theorem dX9_would_136 : decode cX9_would 136 = .ok (.ifCond .ne 26, 3) := by decide +kernel
theorem dX9_would_139 : decode cX9_would 139 = .ok (.aload_n 0, 1) := by decide +kernel
theorem dX9_would_140 : decode cX9_would 140 = .ok (.getfield 55, 3) := by decide +kernel
theorem dX9_would_143 : decode cX9_would 143 = .ok (.iload_n 2, 1) := by decide +kernel
theorem dX9_would_144 : decode cX9_would 144 = .ok (.iaload, 1) := by decide +kernel
theorem dX9_would_145 : decode cX9_would 145 = .ok (.ifCond .ge 8, 3) := by decide +kernel
theorem dX9_would_148 : decode cX9_would 148 = .ok (.bipush (-9), 2) := by decide +kernel
theorem dX9_would_150 : decode cX9_would 150 = .ok (.goto 28, 3) := by decide +kernel
theorem dX9_would_153 : decode cX9_would 153 = .ok (.aload_n 0, 1) := by decide +kernel
theorem dX9_would_154 : decode cX9_would 154 = .ok (.getfield 55, 3) := by decide +kernel
theorem dX9_would_157 : decode cX9_would 157 = .ok (.iload_n 2, 1) := by decide +kernel
theorem dX9_would_158 : decode cX9_would 158 = .ok (.iaload, 1) := by decide +kernel
theorem dX9_would_159 : decode cX9_would 159 = .ok (.goto 19, 3) := by decide +kernel
theorem dX9_would_162 : decode cX9_would 162 = .ok (.iload 4, 2) := by decide +kernel
theorem dX9_would_164 : decode cX9_would 164 = .ok (.iconst 1, 1) := by decide +kernel
theorem dX9_would_165 : decode cX9_would 165 = .ok (.if_icmp .ne 11, 3) := by decide +kernel
theorem dX9_would_168 : decode cX9_would 168 = .ok (.aload_n 0, 1) := by decide +kernel
theorem dX9_would_169 : decode cX9_would 169 = .ok (.iconst 0, 1) := by decide +kernel
theorem dX9_would_170 : decode cX9_would 170 = .ok (.invokevirtual 203, 3) := by decide +kernel
theorem dX9_would_173 : decode cX9_would 173 = .ok (.goto 5, 3) := by decide +kernel
theorem dX9_would_176 : decode cX9_would 176 = .ok (.iload 5, 2) := by decide +kernel
theorem dX9_would_178 : decode cX9_would 178 = .ok (.ireturn, 1) := by decide +kernel
theorem dX9_isPush_0 : decode cX9_isPush 0 = .ok (.aload_n 0, 1) := by decide +kernel
theorem dX9_isPush_1 : decode cX9_isPush 1 = .ok (.iload_n 1, 1) := by decide +kernel
theorem dX9_isPush_2 : decode cX9_isPush 2 = .ok (.invokevirtual 209, 3) := by decide +kernel
theorem dX9_isPush_5 : decode cX9_isPush 5 = .ok (.ifCond .eq 19, 3) := by decide +kernel
theorem dX9_isPush_8 : decode cX9_isPush 8 = .ok (.aload_n 0, 1) := by decide +kernel
theorem dX9_isPush_9 : decode cX9_isPush 9 = .ok (.getfield 55, 3) := by decide +kernel
theorem dX9_isPush_12 : decode cX9_isPush 12 = .ok (.iload_n 1, 1) := by decide +kernel
theorem dX9_isPush_13 : decode cX9_isPush 13 = .ok (.invokestatic 177, 3) := by decide +kernel
theorem dX9_isPush_16 : decode cX9_isPush 16 = .ok (.iaload, 1) := by decide +kernel
theorem dX9_isPush_17 : decode cX9_isPush 17 = .ok (.ifCond .lt 7, 3) := by decide +kernel
theorem dX9_isPush_20 : decode cX9_isPush 20 = .ok (.iconst 1, 1) := by decide +kernel
theorem dX9_isPush_21 : decode cX9_isPush 21 = .ok (.goto 4, 3) := by decide +kernel
theorem dX9_isPush_24 : decode cX9_isPush 24 = .ok (.iconst 0, 1) := by decide +kernel
theorem dX9_isPush_25 : decode cX9_isPush 25 = .ok (.ireturn, 1) := by decide +kernel
theorem dX9_lastPush_0 : decode cX9_lastPush 0 = .ok (.aload_n 0, 1) := by decide +kernel
theorem dX9_lastPush_1 : decode cX9_lastPush 1 = .ok (.iload_n 2, 1) := by decide +kernel
theorem dX9_lastPush_2 : decode cX9_lastPush 2 = .ok (.invokevirtual 206, 3) := by decide +kernel
theorem dX9_lastPush_5 : decode cX9_lastPush 5 = .ok (.iconst 0, 1) := by decide +kernel
theorem dX9_lastPush_6 : decode cX9_lastPush 6 = .ok (.istore_n 3, 1) := by decide +kernel
theorem dX9_lastPush_7 : decode cX9_lastPush 7 = .ok (.iload_n 3, 1) := by decide +kernel
theorem dX9_lastPush_8 : decode cX9_lastPush 8 = .ok (.sipush 200, 3) := by decide +kernel
theorem dX9_lastPush_11 : decode cX9_lastPush 11 = .ok (.if_icmp .ge 51, 3) := by decide +kernel
theorem dX9_lastPush_14 : decode cX9_lastPush 14 = .ok (.aload_n 0, 1) := by decide +kernel
theorem dX9_lastPush_15 : decode cX9_lastPush 15 = .ok (.iload_n 3, 1) := by decide +kernel
theorem dX9_lastPush_16 : decode cX9_lastPush 16 = .ok (.invokevirtual 212, 3) := by decide +kernel
theorem dX9_lastPush_19 : decode cX9_lastPush 19 = .ok (.ifCond .eq 37, 3) := by decide +kernel
theorem dX9_lastPush_22 : decode cX9_lastPush 22 = .ok (.aload_n 0, 1) := by decide +kernel
theorem dX9_lastPush_23 : decode cX9_lastPush 23 = .ok (.iload_n 3, 1) := by decide +kernel
theorem dX9_lastPush_24 : decode cX9_lastPush 24 = .ok (.invokevirtual 191, 3) := by decide +kernel
theorem dX9_lastPush_27 : decode cX9_lastPush 27 = .ok (.aload_n 0, 1) := by decide +kernel
theorem dX9_lastPush_28 : decode cX9_lastPush 28 = .ok (.getfield 55, 3) := by decide +kernel
theorem dX9_lastPush_31 : decode cX9_lastPush 31 = .ok (.iload_n 1, 1) := by decide +kernel
theorem dX9_lastPush_32 : decode cX9_lastPush 32 = .ok (.iaload, 1) := by decide +kernel
theorem dX9_lastPush_33 : decode cX9_lastPush 33 = .ok (.iconst (-1), 1) := by decide +kernel
theorem dX9_lastPush_34 : decode cX9_lastPush 34 = .ok (.if_icmp .ne 7, 3) := by decide +kernel
theorem dX9_lastPush_37 : decode cX9_lastPush 37 = .ok (.iconst 1, 1) := by decide +kernel
theorem dX9_lastPush_38 : decode cX9_lastPush 38 = .ok (.goto 4, 3) := by decide +kernel
theorem dX9_lastPush_41 : decode cX9_lastPush 41 = .ok (.iconst 0, 1) := by decide +kernel
theorem dX9_lastPush_42 : decode cX9_lastPush 42 = .ok (.istore 4, 2) := by decide +kernel
theorem dX9_lastPush_44 : decode cX9_lastPush 44 = .ok (.aload_n 0, 1) := by decide +kernel
theorem dX9_lastPush_45 : decode cX9_lastPush 45 = .ok (.iload_n 2, 1) := by decide +kernel
theorem dX9_lastPush_46 : decode cX9_lastPush 46 = .ok (.invokevirtual 215, 3) := by decide +kernel
theorem dX9_lastPush_49 : decode cX9_lastPush 49 = .ok (.iload 4, 2) := by decide +kernel
theorem dX9_lastPush_51 : decode cX9_lastPush 51 = .ok (.ifCond .eq 5, 3) := by decide +kernel
theorem dX9_lastPush_54 : decode cX9_lastPush 54 = .ok (.iload_n 3, 1) := by decide +kernel
theorem dX9_lastPush_55 : decode cX9_lastPush 55 = .ok (.ireturn, 1) := by decide +kernel
theorem dX9_lastPush_56 : decode cX9_lastPush 56 = .ok (.iinc 3 1, 3) := by decide +kernel
theorem dX9_lastPush_59 : decode cX9_lastPush 59 = .ok (.goto (-52), 3) := by decide +kernel
theorem dX9_lastPush_62 : decode cX9_lastPush 62 = .ok (.iconst (-1), 1) := by decide +kernel
theorem dX9_lastPush_63 : decode cX9_lastPush 63 = .ok (.ireturn, 1) := by decide +kernel
theorem dX9_findFewest_0 : decode cX9_findFewest 0 = .ok (.aload_n 0, 1) := by decide +kernel
theorem dX9_findFewest_1 : decode cX9_findFewest 1 = .ok (.iconst (-1), 1) := by decide +kernel
theorem dX9_findFewest_2 : decode cX9_findFewest 2 = .ok (.invokevirtual 198, 3) := by decide +kernel
theorem dX9_findFewest_5 : decode cX9_findFewest 5 = .ok (.aload_n 0, 1) := by decide +kernel
theorem dX9_findFewest_6 : decode cX9_findFewest 6 = .ok (.getfield 55, 3) := by decide +kernel
theorem dX9_findFewest_9 : decode cX9_findFewest 9 = .ok (.iload_n 1, 1) := by decide +kernel
theorem dX9_findFewest_10 : decode cX9_findFewest 10 = .ok (.iaload, 1) := by decide +kernel
theorem dX9_findFewest_11 : decode cX9_findFewest 11 = .ok (.ifCond .ge 19, 3) := by decide +kernel
theorem dX9_findFewest_14 : decode cX9_findFewest 14 = .ok (.aload_n 0, 1) := by decide +kernel
theorem dX9_findFewest_15 : decode cX9_findFewest 15 = .ok (.getfield 55, 3) := by decide +kernel
theorem dX9_findFewest_18 : decode cX9_findFewest 18 = .ok (.iload_n 1, 1) := by decide +kernel
theorem dX9_findFewest_19 : decode cX9_findFewest 19 = .ok (.iaload, 1) := by decide +kernel
theorem dX9_findFewest_20 : decode cX9_findFewest 20 = .ok (.iconst (-1), 1) := by decide +kernel
theorem dX9_findFewest_21 : decode cX9_findFewest 21 = .ok (.if_icmp .ne 7, 3) := by decide +kernel
theorem dX9_findFewest_24 : decode cX9_findFewest 24 = .ok (.iconst 0, 1) := by decide +kernel
theorem dX9_findFewest_25 : decode cX9_findFewest 25 = .ok (.goto 4, 3) := by decide +kernel
theorem dX9_findFewest_28 : decode cX9_findFewest 28 = .ok (.iconst 4, 1) := by decide +kernel
theorem dX9_findFewest_29 : decode cX9_findFewest 29 = .ok (.ireturn, 1) := by decide +kernel
theorem dX9_findFewest_30 : decode cX9_findFewest 30 = .ok (.aload_n 0, 1) := by decide +kernel
theorem dX9_findFewest_31 : decode cX9_findFewest 31 = .ok (.getfield 61, 3) := by decide +kernel
theorem dX9_findFewest_34 : decode cX9_findFewest 34 = .ok (.iconst 0, 1) := by decide +kernel
theorem dX9_findFewest_35 : decode cX9_findFewest 35 = .ok (.aload_n 0, 1) := by decide +kernel
theorem dX9_findFewest_36 : decode cX9_findFewest 36 = .ok (.iload_n 1, 1) := by decide +kernel
theorem dX9_findFewest_37 : decode cX9_findFewest 37 = .ok (.iconst 0, 1) := by decide +kernel
theorem dX9_findFewest_38 : decode cX9_findFewest 38 = .ok (.invokevirtual 218, 3) := by decide +kernel
theorem dX9_findFewest_41 : decode cX9_findFewest 41 = .ok (.iastore, 1) := by decide +kernel
theorem dX9_findFewest_42 : decode cX9_findFewest 42 = .ok (.aload_n 0, 1) := by decide +kernel
theorem dX9_findFewest_43 : decode cX9_findFewest 43 = .ok (.getfield 61, 3) := by decide +kernel
theorem dX9_findFewest_46 : decode cX9_findFewest 46 = .ok (.iconst 0, 1) := by decide +kernel
theorem dX9_findFewest_47 : decode cX9_findFewest 47 = .ok (.iaload, 1) := by decide +kernel
theorem dX9_findFewest_48 : decode cX9_findFewest 48 = .ok (.ifCond .lt 5, 3) := by decide +kernel
theorem dX9_findFewest_51 : decode cX9_findFewest 51 = .ok (.iconst 1, 1) := by decide +kernel
theorem dX9_findFewest_52 : decode cX9_findFewest 52 = .ok (.ireturn, 1) := by decide +kernel
theorem dX9_findFewest_53 : decode cX9_findFewest 53 = .ok (.iconst 0, 1) := by decide +kernel
theorem dX9_findFewest_54 : decode cX9_findFewest 54 = .ok (.istore_n 2, 1) := by decide +kernel
theorem dX9_findFewest_55 : decode cX9_findFewest 55 = .ok (.iload_n 2, 1) := by decide +kernel
theorem dX9_findFewest_56 : decode cX9_findFewest 56 = .ok (.sipush 200, 3) := by decide +kernel
theorem dX9_findFewest_59 : decode cX9_findFewest 59 = .ok (.if_icmp .ge 57, 3) := by decide +kernel
theorem dX9_findFewest_62 : decode cX9_findFewest 62 = .ok (.aload_n 0, 1) := by decide +kernel
theorem dX9_findFewest_63 : decode cX9_findFewest 63 = .ok (.iload_n 2, 1) := by decide +kernel
theorem dX9_findFewest_64 : decode cX9_findFewest 64 = .ok (.invokevirtual 212, 3) := by decide +kernel
theorem dX9_findFewest_67 : decode cX9_findFewest 67 = .ok (.ifCond .eq 43, 3) := by decide +kernel
theorem dX9_findFewest_70 : decode cX9_findFewest 70 = .ok (.aload_n 0, 1) := by decide +kernel
theorem dX9_findFewest_71 : decode cX9_findFewest 71 = .ok (.iload_n 2, 1) := by decide +kernel
theorem dX9_findFewest_72 : decode cX9_findFewest 72 = .ok (.invokevirtual 191, 3) := by decide +kernel
theorem dX9_findFewest_75 : decode cX9_findFewest 75 = .ok (.aload_n 0, 1) := by decide +kernel
theorem dX9_findFewest_76 : decode cX9_findFewest 76 = .ok (.getfield 61, 3) := by decide +kernel
theorem dX9_findFewest_79 : decode cX9_findFewest 79 = .ok (.iconst 0, 1) := by decide +kernel
theorem dX9_findFewest_80 : decode cX9_findFewest 80 = .ok (.iload_n 2, 1) := by decide +kernel
theorem dX9_findFewest_81 : decode cX9_findFewest 81 = .ok (.iastore, 1) := by decide +kernel
theorem dX9_findFewest_82 : decode cX9_findFewest 82 = .ok (.aload_n 0, 1) := by decide +kernel
theorem dX9_findFewest_83 : decode cX9_findFewest 83 = .ok (.getfield 61, 3) := by decide +kernel
theorem dX9_findFewest_86 : decode cX9_findFewest 86 = .ok (.iconst 1, 1) := by decide +kernel
theorem dX9_findFewest_87 : decode cX9_findFewest 87 = .ok (.aload_n 0, 1) := by decide +kernel
theorem dX9_findFewest_88 : decode cX9_findFewest 88 = .ok (.iload_n 1, 1) := by decide +kernel
theorem dX9_findFewest_89 : decode cX9_findFewest 89 = .ok (.iconst 1, 1) := by decide +kernel
theorem dX9_findFewest_90 : decode cX9_findFewest 90 = .ok (.invokevirtual 218, 3) := by decide +kernel
theorem dX9_findFewest_93 : decode cX9_findFewest 93 = .ok (.iastore, 1) := by decide +kernel
theorem dX9_findFewest_94 : decode cX9_findFewest 94 = .ok (.aload_n 0, 1) := by decide +kernel
theorem dX9_findFewest_95 : decode cX9_findFewest 95 = .ok (.iconst 0, 1) := by decide +kernel
theorem dX9_findFewest_96 : decode cX9_findFewest 96 = .ok (.invokevirtual 215, 3) := by decide +kernel
theorem dX9_findFewest_99 : decode cX9_findFewest 99 = .ok (.aload_n 0, 1) := by decide +kernel
theorem dX9_findFewest_100 : decode cX9_findFewest 100 = .ok (.getfield 61, 3) := by decide +kernel
theorem dX9_findFewest_103 : decode cX9_findFewest 103 = .ok (.iconst 1, 1) := by decide +kernel
theorem dX9_findFewest_104 : decode cX9_findFewest 104 = .ok (.iaload, 1) := by decide +kernel
theorem dX9_findFewest_105 : decode cX9_findFewest 105 = .ok (.ifCond .lt 5, 3) := by decide +kernel
theorem dX9_findFewest_108 : decode cX9_findFewest 108 = .ok (.iconst 2, 1) := by decide +kernel
theorem dX9_findFewest_109 : decode cX9_findFewest 109 = .ok (.ireturn, 1) := by decide +kernel
theorem dX9_findFewest_110 : decode cX9_findFewest 110 = .ok (.iinc 2 1, 3) := by decide +kernel
theorem dX9_findFewest_113 : decode cX9_findFewest 113 = .ok (.goto (-58), 3) := by decide +kernel
theorem dX9_findFewest_116 : decode cX9_findFewest 116 = .ok (.aload_n 0, 1) := by decide +kernel
theorem dX9_findFewest_117 : decode cX9_findFewest 117 = .ok (.iload_n 1, 1) := by decide +kernel
theorem dX9_findFewest_118 : decode cX9_findFewest 118 = .ok (.invokevirtual 221, 3) := by decide +kernel
theorem dX9_findFewest_121 : decode cX9_findFewest 121 = .ok (.ifCond .eq 7, 3) := by decide +kernel
theorem dX9_findFewest_124 : decode cX9_findFewest 124 = .ok (.iconst 3, 1) := by decide +kernel
theorem dX9_findFewest_125 : decode cX9_findFewest 125 = .ok (.goto 4, 3) := by decide +kernel
theorem dX9_findFewest_128 : decode cX9_findFewest 128 = .ok (.iconst 4, 1) := by decide +kernel
theorem dX9_findFewest_129 : decode cX9_findFewest 129 = .ok (.ireturn, 1) := by decide +kernel
theorem dX9_findThree_0 : decode cX9_findThree 0 = .ok (.iconst 0, 1) := by decide +kernel
theorem dX9_findThree_1 : decode cX9_findThree 1 = .ok (.istore_n 2, 1) := by decide +kernel
theorem dX9_findThree_2 : decode cX9_findThree 2 = .ok (.iload_n 2, 1) := by decide +kernel
theorem dX9_findThree_3 : decode cX9_findThree 3 = .ok (.sipush 200, 3) := by decide +kernel
theorem dX9_findThree_6 : decode cX9_findThree 6 = .ok (.if_icmp .ge 102, 3) := by decide +kernel
theorem dX9_findThree_9 : decode cX9_findThree 9 = .ok (.aload_n 0, 1) := by decide +kernel
theorem dX9_findThree_10 : decode cX9_findThree 10 = .ok (.iload_n 2, 1) := by decide +kernel
theorem dX9_findThree_11 : decode cX9_findThree 11 = .ok (.invokevirtual 212, 3) := by decide +kernel
theorem dX9_findThree_14 : decode cX9_findThree 14 = .ok (.ifCond .eq 88, 3) := by decide +kernel
theorem dX9_findThree_17 : decode cX9_findThree 17 = .ok (.aload_n 0, 1) := by decide +kernel
theorem dX9_findThree_18 : decode cX9_findThree 18 = .ok (.iload_n 2, 1) := by decide +kernel
theorem dX9_findThree_19 : decode cX9_findThree 19 = .ok (.invokevirtual 191, 3) := by decide +kernel
theorem dX9_findThree_22 : decode cX9_findThree 22 = .ok (.aload_n 0, 1) := by decide +kernel
theorem dX9_findThree_23 : decode cX9_findThree 23 = .ok (.iconst 1, 1) := by decide +kernel
theorem dX9_findThree_24 : decode cX9_findThree 24 = .ok (.invokevirtual 206, 3) := by decide +kernel
theorem dX9_findThree_27 : decode cX9_findThree 27 = .ok (.iconst 0, 1) := by decide +kernel
theorem dX9_findThree_28 : decode cX9_findThree 28 = .ok (.istore_n 3, 1) := by decide +kernel
theorem dX9_findThree_29 : decode cX9_findThree 29 = .ok (.iload_n 3, 1) := by decide +kernel
theorem dX9_findThree_30 : decode cX9_findThree 30 = .ok (.sipush 200, 3) := by decide +kernel
theorem dX9_findThree_33 : decode cX9_findThree 33 = .ok (.if_icmp .ge 64, 3) := by decide +kernel
theorem dX9_findThree_36 : decode cX9_findThree 36 = .ok (.aload_n 0, 1) := by decide +kernel
theorem dX9_findThree_37 : decode cX9_findThree 37 = .ok (.iload_n 3, 1) := by decide +kernel
theorem dX9_findThree_38 : decode cX9_findThree 38 = .ok (.invokevirtual 212, 3) := by decide +kernel
theorem dX9_findThree_41 : decode cX9_findThree 41 = .ok (.ifCond .eq 50, 3) := by decide +kernel
theorem dX9_findThree_44 : decode cX9_findThree 44 = .ok (.aload_n 0, 1) := by decide +kernel
theorem dX9_findThree_45 : decode cX9_findThree 45 = .ok (.iload_n 3, 1) := by decide +kernel
theorem dX9_findThree_46 : decode cX9_findThree 46 = .ok (.invokevirtual 191, 3) := by decide +kernel
theorem dX9_findThree_49 : decode cX9_findThree 49 = .ok (.aload_n 0, 1) := by decide +kernel
theorem dX9_findThree_50 : decode cX9_findThree 50 = .ok (.getfield 61, 3) := by decide +kernel
theorem dX9_findThree_53 : decode cX9_findThree 53 = .ok (.iconst 0, 1) := by decide +kernel
theorem dX9_findThree_54 : decode cX9_findThree 54 = .ok (.iload_n 2, 1) := by decide +kernel
theorem dX9_findThree_55 : decode cX9_findThree 55 = .ok (.iastore, 1) := by decide +kernel
theorem dX9_findThree_56 : decode cX9_findThree 56 = .ok (.aload_n 0, 1) := by decide +kernel
theorem dX9_findThree_57 : decode cX9_findThree 57 = .ok (.getfield 61, 3) := by decide +kernel
theorem dX9_findThree_60 : decode cX9_findThree 60 = .ok (.iconst 1, 1) := by decide +kernel
theorem dX9_findThree_61 : decode cX9_findThree 61 = .ok (.iload_n 3, 1) := by decide +kernel
theorem dX9_findThree_62 : decode cX9_findThree 62 = .ok (.iastore, 1) := by decide +kernel
theorem dX9_findThree_63 : decode cX9_findThree 63 = .ok (.aload_n 0, 1) := by decide +kernel
theorem dX9_findThree_64 : decode cX9_findThree 64 = .ok (.getfield 61, 3) := by decide +kernel
theorem dX9_findThree_67 : decode cX9_findThree 67 = .ok (.iconst 2, 1) := by decide +kernel
theorem dX9_findThree_68 : decode cX9_findThree 68 = .ok (.aload_n 0, 1) := by decide +kernel
theorem dX9_findThree_69 : decode cX9_findThree 69 = .ok (.iload_n 1, 1) := by decide +kernel
theorem dX9_findThree_70 : decode cX9_findThree 70 = .ok (.iconst 2, 1) := by decide +kernel
theorem dX9_findThree_71 : decode cX9_findThree 71 = .ok (.invokevirtual 218, 3) := by decide +kernel
theorem dX9_findThree_74 : decode cX9_findThree 74 = .ok (.iastore, 1) := by decide +kernel
theorem dX9_findThree_75 : decode cX9_findThree 75 = .ok (.aload_n 0, 1) := by decide +kernel
theorem dX9_findThree_76 : decode cX9_findThree 76 = .ok (.iconst 1, 1) := by decide +kernel
theorem dX9_findThree_77 : decode cX9_findThree 77 = .ok (.invokevirtual 215, 3) := by decide +kernel
theorem dX9_findThree_80 : decode cX9_findThree 80 = .ok (.aload_n 0, 1) := by decide +kernel
theorem dX9_findThree_81 : decode cX9_findThree 81 = .ok (.getfield 61, 3) := by decide +kernel
theorem dX9_findThree_84 : decode cX9_findThree 84 = .ok (.iconst 2, 1) := by decide +kernel
theorem dX9_findThree_85 : decode cX9_findThree 85 = .ok (.iaload, 1) := by decide +kernel
theorem dX9_findThree_86 : decode cX9_findThree 86 = .ok (.ifCond .lt 5, 3) := by decide +kernel
theorem dX9_findThree_89 : decode cX9_findThree 89 = .ok (.iconst 1, 1) := by decide +kernel
theorem dX9_findThree_90 : decode cX9_findThree 90 = .ok (.ireturn, 1) := by decide +kernel
theorem dX9_findThree_91 : decode cX9_findThree 91 = .ok (.iinc 3 1, 3) := by decide +kernel
theorem dX9_findThree_94 : decode cX9_findThree 94 = .ok (.goto (-65), 3) := by decide +kernel
theorem dX9_findThree_97 : decode cX9_findThree 97 = .ok (.aload_n 0, 1) := by decide +kernel
theorem dX9_findThree_98 : decode cX9_findThree 98 = .ok (.iconst 0, 1) := by decide +kernel
theorem dX9_findThree_99 : decode cX9_findThree 99 = .ok (.invokevirtual 215, 3) := by decide +kernel
theorem dX9_findThree_102 : decode cX9_findThree 102 = .ok (.iinc 2 1, 3) := by decide +kernel
theorem dX9_findThree_105 : decode cX9_findThree 105 = .ok (.goto (-103), 3) := by decide +kernel
theorem dX9_findThree_108 : decode cX9_findThree 108 = .ok (.iconst 0, 1) := by decide +kernel
theorem dX9_findThree_109 : decode cX9_findThree 109 = .ok (.ireturn, 1) := by decide +kernel
theorem dX9_fewest_0 : decode cX9_fewest 0 = .ok (.aload_n 0, 1) := by decide +kernel
theorem dX9_fewest_1 : decode cX9_fewest 1 = .ok (.iload_n 1, 1) := by decide +kernel
theorem dX9_fewest_2 : decode cX9_fewest 2 = .ok (.invokevirtual 195, 3) := by decide +kernel
theorem dX9_fewest_5 : decode cX9_fewest 5 = .ok (.ifCond .eq 8, 3) := by decide +kernel
theorem dX9_fewest_8 : decode cX9_fewest 8 = .ok (.iload_n 2, 1) := by decide +kernel
theorem dX9_fewest_9 : decode cX9_fewest 9 = .ok (.iconst (-1), 1) := by decide +kernel
theorem dX9_fewest_10 : decode cX9_fewest 10 = .ok (.if_icmp .ge 5, 3) := by decide +kernel
theorem dX9_fewest_13 : decode cX9_fewest 13 = .ok (.iconst (-1), 1) := by decide +kernel
theorem dX9_fewest_14 : decode cX9_fewest 14 = .ok (.ireturn, 1) := by decide +kernel
theorem dX9_fewest_15 : decode cX9_fewest 15 = .ok (.aload_n 0, 1) := by decide +kernel
theorem dX9_fewest_16 : decode cX9_fewest 16 = .ok (.iload_n 1, 1) := by decide +kernel
theorem dX9_fewest_17 : decode cX9_fewest 17 = .ok (.invokevirtual 224, 3) := by decide +kernel
theorem dX9_fewest_20 : decode cX9_fewest 20 = .ok (.istore_n 3, 1) := by decide +kernel
theorem dX9_fewest_21 : decode cX9_fewest 21 = .ok (.iload_n 3, 1) := by decide +kernel
theorem dX9_fewest_22 : decode cX9_fewest 22 = .ok (.iconst 4, 1) := by decide +kernel
theorem dX9_fewest_23 : decode cX9_fewest 23 = .ok (.if_icmp .ne 6, 3) := by decide +kernel
theorem dX9_fewest_26 : decode cX9_fewest 26 = .ok (.bipush (-9), 2) := by decide +kernel
theorem dX9_fewest_28 : decode cX9_fewest 28 = .ok (.ireturn, 1) := by decide +kernel
theorem dX9_fewest_29 : decode cX9_fewest 29 = .ok (.iload_n 2, 1) := by decide +kernel
theorem dX9_fewest_30 : decode cX9_fewest 30 = .ok (.iconst (-1), 1) := by decide +kernel
theorem dX9_fewest_31 : decode cX9_fewest 31 = .ok (.if_icmp .ne 7, 3) := by decide +kernel
theorem dX9_fewest_34 : decode cX9_fewest 34 = .ok (.iload_n 3, 1) := by decide +kernel
theorem dX9_fewest_35 : decode cX9_fewest 35 = .ok (.goto 19, 3) := by decide +kernel
theorem dX9_fewest_38 : decode cX9_fewest 38 = .ok (.iload_n 2, 1) := by decide +kernel
theorem dX9_fewest_39 : decode cX9_fewest 39 = .ok (.iload_n 3, 1) := by decide +kernel
theorem dX9_fewest_40 : decode cX9_fewest 40 = .ok (.if_icmp .ge 12, 3) := by decide +kernel
theorem dX9_fewest_43 : decode cX9_fewest 43 = .ok (.aload_n 0, 1) := by decide +kernel
theorem dX9_fewest_44 : decode cX9_fewest 44 = .ok (.getfield 61, 3) := by decide +kernel
theorem dX9_fewest_47 : decode cX9_fewest 47 = .ok (.iload_n 2, 1) := by decide +kernel
theorem dX9_fewest_48 : decode cX9_fewest 48 = .ok (.iaload, 1) := by decide +kernel
theorem dX9_fewest_49 : decode cX9_fewest 49 = .ok (.goto 5, 3) := by decide +kernel
theorem dX9_fewest_52 : decode cX9_fewest 52 = .ok (.bipush (-9), 2) := by decide +kernel
theorem dX9_fewest_54 : decode cX9_fewest 54 = .ok (.ireturn, 1) := by decide +kernel
theorem dX9_hadNow_0 : decode cX9_hadNow 0 = .ok (.iconst 0, 1) := by decide +kernel
theorem dX9_hadNow_1 : decode cX9_hadNow 1 = .ok (.istore_n 1, 1) := by decide +kernel
theorem dX9_hadNow_2 : decode cX9_hadNow 2 = .ok (.iconst 0, 1) := by decide +kernel
theorem dX9_hadNow_3 : decode cX9_hadNow 3 = .ok (.istore_n 2, 1) := by decide +kernel
theorem dX9_hadNow_4 : decode cX9_hadNow 4 = .ok (.iload_n 2, 1) := by decide +kernel
theorem dX9_hadNow_5 : decode cX9_hadNow 5 = .ok (.aload_n 0, 1) := by decide +kernel
theorem dX9_hadNow_6 : decode cX9_hadNow 6 = .ok (.getfield 75, 3) := by decide +kernel
theorem dX9_hadNow_9 : decode cX9_hadNow 9 = .ok (.if_icmp .ge 27, 3) := by decide +kernel
theorem dX9_hadNow_12 : decode cX9_hadNow 12 = .ok (.iload_n 1, 1) := by decide +kernel
theorem dX9_hadNow_13 : decode cX9_hadNow 13 = .ok (.aload_n 0, 1) := by decide +kernel
theorem dX9_hadNow_14 : decode cX9_hadNow 14 = .ok (.getfield 55, 3) := by decide +kernel
theorem dX9_hadNow_17 : decode cX9_hadNow 17 = .ok (.iload_n 2, 1) := by decide +kernel
theorem dX9_hadNow_18 : decode cX9_hadNow 18 = .ok (.iaload, 1) := by decide +kernel
theorem dX9_hadNow_19 : decode cX9_hadNow 19 = .ok (.iconst (-1), 1) := by decide +kernel
theorem dX9_hadNow_20 : decode cX9_hadNow 20 = .ok (.if_icmp .ne 7, 3) := by decide +kernel
theorem dX9_hadNow_23 : decode cX9_hadNow 23 = .ok (.iconst 1, 1) := by decide +kernel
theorem dX9_hadNow_24 : decode cX9_hadNow 24 = .ok (.goto 4, 3) := by decide +kernel
theorem dX9_hadNow_27 : decode cX9_hadNow 27 = .ok (.iconst 0, 1) := by decide +kernel
theorem dX9_hadNow_28 : decode cX9_hadNow 28 = .ok (.iadd, 1) := by decide +kernel
theorem dX9_hadNow_29 : decode cX9_hadNow 29 = .ok (.istore_n 1, 1) := by decide +kernel
theorem dX9_hadNow_30 : decode cX9_hadNow 30 = .ok (.iinc 2 1, 3) := by decide +kernel
theorem dX9_hadNow_33 : decode cX9_hadNow 33 = .ok (.goto (-29), 3) := by decide +kernel
theorem dX9_hadNow_36 : decode cX9_hadNow 36 = .ok (.iload_n 1, 1) := by decide +kernel
theorem dX9_hadNow_37 : decode cX9_hadNow 37 = .ok (.ireturn, 1) := by decide +kernel
theorem dX9_mostByOne_0 : decode cX9_mostByOne 0 = .ok (.aload_n 0, 1) := by decide +kernel
theorem dX9_mostByOne_1 : decode cX9_mostByOne 1 = .ok (.iload_n 1, 1) := by decide +kernel
theorem dX9_mostByOne_2 : decode cX9_mostByOne 2 = .ok (.invokevirtual 206, 3) := by decide +kernel
theorem dX9_mostByOne_5 : decode cX9_mostByOne 5 = .ok (.aload_n 0, 1) := by decide +kernel
theorem dX9_mostByOne_6 : decode cX9_mostByOne 6 = .ok (.invokevirtual 227, 3) := by decide +kernel
theorem dX9_mostByOne_9 : decode cX9_mostByOne 9 = .ok (.istore_n 2, 1) := by decide +kernel
theorem dX9_mostByOne_10 : decode cX9_mostByOne 10 = .ok (.iconst 0, 1) := by decide +kernel
theorem dX9_mostByOne_11 : decode cX9_mostByOne 11 = .ok (.istore_n 3, 1) := by decide +kernel
theorem dX9_mostByOne_12 : decode cX9_mostByOne 12 = .ok (.iload_n 3, 1) := by decide +kernel
theorem dX9_mostByOne_13 : decode cX9_mostByOne 13 = .ok (.sipush 200, 3) := by decide +kernel
theorem dX9_mostByOne_16 : decode cX9_mostByOne 16 = .ok (.if_icmp .ge 46, 3) := by decide +kernel
theorem dX9_mostByOne_19 : decode cX9_mostByOne 19 = .ok (.aload_n 0, 1) := by decide +kernel
theorem dX9_mostByOne_20 : decode cX9_mostByOne 20 = .ok (.iload_n 3, 1) := by decide +kernel
theorem dX9_mostByOne_21 : decode cX9_mostByOne 21 = .ok (.invokevirtual 212, 3) := by decide +kernel
theorem dX9_mostByOne_24 : decode cX9_mostByOne 24 = .ok (.ifCond .eq 32, 3) := by decide +kernel
theorem dX9_mostByOne_27 : decode cX9_mostByOne 27 = .ok (.aload_n 0, 1) := by decide +kernel
theorem dX9_mostByOne_28 : decode cX9_mostByOne 28 = .ok (.iload_n 3, 1) := by decide +kernel
theorem dX9_mostByOne_29 : decode cX9_mostByOne 29 = .ok (.invokevirtual 191, 3) := by decide +kernel
theorem dX9_mostByOne_32 : decode cX9_mostByOne 32 = .ok (.aload_n 0, 1) := by decide +kernel
theorem dX9_mostByOne_33 : decode cX9_mostByOne 33 = .ok (.invokevirtual 227, 3) := by decide +kernel
theorem dX9_mostByOne_36 : decode cX9_mostByOne 36 = .ok (.istore 4, 2) := by decide +kernel
theorem dX9_mostByOne_38 : decode cX9_mostByOne 38 = .ok (.iload 4, 2) := by decide +kernel
theorem dX9_mostByOne_40 : decode cX9_mostByOne 40 = .ok (.iload_n 2, 1) := by decide +kernel
theorem dX9_mostByOne_41 : decode cX9_mostByOne 41 = .ok (.if_icmp .le 8, 3) := by decide +kernel
theorem dX9_mostByOne_44 : decode cX9_mostByOne 44 = .ok (.iload 4, 2) := by decide +kernel
theorem dX9_mostByOne_46 : decode cX9_mostByOne 46 = .ok (.goto 4, 3) := by decide +kernel
theorem dX9_mostByOne_49 : decode cX9_mostByOne 49 = .ok (.iload_n 2, 1) := by decide +kernel
theorem dX9_mostByOne_50 : decode cX9_mostByOne 50 = .ok (.istore_n 2, 1) := by decide +kernel
theorem dX9_mostByOne_51 : decode cX9_mostByOne 51 = .ok (.aload_n 0, 1) := by decide +kernel
theorem dX9_mostByOne_52 : decode cX9_mostByOne 52 = .ok (.iload_n 1, 1) := by decide +kernel
theorem dX9_mostByOne_53 : decode cX9_mostByOne 53 = .ok (.invokevirtual 215, 3) := by decide +kernel
theorem dX9_mostByOne_56 : decode cX9_mostByOne 56 = .ok (.iinc 3 1, 3) := by decide +kernel
theorem dX9_mostByOne_59 : decode cX9_mostByOne 59 = .ok (.goto (-47), 3) := by decide +kernel
theorem dX9_mostByOne_62 : decode cX9_mostByOne 62 = .ok (.iload_n 2, 1) := by decide +kernel
theorem dX9_mostByOne_63 : decode cX9_mostByOne 63 = .ok (.ireturn, 1) := by decide +kernel
theorem dX9_mostByTwo_0 : decode cX9_mostByTwo 0 = .ok (.aload_n 0, 1) := by decide +kernel
theorem dX9_mostByTwo_1 : decode cX9_mostByTwo 1 = .ok (.iload_n 1, 1) := by decide +kernel
theorem dX9_mostByTwo_2 : decode cX9_mostByTwo 2 = .ok (.invokevirtual 206, 3) := by decide +kernel
theorem dX9_mostByTwo_5 : decode cX9_mostByTwo 5 = .ok (.aload_n 0, 1) := by decide +kernel
theorem dX9_mostByTwo_6 : decode cX9_mostByTwo 6 = .ok (.invokevirtual 227, 3) := by decide +kernel
theorem dX9_mostByTwo_9 : decode cX9_mostByTwo 9 = .ok (.istore_n 2, 1) := by decide +kernel
theorem dX9_mostByTwo_10 : decode cX9_mostByTwo 10 = .ok (.iconst 0, 1) := by decide +kernel
theorem dX9_mostByTwo_11 : decode cX9_mostByTwo 11 = .ok (.istore_n 3, 1) := by decide +kernel
theorem dX9_mostByTwo_12 : decode cX9_mostByTwo 12 = .ok (.iload_n 3, 1) := by decide +kernel
theorem dX9_mostByTwo_13 : decode cX9_mostByTwo 13 = .ok (.sipush 200, 3) := by decide +kernel
theorem dX9_mostByTwo_16 : decode cX9_mostByTwo 16 = .ok (.if_icmp .ge 49, 3) := by decide +kernel
theorem dX9_mostByTwo_19 : decode cX9_mostByTwo 19 = .ok (.aload_n 0, 1) := by decide +kernel
theorem dX9_mostByTwo_20 : decode cX9_mostByTwo 20 = .ok (.iload_n 3, 1) := by decide +kernel
theorem dX9_mostByTwo_21 : decode cX9_mostByTwo 21 = .ok (.invokevirtual 212, 3) := by decide +kernel
theorem dX9_mostByTwo_24 : decode cX9_mostByTwo 24 = .ok (.ifCond .eq 35, 3) := by decide +kernel
theorem dX9_mostByTwo_27 : decode cX9_mostByTwo 27 = .ok (.aload_n 0, 1) := by decide +kernel
theorem dX9_mostByTwo_28 : decode cX9_mostByTwo 28 = .ok (.iload_n 3, 1) := by decide +kernel
theorem dX9_mostByTwo_29 : decode cX9_mostByTwo 29 = .ok (.invokevirtual 191, 3) := by decide +kernel
theorem dX9_mostByTwo_32 : decode cX9_mostByTwo 32 = .ok (.aload_n 0, 1) := by decide +kernel
theorem dX9_mostByTwo_33 : decode cX9_mostByTwo 33 = .ok (.iload_n 1, 1) := by decide +kernel
theorem dX9_mostByTwo_34 : decode cX9_mostByTwo 34 = .ok (.iconst 1, 1) := by decide +kernel
theorem dX9_mostByTwo_35 : decode cX9_mostByTwo 35 = .ok (.iadd, 1) := by decide +kernel
theorem dX9_mostByTwo_36 : decode cX9_mostByTwo 36 = .ok (.invokevirtual 231, 3) := by decide +kernel
theorem dX9_mostByTwo_39 : decode cX9_mostByTwo 39 = .ok (.istore 4, 2) := by decide +kernel
theorem dX9_mostByTwo_41 : decode cX9_mostByTwo 41 = .ok (.iload 4, 2) := by decide +kernel
theorem dX9_mostByTwo_43 : decode cX9_mostByTwo 43 = .ok (.iload_n 2, 1) := by decide +kernel
theorem dX9_mostByTwo_44 : decode cX9_mostByTwo 44 = .ok (.if_icmp .le 8, 3) := by decide +kernel
theorem dX9_mostByTwo_47 : decode cX9_mostByTwo 47 = .ok (.iload 4, 2) := by decide +kernel
theorem dX9_mostByTwo_49 : decode cX9_mostByTwo 49 = .ok (.goto 4, 3) := by decide +kernel
theorem dX9_mostByTwo_52 : decode cX9_mostByTwo 52 = .ok (.iload_n 2, 1) := by decide +kernel
theorem dX9_mostByTwo_53 : decode cX9_mostByTwo 53 = .ok (.istore_n 2, 1) := by decide +kernel
theorem dX9_mostByTwo_54 : decode cX9_mostByTwo 54 = .ok (.aload_n 0, 1) := by decide +kernel
theorem dX9_mostByTwo_55 : decode cX9_mostByTwo 55 = .ok (.iload_n 1, 1) := by decide +kernel
theorem dX9_mostByTwo_56 : decode cX9_mostByTwo 56 = .ok (.invokevirtual 215, 3) := by decide +kernel
theorem dX9_mostByTwo_59 : decode cX9_mostByTwo 59 = .ok (.iinc 3 1, 3) := by decide +kernel
theorem dX9_mostByTwo_62 : decode cX9_mostByTwo 62 = .ok (.goto (-50), 3) := by decide +kernel
theorem dX9_mostByTwo_65 : decode cX9_mostByTwo 65 = .ok (.iload_n 2, 1) := by decide +kernel
theorem dX9_mostByTwo_66 : decode cX9_mostByTwo 66 = .ok (.ireturn, 1) := by decide +kernel
theorem dX9_mostByThree_0 : decode cX9_mostByThree 0 = .ok (.aload_n 0, 1) := by decide +kernel
theorem dX9_mostByThree_1 : decode cX9_mostByThree 1 = .ok (.iconst 0, 1) := by decide +kernel
theorem dX9_mostByThree_2 : decode cX9_mostByThree 2 = .ok (.invokevirtual 206, 3) := by decide +kernel
theorem dX9_mostByThree_5 : decode cX9_mostByThree 5 = .ok (.aload_n 0, 1) := by decide +kernel
theorem dX9_mostByThree_6 : decode cX9_mostByThree 6 = .ok (.invokevirtual 227, 3) := by decide +kernel
theorem dX9_mostByThree_9 : decode cX9_mostByThree 9 = .ok (.istore_n 1, 1) := by decide +kernel
theorem dX9_mostByThree_10 : decode cX9_mostByThree 10 = .ok (.iconst 0, 1) := by decide +kernel
theorem dX9_mostByThree_11 : decode cX9_mostByThree 11 = .ok (.istore_n 2, 1) := by decide +kernel
theorem dX9_mostByThree_12 : decode cX9_mostByThree 12 = .ok (.iload_n 2, 1) := by decide +kernel
theorem dX9_mostByThree_13 : decode cX9_mostByThree 13 = .ok (.sipush 200, 3) := by decide +kernel
theorem dX9_mostByThree_16 : decode cX9_mostByThree 16 = .ok (.if_icmp .ge 44, 3) := by decide +kernel
theorem dX9_mostByThree_19 : decode cX9_mostByThree 19 = .ok (.aload_n 0, 1) := by decide +kernel
theorem dX9_mostByThree_20 : decode cX9_mostByThree 20 = .ok (.iload_n 2, 1) := by decide +kernel
theorem dX9_mostByThree_21 : decode cX9_mostByThree 21 = .ok (.invokevirtual 212, 3) := by decide +kernel
theorem dX9_mostByThree_24 : decode cX9_mostByThree 24 = .ok (.ifCond .eq 30, 3) := by decide +kernel
theorem dX9_mostByThree_27 : decode cX9_mostByThree 27 = .ok (.aload_n 0, 1) := by decide +kernel
theorem dX9_mostByThree_28 : decode cX9_mostByThree 28 = .ok (.iload_n 2, 1) := by decide +kernel
theorem dX9_mostByThree_29 : decode cX9_mostByThree 29 = .ok (.invokevirtual 191, 3) := by decide +kernel
theorem dX9_mostByThree_32 : decode cX9_mostByThree 32 = .ok (.aload_n 0, 1) := by decide +kernel
theorem dX9_mostByThree_33 : decode cX9_mostByThree 33 = .ok (.iconst 1, 1) := by decide +kernel
theorem dX9_mostByThree_34 : decode cX9_mostByThree 34 = .ok (.invokevirtual 234, 3) := by decide +kernel
theorem dX9_mostByThree_37 : decode cX9_mostByThree 37 = .ok (.istore_n 3, 1) := by decide +kernel
theorem dX9_mostByThree_38 : decode cX9_mostByThree 38 = .ok (.iload_n 3, 1) := by decide +kernel
theorem dX9_mostByThree_39 : decode cX9_mostByThree 39 = .ok (.iload_n 1, 1) := by decide +kernel
theorem dX9_mostByThree_40 : decode cX9_mostByThree 40 = .ok (.if_icmp .le 7, 3) := by decide +kernel
theorem dX9_mostByThree_43 : decode cX9_mostByThree 43 = .ok (.iload_n 3, 1) := by decide +kernel
theorem dX9_mostByThree_44 : decode cX9_mostByThree 44 = .ok (.goto 4, 3) := by decide +kernel
theorem dX9_mostByThree_47 : decode cX9_mostByThree 47 = .ok (.iload_n 1, 1) := by decide +kernel
theorem dX9_mostByThree_48 : decode cX9_mostByThree 48 = .ok (.istore_n 1, 1) := by decide +kernel
theorem dX9_mostByThree_49 : decode cX9_mostByThree 49 = .ok (.aload_n 0, 1) := by decide +kernel
theorem dX9_mostByThree_50 : decode cX9_mostByThree 50 = .ok (.iconst 0, 1) := by decide +kernel
theorem dX9_mostByThree_51 : decode cX9_mostByThree 51 = .ok (.invokevirtual 215, 3) := by decide +kernel
theorem dX9_mostByThree_54 : decode cX9_mostByThree 54 = .ok (.iinc 2 1, 3) := by decide +kernel
theorem dX9_mostByThree_57 : decode cX9_mostByThree 57 = .ok (.goto (-45), 3) := by decide +kernel
theorem dX9_mostByThree_60 : decode cX9_mostByThree 60 = .ok (.iload_n 1, 1) := by decide +kernel
theorem dX9_mostByThree_61 : decode cX9_mostByThree 61 = .ok (.ireturn, 1) := by decide +kernel
theorem dX9_most_0 : decode cX9_most 0 = .ok (.iload_n 1, 1) := by decide +kernel
theorem dX9_most_1 : decode cX9_most 1 = .ok (.i2l, 1) := by decide +kernel
theorem dX9_most_2 : decode cX9_most 2 = .ok (.lconst 0, 1) := by decide +kernel
theorem dX9_most_3 : decode cX9_most 3 = .ok (.ldc2_w 81, 3) := by decide +kernel
theorem dX9_most_6 : decode cX9_most 6 = .ok (.invokestatic 71, 3) := by decide +kernel
theorem dX9_most_9 : decode cX9_most 9 = .ok (.ifCond .ne 6, 3) := by decide +kernel
theorem dX9_most_12 : decode cX9_most 12 = .ok (.bipush (-2), 2) := by decide +kernel
theorem dX9_most_14 : decode cX9_most 14 = .ok (.ireturn, 1) := by decide +kernel
theorem dX9_most_15 : decode cX9_most 15 = .ok (.aload_n 0, 1) := by decide +kernel
theorem dX9_most_16 : decode cX9_most 16 = .ok (.getfield 68, 3) := by decide +kernel
theorem dX9_most_19 : decode cX9_most 19 = .ok (.ifCond .ne 6, 3) := by decide +kernel
theorem dX9_most_22 : decode cX9_most 22 = .ok (.bipush (-3), 2) := by decide +kernel
theorem dX9_most_24 : decode cX9_most 24 = .ok (.ireturn, 1) := by decide +kernel
theorem dX9_most_25 : decode cX9_most 25 = .ok (.aload_n 0, 1) := by decide +kernel
theorem dX9_most_26 : decode cX9_most 26 = .ok (.iconst (-1), 1) := by decide +kernel
theorem dX9_most_27 : decode cX9_most 27 = .ok (.invokevirtual 198, 3) := by decide +kernel
theorem dX9_most_30 : decode cX9_most 30 = .ok (.iload_n 1, 1) := by decide +kernel
theorem dX9_most_31 : decode cX9_most 31 = .ok (.ifCond .ne 10, 3) := by decide +kernel
theorem dX9_most_34 : decode cX9_most 34 = .ok (.aload_n 0, 1) := by decide +kernel
theorem dX9_most_35 : decode cX9_most 35 = .ok (.invokevirtual 227, 3) := by decide +kernel
theorem dX9_most_38 : decode cX9_most 38 = .ok (.goto 33, 3) := by decide +kernel
theorem dX9_most_41 : decode cX9_most 41 = .ok (.iload_n 1, 1) := by decide +kernel
theorem dX9_most_42 : decode cX9_most 42 = .ok (.iconst 1, 1) := by decide +kernel
theorem dX9_most_43 : decode cX9_most 43 = .ok (.if_icmp .ne 11, 3) := by decide +kernel
theorem dX9_most_46 : decode cX9_most 46 = .ok (.aload_n 0, 1) := by decide +kernel
theorem dX9_most_47 : decode cX9_most 47 = .ok (.iconst 0, 1) := by decide +kernel
theorem dX9_most_48 : decode cX9_most 48 = .ok (.invokevirtual 231, 3) := by decide +kernel
theorem dX9_most_51 : decode cX9_most 51 = .ok (.goto 20, 3) := by decide +kernel
theorem dX9_most_54 : decode cX9_most 54 = .ok (.iload_n 1, 1) := by decide +kernel
theorem dX9_most_55 : decode cX9_most 55 = .ok (.iconst 2, 1) := by decide +kernel
theorem dX9_most_56 : decode cX9_most 56 = .ok (.if_icmp .ne 11, 3) := by decide +kernel
theorem dX9_most_59 : decode cX9_most 59 = .ok (.aload_n 0, 1) := by decide +kernel
theorem dX9_most_60 : decode cX9_most 60 = .ok (.iconst 0, 1) := by decide +kernel
theorem dX9_most_61 : decode cX9_most 61 = .ok (.invokevirtual 234, 3) := by decide +kernel
theorem dX9_most_64 : decode cX9_most 64 = .ok (.goto 7, 3) := by decide +kernel
theorem dX9_most_67 : decode cX9_most 67 = .ok (.aload_n 0, 1) := by decide +kernel
theorem dX9_most_68 : decode cX9_most 68 = .ok (.invokevirtual 237, 3) := by decide +kernel
theorem dX9_most_71 : decode cX9_most 71 = .ok (.ireturn, 1) := by decide +kernel
theorem dX9_wall_0 : decode cX9_wall 0 = .ok (.aload_n 0, 1) := by decide +kernel
theorem dX9_wall_1 : decode cX9_wall 1 = .ok (.iload_n 1, 1) := by decide +kernel
theorem dX9_wall_2 : decode cX9_wall 2 = .ok (.invokevirtual 165, 3) := by decide +kernel
theorem dX9_wall_5 : decode cX9_wall 5 = .ok (.ifCond .eq 11, 3) := by decide +kernel
theorem dX9_wall_8 : decode cX9_wall 8 = .ok (.aload_n 0, 1) := by decide +kernel
theorem dX9_wall_9 : decode cX9_wall 9 = .ok (.iload_n 2, 1) := by decide +kernel
theorem dX9_wall_10 : decode cX9_wall 10 = .ok (.invokevirtual 195, 3) := by decide +kernel
theorem dX9_wall_13 : decode cX9_wall 13 = .ok (.ifCond .ne 5, 3) := by decide +kernel
theorem dX9_wall_16 : decode cX9_wall 16 = .ok (.iconst (-1), 1) := by decide +kernel
theorem dX9_wall_17 : decode cX9_wall 17 = .ok (.ireturn, 1) := by decide +kernel
theorem dX9_wall_18 : decode cX9_wall 18 = .ok (.iload_n 3, 1) := by decide +kernel
theorem dX9_wall_19 : decode cX9_wall 19 = .ok (.i2l, 1) := by decide +kernel
theorem dX9_wall_20 : decode cX9_wall 20 = .ok (.lconst 0, 1) := by decide +kernel
theorem dX9_wall_21 : decode cX9_wall 21 = .ok (.ldc2_w 81, 3) := by decide +kernel
theorem dX9_wall_24 : decode cX9_wall 24 = .ok (.invokestatic 71, 3) := by decide +kernel
theorem dX9_wall_27 : decode cX9_wall 27 = .ok (.ifCond .ne 6, 3) := by decide +kernel
theorem dX9_wall_30 : decode cX9_wall 30 = .ok (.bipush (-2), 2) := by decide +kernel
theorem dX9_wall_32 : decode cX9_wall 32 = .ok (.ireturn, 1) := by decide +kernel
theorem dX9_wall_33 : decode cX9_wall 33 = .ok (.aload_n 0, 1) := by decide +kernel
theorem dX9_wall_34 : decode cX9_wall 34 = .ok (.iconst (-1), 1) := by decide +kernel
theorem dX9_wall_35 : decode cX9_wall 35 = .ok (.invokevirtual 198, 3) := by decide +kernel
theorem dX9_wall_38 : decode cX9_wall 38 = .ok (.aload_n 0, 1) := by decide +kernel
theorem dX9_wall_39 : decode cX9_wall 39 = .ok (.getfield 55, 3) := by decide +kernel
theorem dX9_wall_42 : decode cX9_wall 42 = .ok (.iload_n 2, 1) := by decide +kernel
theorem dX9_wall_43 : decode cX9_wall 43 = .ok (.iaload, 1) := by decide +kernel
theorem dX9_wall_44 : decode cX9_wall 44 = .ok (.ifCond .ge 6, 3) := by decide +kernel
theorem dX9_wall_47 : decode cX9_wall 47 = .ok (.bipush (-3), 2) := by decide +kernel
theorem dX9_wall_49 : decode cX9_wall 49 = .ok (.ireturn, 1) := by decide +kernel
theorem dX9_wall_50 : decode cX9_wall 50 = .ok (.aload_n 0, 1) := by decide +kernel
theorem dX9_wall_51 : decode cX9_wall 51 = .ok (.iload_n 2, 1) := by decide +kernel
theorem dX9_wall_52 : decode cX9_wall 52 = .ok (.iload_n 3, 1) := by decide +kernel
theorem dX9_wall_53 : decode cX9_wall 53 = .ok (.invokevirtual 180, 3) := by decide +kernel
theorem dX9_wall_56 : decode cX9_wall 56 = .ok (.ifCond .eq 6, 3) := by decide +kernel
theorem dX9_wall_59 : decode cX9_wall 59 = .ok (.bipush (-9), 2) := by decide +kernel
theorem dX9_wall_61 : decode cX9_wall 61 = .ok (.ireturn, 1) := by decide +kernel
theorem dX9_wall_62 : decode cX9_wall 62 = .ok (.iconst 0, 1) := by decide +kernel
theorem dX9_wall_63 : decode cX9_wall 63 = .ok (.istore 4, 2) := by decide +kernel
theorem dX9_wall_65 : decode cX9_wall 65 = .ok (.iload 4, 2) := by decide +kernel
theorem dX9_wall_67 : decode cX9_wall 67 = .ok (.aload_n 0, 1) := by decide +kernel
theorem dX9_wall_68 : decode cX9_wall 68 = .ok (.getfield 68, 3) := by decide +kernel
theorem dX9_wall_71 : decode cX9_wall 71 = .ok (.if_icmp .ge 60, 3) := by decide +kernel
theorem dX9_wall_74 : decode cX9_wall 74 = .ok (.aload_n 0, 1) := by decide +kernel
theorem dX9_wall_75 : decode cX9_wall 75 = .ok (.getfield 7, 3) := by decide +kernel
theorem dX9_wall_78 : decode cX9_wall 78 = .ok (.iload 4, 2) := by decide +kernel
theorem dX9_wall_80 : decode cX9_wall 80 = .ok (.iaload, 1) := by decide +kernel
theorem dX9_wall_81 : decode cX9_wall 81 = .ok (.ifCond .ne 44, 3) := by decide +kernel
theorem dX9_wall_84 : decode cX9_wall 84 = .ok (.aload_n 0, 1) := by decide +kernel
theorem dX9_wall_85 : decode cX9_wall 85 = .ok (.iload 4, 2) := by decide +kernel
theorem dX9_wall_87 : decode cX9_wall 87 = .ok (.invokevirtual 174, 3) := by decide +kernel
theorem dX9_wall_90 : decode cX9_wall 90 = .ok (.ifCond .ge 35, 3) := by decide +kernel
theorem dX9_wall_93 : decode cX9_wall 93 = .ok (.aload_n 0, 1) := by decide +kernel
theorem dX9_wall_94 : decode cX9_wall 94 = .ok (.getfield 7, 3) := by decide +kernel
theorem dX9_wall_97 : decode cX9_wall 97 = .ok (.iload 4, 2) := by decide +kernel
theorem dX9_wall_99 : decode cX9_wall 99 = .ok (.iconst 2, 1) := by decide +kernel
theorem dX9_wall_100 : decode cX9_wall 100 = .ok (.iastore, 1) := by decide +kernel
theorem dX9_wall_101 : decode cX9_wall 101 = .ok (.aload_n 0, 1) := by decide +kernel
theorem dX9_wall_102 : decode cX9_wall 102 = .ok (.iload_n 2, 1) := by decide +kernel
theorem dX9_wall_103 : decode cX9_wall 103 = .ok (.iload_n 3, 1) := by decide +kernel
theorem dX9_wall_104 : decode cX9_wall 104 = .ok (.invokevirtual 180, 3) := by decide +kernel
theorem dX9_wall_107 : decode cX9_wall 107 = .ok (.istore 5, 2) := by decide +kernel
theorem dX9_wall_109 : decode cX9_wall 109 = .ok (.aload_n 0, 1) := by decide +kernel
theorem dX9_wall_110 : decode cX9_wall 110 = .ok (.getfield 7, 3) := by decide +kernel
theorem dX9_wall_113 : decode cX9_wall 113 = .ok (.iload 4, 2) := by decide +kernel
theorem dX9_wall_115 : decode cX9_wall 115 = .ok (.iconst 0, 1) := by decide +kernel
theorem dX9_wall_116 : decode cX9_wall 116 = .ok (.iastore, 1) := by decide +kernel
theorem dX9_wall_117 : decode cX9_wall 117 = .ok (.iload 5, 2) := by decide +kernel
theorem dX9_wall_119 : decode cX9_wall 119 = .ok (.ifCond .eq 6, 3) := by decide +kernel
theorem dX9_wall_122 : decode cX9_wall 122 = .ok (.iload 4, 2) := by decide +kernel
theorem dX9_wall_124 : decode cX9_wall 124 = .ok (.ireturn, 1) := by decide +kernel
theorem dX9_wall_125 : decode cX9_wall 125 = .ok (.iinc 4 1, 3) := by decide +kernel
theorem dX9_wall_128 : decode cX9_wall 128 = .ok (.goto (-63), 3) := by decide +kernel
theorem dX9_wall_131 : decode cX9_wall 131 = .ok (.bipush (-9), 2) := by decide +kernel
theorem dX9_wall_133 : decode cX9_wall 133 = .ok (.ireturn, 1) := by decide +kernel
theorem dX9_areCodes_0 : decode cX9_areCodes 0 = .ok (.iconst 1, 1) := by decide +kernel
theorem dX9_areCodes_1 : decode cX9_areCodes 1 = .ok (.istore_n 3, 1) := by decide +kernel
theorem dX9_areCodes_2 : decode cX9_areCodes 2 = .ok (.iload_n 1, 1) := by decide +kernel
theorem dX9_areCodes_3 : decode cX9_areCodes 3 = .ok (.istore 4, 2) := by decide +kernel
theorem dX9_areCodes_5 : decode cX9_areCodes 5 = .ok (.iload 4, 2) := by decide +kernel
theorem dX9_areCodes_7 : decode cX9_areCodes 7 = .ok (.iload_n 1, 1) := by decide +kernel
theorem dX9_areCodes_8 : decode cX9_areCodes 8 = .ok (.iload_n 2, 1) := by decide +kernel
theorem dX9_areCodes_9 : decode cX9_areCodes 9 = .ok (.iadd, 1) := by decide +kernel
theorem dX9_areCodes_10 : decode cX9_areCodes 10 = .ok (.if_icmp .ge 33, 3) := by decide +kernel
theorem dX9_areCodes_13 : decode cX9_areCodes 13 = .ok (.iload_n 3, 1) := by decide +kernel
theorem dX9_areCodes_14 : decode cX9_areCodes 14 = .ok (.ifCond .eq 21, 3) := by decide +kernel
theorem dX9_areCodes_17 : decode cX9_areCodes 17 = .ok (.aload_n 0, 1) := by decide +kernel
theorem dX9_areCodes_18 : decode cX9_areCodes 18 = .ok (.aload_n 0, 1) := by decide +kernel
theorem dX9_areCodes_19 : decode cX9_areCodes 19 = .ok (.getfield 37, 3) := by decide +kernel
theorem dX9_areCodes_22 : decode cX9_areCodes 22 = .ok (.iload 4, 2) := by decide +kernel
theorem dX9_areCodes_24 : decode cX9_areCodes 24 = .ok (.iaload, 1) := by decide +kernel
theorem dX9_areCodes_25 : decode cX9_areCodes 25 = .ok (.invokevirtual 209, 3) := by decide +kernel
theorem dX9_areCodes_28 : decode cX9_areCodes 28 = .ok (.ifCond .eq 7, 3) := by decide +kernel
theorem dX9_areCodes_31 : decode cX9_areCodes 31 = .ok (.iconst 1, 1) := by decide +kernel
theorem dX9_areCodes_32 : decode cX9_areCodes 32 = .ok (.goto 4, 3) := by decide +kernel
theorem dX9_areCodes_35 : decode cX9_areCodes 35 = .ok (.iconst 0, 1) := by decide +kernel
theorem dX9_areCodes_36 : decode cX9_areCodes 36 = .ok (.istore_n 3, 1) := by decide +kernel
theorem dX9_areCodes_37 : decode cX9_areCodes 37 = .ok (.iinc 4 1, 3) := by decide +kernel
theorem dX9_areCodes_40 : decode cX9_areCodes 40 = .ok (.goto (-35), 3) := by decide +kernel
theorem dX9_areCodes_43 : decode cX9_areCodes 43 = .ok (.iload_n 3, 1) := by decide +kernel
theorem dX9_areCodes_44 : decode cX9_areCodes 44 = .ok (.ireturn, 1) := by decide +kernel
theorem dX9_row_0 : decode cX9_row 0 = .ok (.iload_n 1, 1) := by decide +kernel
theorem dX9_row_1 : decode cX9_row 1 = .ok (.invokestatic 85, 3) := by decide +kernel
theorem dX9_row_4 : decode cX9_row 4 = .ok (.ifCond .ne 9, 3) := by decide +kernel
theorem dX9_row_7 : decode cX9_row 7 = .ok (.aload_n 0, 1) := by decide +kernel
theorem dX9_row_8 : decode cX9_row 8 = .ok (.iconst (-1), 1) := by decide +kernel
theorem dX9_row_9 : decode cX9_row 9 = .ok (.invokevirtual 89, 3) := by decide +kernel
theorem dX9_row_12 : decode cX9_row 12 = .ok (.ireturn, 1) := by decide +kernel
theorem dX9_row_13 : decode cX9_row 13 = .ok (.iload_n 2, 1) := by decide +kernel
theorem dX9_row_14 : decode cX9_row 14 = .ok (.invokestatic 93, 3) := by decide +kernel
theorem dX9_row_17 : decode cX9_row 17 = .ok (.ifCond .ne 10, 3) := by decide +kernel
theorem dX9_row_20 : decode cX9_row 20 = .ok (.aload_n 0, 1) := by decide +kernel
theorem dX9_row_21 : decode cX9_row 21 = .ok (.bipush (-2), 2) := by decide +kernel
theorem dX9_row_23 : decode cX9_row 23 = .ok (.invokevirtual 89, 3) := by decide +kernel
theorem dX9_row_26 : decode cX9_row 26 = .ok (.ireturn, 1) := by decide +kernel
theorem dX9_row_27 : decode cX9_row 27 = .ok (.aload_n 0, 1) := by decide +kernel
theorem dX9_row_28 : decode cX9_row 28 = .ok (.getfield 68, 3) := by decide +kernel
theorem dX9_row_31 : decode cX9_row 31 = .ok (.ifCond .ne 10, 3) := by decide +kernel
theorem dX9_row_34 : decode cX9_row 34 = .ok (.aload_n 0, 1) := by decide +kernel
theorem dX9_row_35 : decode cX9_row 35 = .ok (.bipush (-3), 2) := by decide +kernel
theorem dX9_row_37 : decode cX9_row 37 = .ok (.invokevirtual 89, 3) := by decide +kernel
theorem dX9_row_40 : decode cX9_row 40 = .ok (.ireturn, 1) := by decide +kernel
theorem dX9_row_41 : decode cX9_row 41 = .ok (.aload_n 0, 1) := by decide +kernel
theorem dX9_row_42 : decode cX9_row 42 = .ok (.iload_n 1, 1) := by decide +kernel
theorem dX9_row_43 : decode cX9_row 43 = .ok (.iload_n 2, 1) := by decide +kernel
theorem dX9_row_44 : decode cX9_row 44 = .ok (.iload_n 3, 1) := by decide +kernel
theorem dX9_row_45 : decode cX9_row 45 = .ok (.iload 4, 2) := by decide +kernel
theorem dX9_row_47 : decode cX9_row 47 = .ok (.invokevirtual 140, 3) := by decide +kernel
theorem dX9_row_50 : decode cX9_row 50 = .ok (.istore 5, 2) := by decide +kernel
theorem dX9_row_52 : decode cX9_row 52 = .ok (.iload 5, 2) := by decide +kernel
theorem dX9_row_54 : decode cX9_row 54 = .ok (.ifCond .eq 10, 3) := by decide +kernel
theorem dX9_row_57 : decode cX9_row 57 = .ok (.aload_n 0, 1) := by decide +kernel
theorem dX9_row_58 : decode cX9_row 58 = .ok (.iload 5, 2) := by decide +kernel
theorem dX9_row_60 : decode cX9_row 60 = .ok (.invokevirtual 96, 3) := by decide +kernel
theorem dX9_row_63 : decode cX9_row 63 = .ok (.ireturn, 1) := by decide +kernel
theorem dX9_row_64 : decode cX9_row 64 = .ok (.iload 4, 2) := by decide +kernel
theorem dX9_row_66 : decode cX9_row 66 = .ok (.bipush 20, 2) := by decide +kernel
theorem dX9_row_68 : decode cX9_row 68 = .ok (.if_icmp .le 10, 3) := by decide +kernel
theorem dX9_row_71 : decode cX9_row 71 = .ok (.aload_n 0, 1) := by decide +kernel
theorem dX9_row_72 : decode cX9_row 72 = .ok (.bipush (-2), 2) := by decide +kernel
theorem dX9_row_74 : decode cX9_row 74 = .ok (.invokevirtual 89, 3) := by decide +kernel
theorem dX9_row_77 : decode cX9_row 77 = .ok (.ireturn, 1) := by decide +kernel
theorem dX9_row_78 : decode cX9_row 78 = .ok (.bipush 60, 2) := by decide +kernel
theorem dX9_row_80 : decode cX9_row 80 = .ok (.iload_n 1, 1) := by decide +kernel
theorem dX9_row_81 : decode cX9_row 81 = .ok (.imul, 1) := by decide +kernel
theorem dX9_row_82 : decode cX9_row 82 = .ok (.iload_n 3, 1) := by decide +kernel
theorem dX9_row_83 : decode cX9_row 83 = .ok (.iadd, 1) := by decide +kernel
theorem dX9_row_84 : decode cX9_row 84 = .ok (.istore 6, 2) := by decide +kernel
theorem dX9_row_86 : decode cX9_row 86 = .ok (.aload_n 0, 1) := by decide +kernel
theorem dX9_row_87 : decode cX9_row 87 = .ok (.iload 6, 2) := by decide +kernel
theorem dX9_row_89 : decode cX9_row 89 = .ok (.iload 4, 2) := by decide +kernel
theorem dX9_row_91 : decode cX9_row 91 = .ok (.invokevirtual 240, 3) := by decide +kernel
theorem dX9_row_94 : decode cX9_row 94 = .ok (.ifCond .ne 9, 3) := by decide +kernel
theorem dX9_row_97 : decode cX9_row 97 = .ok (.aload_n 0, 1) := by decide +kernel
theorem dX9_row_98 : decode cX9_row 98 = .ok (.iconst (-1), 1) := by decide +kernel
theorem dX9_row_99 : decode cX9_row 99 = .ok (.invokevirtual 89, 3) := by decide +kernel
theorem dX9_row_102 : decode cX9_row 102 = .ok (.ireturn, 1) := by decide +kernel
theorem dX9_row_103 : decode cX9_row 103 = .ok (.aload_n 0, 1) := by decide +kernel
theorem dX9_row_104 : decode cX9_row 104 = .ok (.iconst 0, 1) := by decide +kernel
theorem dX9_row_105 : decode cX9_row 105 = .ok (.putfield 64, 3) := by decide +kernel
theorem dX9_row_108 : decode cX9_row 108 = .ok (.aload_n 0, 1) := by decide +kernel
theorem dX9_row_109 : decode cX9_row 109 = .ok (.iconst (-1), 1) := by decide +kernel
theorem dX9_row_110 : decode cX9_row 110 = .ok (.invokevirtual 198, 3) := by decide +kernel
theorem dX9_row_113 : decode cX9_row 113 = .ok (.iconst 0, 1) := by decide +kernel
theorem dX9_row_114 : decode cX9_row 114 = .ok (.istore 7, 2) := by decide +kernel
theorem dX9_row_116 : decode cX9_row 116 = .ok (.iload 7, 2) := by decide +kernel
theorem dX9_row_118 : decode cX9_row 118 = .ok (.iload 4, 2) := by decide +kernel
theorem dX9_row_120 : decode cX9_row 120 = .ok (.if_icmp .ge 46, 3) := by decide +kernel
theorem dX9_row_123 : decode cX9_row 123 = .ok (.aload_n 0, 1) := by decide +kernel
theorem dX9_row_124 : decode cX9_row 124 = .ok (.aload_n 0, 1) := by decide +kernel
theorem dX9_row_125 : decode cX9_row 125 = .ok (.getfield 37, 3) := by decide +kernel
theorem dX9_row_128 : decode cX9_row 128 = .ok (.iload 6, 2) := by decide +kernel
theorem dX9_row_130 : decode cX9_row 130 = .ok (.iload 7, 2) := by decide +kernel
theorem dX9_row_132 : decode cX9_row 132 = .ok (.iadd, 1) := by decide +kernel
theorem dX9_row_133 : decode cX9_row 133 = .ok (.iaload, 1) := by decide +kernel
theorem dX9_row_134 : decode cX9_row 134 = .ok (.invokevirtual 212, 3) := by decide +kernel
theorem dX9_row_137 : decode cX9_row 137 = .ok (.ifCond .ne 9, 3) := by decide +kernel
theorem dX9_row_140 : decode cX9_row 140 = .ok (.bipush (-100), 2) := by decide +kernel
theorem dX9_row_142 : decode cX9_row 142 = .ok (.iload 7, 2) := by decide +kernel
theorem dX9_row_144 : decode cX9_row 144 = .ok (.isub, 1) := by decide +kernel
theorem dX9_row_145 : decode cX9_row 145 = .ok (.ireturn, 1) := by decide +kernel
theorem dX9_row_146 : decode cX9_row 146 = .ok (.aload_n 0, 1) := by decide +kernel
theorem dX9_row_147 : decode cX9_row 147 = .ok (.aload_n 0, 1) := by decide +kernel
theorem dX9_row_148 : decode cX9_row 148 = .ok (.getfield 37, 3) := by decide +kernel
theorem dX9_row_151 : decode cX9_row 151 = .ok (.iload 6, 2) := by decide +kernel
theorem dX9_row_153 : decode cX9_row 153 = .ok (.iload 7, 2) := by decide +kernel
theorem dX9_row_155 : decode cX9_row 155 = .ok (.iadd, 1) := by decide +kernel
theorem dX9_row_156 : decode cX9_row 156 = .ok (.iaload, 1) := by decide +kernel
theorem dX9_row_157 : decode cX9_row 157 = .ok (.invokevirtual 191, 3) := by decide +kernel
theorem dX9_row_160 : decode cX9_row 160 = .ok (.iinc 7 1, 3) := by decide +kernel
theorem dX9_row_163 : decode cX9_row 163 = .ok (.goto (-47), 3) := by decide +kernel
theorem dX9_row_166 : decode cX9_row 166 = .ok (.aload_n 0, 1) := by decide +kernel
theorem dX9_row_167 : decode cX9_row 167 = .ok (.invokevirtual 227, 3) := by decide +kernel
theorem dX9_row_170 : decode cX9_row 170 = .ok (.ireturn, 1) := by decide +kernel
theorem dX9_divisor_0 : decode cX9_divisor 0 = .ok (.iload_n 0, 1) := by decide +kernel
theorem dX9_divisor_1 : decode cX9_divisor 1 = .ok (.istore_n 2, 1) := by decide +kernel
theorem dX9_divisor_2 : decode cX9_divisor 2 = .ok (.iload_n 1, 1) := by decide +kernel
theorem dX9_divisor_3 : decode cX9_divisor 3 = .ok (.istore_n 3, 1) := by decide +kernel
theorem dX9_divisor_4 : decode cX9_divisor 4 = .ok (.iload_n 3, 1) := by decide +kernel
theorem dX9_divisor_5 : decode cX9_divisor 5 = .ok (.ifCond .eq 16, 3) := by decide +kernel
theorem dX9_divisor_8 : decode cX9_divisor 8 = .ok (.iload_n 2, 1) := by decide +kernel
theorem dX9_divisor_9 : decode cX9_divisor 9 = .ok (.iload_n 3, 1) := by decide +kernel
theorem dX9_divisor_10 : decode cX9_divisor 10 = .ok (.irem, 1) := by decide +kernel
theorem dX9_divisor_11 : decode cX9_divisor 11 = .ok (.istore 4, 2) := by decide +kernel
theorem dX9_divisor_13 : decode cX9_divisor 13 = .ok (.iload_n 3, 1) := by decide +kernel
theorem dX9_divisor_14 : decode cX9_divisor 14 = .ok (.istore_n 2, 1) := by decide +kernel
theorem dX9_divisor_15 : decode cX9_divisor 15 = .ok (.iload 4, 2) := by decide +kernel
theorem dX9_divisor_17 : decode cX9_divisor 17 = .ok (.istore_n 3, 1) := by decide +kernel
theorem dX9_divisor_18 : decode cX9_divisor 18 = .ok (.goto (-14), 3) := by decide +kernel
theorem dX9_divisor_21 : decode cX9_divisor 21 = .ok (.iload_n 2, 1) := by decide +kernel
theorem dX9_divisor_22 : decode cX9_divisor 22 = .ok (.ireturn, 1) := by decide +kernel
theorem dX9_odds_0 : decode cX9_odds 0 = .ok (.aload_n 0, 1) := by decide +kernel
theorem dX9_odds_1 : decode cX9_odds 1 = .ok (.iload_n 1, 1) := by decide +kernel
theorem dX9_odds_2 : decode cX9_odds 2 = .ok (.invokevirtual 165, 3) := by decide +kernel
theorem dX9_odds_5 : decode cX9_odds 5 = .ok (.ifCond .eq 21, 3) := by decide +kernel
theorem dX9_odds_8 : decode cX9_odds 8 = .ok (.aload_n 0, 1) := by decide +kernel
theorem dX9_odds_9 : decode cX9_odds 9 = .ok (.iload_n 2, 1) := by decide +kernel
theorem dX9_odds_10 : decode cX9_odds 10 = .ok (.invokevirtual 195, 3) := by decide +kernel
theorem dX9_odds_13 : decode cX9_odds 13 = .ok (.ifCond .eq 13, 3) := by decide +kernel
theorem dX9_odds_16 : decode cX9_odds 16 = .ok (.iload_n 3, 1) := by decide +kernel
theorem dX9_odds_17 : decode cX9_odds 17 = .ok (.i2l, 1) := by decide +kernel
theorem dX9_odds_18 : decode cX9_odds 18 = .ok (.lconst 0, 1) := by decide +kernel
theorem dX9_odds_19 : decode cX9_odds 19 = .ok (.lconst 1, 1) := by decide +kernel
theorem dX9_odds_20 : decode cX9_odds 20 = .ok (.invokestatic 71, 3) := by decide +kernel
theorem dX9_odds_23 : decode cX9_odds 23 = .ok (.ifCond .ne 7, 3) := by decide +kernel
theorem dX9_odds_26 : decode cX9_odds 26 = .ok (.ldc2_w 103, 3) := by decide +kernel
theorem dX9_odds_29 : decode cX9_odds 29 = .ok (.lreturn, 1) := by decide +kernel
theorem dX9_odds_30 : decode cX9_odds 30 = .ok (.aload_n 0, 1) := by decide +kernel
theorem dX9_odds_31 : decode cX9_odds 31 = .ok (.iconst (-1), 1) := by decide +kernel
theorem dX9_odds_32 : decode cX9_odds 32 = .ok (.invokevirtual 198, 3) := by decide +kernel
theorem dX9_odds_35 : decode cX9_odds 35 = .ok (.aload_n 0, 1) := by decide +kernel
theorem dX9_odds_36 : decode cX9_odds 36 = .ok (.getfield 55, 3) := by decide +kernel
theorem dX9_odds_39 : decode cX9_odds 39 = .ok (.iload_n 2, 1) := by decide +kernel
theorem dX9_odds_40 : decode cX9_odds 40 = .ok (.iaload, 1) := by decide +kernel
theorem dX9_odds_41 : decode cX9_odds 41 = .ok (.ifCond .ge 7, 3) := by decide +kernel
theorem dX9_odds_44 : decode cX9_odds 44 = .ok (.ldc2_w 103, 3) := by decide +kernel
theorem dX9_odds_47 : decode cX9_odds 47 = .ok (.lreturn, 1) := by decide +kernel
theorem dX9_odds_48 : decode cX9_odds 48 = .ok (.iconst 0, 1) := by decide +kernel
theorem dX9_odds_49 : decode cX9_odds 49 = .ok (.istore 4, 2) := by decide +kernel
theorem dX9_odds_51 : decode cX9_odds 51 = .ok (.iconst 0, 1) := by decide +kernel
theorem dX9_odds_52 : decode cX9_odds 52 = .ok (.istore 5, 2) := by decide +kernel
theorem dX9_odds_54 : decode cX9_odds 54 = .ok (.iload 5, 2) := by decide +kernel
theorem dX9_odds_56 : decode cX9_odds 56 = .ok (.iconst 4, 1) := by decide +kernel
theorem dX9_odds_57 : decode cX9_odds 57 = .ok (.if_icmp .ge 29, 3) := by decide +kernel
theorem dX9_odds_60 : decode cX9_odds 60 = .ok (.iload 4, 2) := by decide +kernel
theorem dX9_odds_62 : decode cX9_odds 62 = .ok (.aload_n 0, 1) := by decide +kernel
theorem dX9_odds_63 : decode cX9_odds 63 = .ok (.iload_n 2, 1) := by decide +kernel
theorem dX9_odds_64 : decode cX9_odds 64 = .ok (.iload 5, 2) := by decide +kernel
theorem dX9_odds_66 : decode cX9_odds 66 = .ok (.invokevirtual 180, 3) := by decide +kernel
theorem dX9_odds_69 : decode cX9_odds 69 = .ok (.ifCond .eq 7, 3) := by decide +kernel
theorem dX9_odds_72 : decode cX9_odds 72 = .ok (.iconst 1, 1) := by decide +kernel
theorem dX9_odds_73 : decode cX9_odds 73 = .ok (.goto 4, 3) := by decide +kernel
theorem dX9_odds_76 : decode cX9_odds 76 = .ok (.iconst 0, 1) := by decide +kernel
theorem dX9_odds_77 : decode cX9_odds 77 = .ok (.iadd, 1) := by decide +kernel
theorem dX9_odds_78 : decode cX9_odds 78 = .ok (.istore 4, 2) := by decide +kernel
theorem dX9_odds_80 : decode cX9_odds 80 = .ok (.iinc 5 1, 3) := by decide +kernel
theorem dX9_odds_83 : decode cX9_odds 83 = .ok (.goto (-29), 3) := by decide +kernel
theorem dX9_odds_86 : decode cX9_odds 86 = .ok (.iload 4, 2) := by decide +kernel
theorem dX9_odds_88 : decode cX9_odds 88 = .ok (.iconst 4, 1) := by decide +kernel
theorem dX9_odds_89 : decode cX9_odds 89 = .ok (.invokestatic 243, 3) := by decide +kernel
theorem dX9_odds_92 : decode cX9_odds 92 = .ok (.istore 5, 2) := by decide +kernel
theorem dX9_odds_94 : decode cX9_odds 94 = .ok (.iload_n 3, 1) := by decide +kernel
theorem dX9_odds_95 : decode cX9_odds 95 = .ok (.ifCond .ne 12, 3) := by decide +kernel
theorem dX9_odds_98 : decode cX9_odds 98 = .ok (.iload 4, 2) := by decide +kernel
theorem dX9_odds_100 : decode cX9_odds 100 = .ok (.iload 5, 2) := by decide +kernel
theorem dX9_odds_102 : decode cX9_odds 102 = .ok (.idiv, 1) := by decide +kernel
theorem dX9_odds_103 : decode cX9_odds 103 = .ok (.i2l, 1) := by decide +kernel
theorem dX9_odds_104 : decode cX9_odds 104 = .ok (.goto 8, 3) := by decide +kernel
theorem dX9_odds_107 : decode cX9_odds 107 = .ok (.iconst 4, 1) := by decide +kernel
theorem dX9_odds_108 : decode cX9_odds 108 = .ok (.iload 5, 2) := by decide +kernel
theorem dX9_odds_110 : decode cX9_odds 110 = .ok (.idiv, 1) := by decide +kernel
theorem dX9_odds_111 : decode cX9_odds 111 = .ok (.i2l, 1) := by decide +kernel
theorem dX9_odds_112 : decode cX9_odds 112 = .ok (.lreturn, 1) := by decide +kernel
theorem dX9_reading_0 : decode cX9_reading 0 = .ok (.aload_n 0, 1) := by decide +kernel
theorem dX9_reading_1 : decode cX9_reading 1 = .ok (.iload_n 1, 1) := by decide +kernel
theorem dX9_reading_2 : decode cX9_reading 2 = .ok (.invokevirtual 195, 3) := by decide +kernel
theorem dX9_reading_5 : decode cX9_reading 5 = .ok (.ifCond .eq 17, 3) := by decide +kernel
theorem dX9_reading_8 : decode cX9_reading 8 = .ok (.iload_n 2, 1) := by decide +kernel
theorem dX9_reading_9 : decode cX9_reading 9 = .ok (.bipush (-9), 2) := by decide +kernel
theorem dX9_reading_11 : decode cX9_reading 11 = .ok (.if_icmp .eq 13, 3) := by decide +kernel
theorem dX9_reading_14 : decode cX9_reading 14 = .ok (.aload_n 0, 1) := by decide +kernel
theorem dX9_reading_15 : decode cX9_reading 15 = .ok (.iload_n 2, 1) := by decide +kernel
theorem dX9_reading_16 : decode cX9_reading 16 = .ok (.invokevirtual 159, 3) := by decide +kernel
theorem dX9_reading_19 : decode cX9_reading 19 = .ok (.ifCond .ne 5, 3) := by decide +kernel
theorem dX9_reading_22 : decode cX9_reading 22 = .ok (.iconst (-1), 1) := by decide +kernel
theorem dX9_reading_23 : decode cX9_reading 23 = .ok (.ireturn, 1) := by decide +kernel
theorem dX9_reading_24 : decode cX9_reading 24 = .ok (.aload_n 0, 1) := by decide +kernel
theorem dX9_reading_25 : decode cX9_reading 25 = .ok (.getfield 156, 3) := by decide +kernel
theorem dX9_reading_28 : decode cX9_reading 28 = .ok (.bipush 8, 2) := by decide +kernel
theorem dX9_reading_30 : decode cX9_reading 30 = .ok (.if_icmp .ne 6, 3) := by decide +kernel
theorem dX9_reading_33 : decode cX9_reading 33 = .ok (.bipush (-4), 2) := by decide +kernel
theorem dX9_reading_35 : decode cX9_reading 35 = .ok (.ireturn, 1) := by decide +kernel
theorem dX9_reading_36 : decode cX9_reading 36 = .ok (.aload_n 0, 1) := by decide +kernel
theorem dX9_reading_37 : decode cX9_reading 37 = .ok (.getfield 25, 3) := by decide +kernel
theorem dX9_reading_40 : decode cX9_reading 40 = .ok (.aload_n 0, 1) := by decide +kernel
theorem dX9_reading_41 : decode cX9_reading 41 = .ok (.getfield 156, 3) := by decide +kernel
theorem dX9_reading_44 : decode cX9_reading 44 = .ok (.iload_n 1, 1) := by decide +kernel
theorem dX9_reading_45 : decode cX9_reading 45 = .ok (.iastore, 1) := by decide +kernel
theorem dX9_reading_46 : decode cX9_reading 46 = .ok (.aload_n 0, 1) := by decide +kernel
theorem dX9_reading_47 : decode cX9_reading 47 = .ok (.getfield 28, 3) := by decide +kernel
theorem dX9_reading_50 : decode cX9_reading 50 = .ok (.aload_n 0, 1) := by decide +kernel
theorem dX9_reading_51 : decode cX9_reading 51 = .ok (.getfield 156, 3) := by decide +kernel
theorem dX9_reading_54 : decode cX9_reading 54 = .ok (.iload_n 2, 1) := by decide +kernel
theorem dX9_reading_55 : decode cX9_reading 55 = .ok (.iastore, 1) := by decide +kernel
theorem dX9_reading_56 : decode cX9_reading 56 = .ok (.aload_n 0, 1) := by decide +kernel
theorem dX9_reading_57 : decode cX9_reading 57 = .ok (.dup, 1) := by decide +kernel
theorem dX9_reading_58 : decode cX9_reading 58 = .ok (.getfield 156, 3) := by decide +kernel
theorem dX9_reading_61 : decode cX9_reading 61 = .ok (.iconst 1, 1) := by decide +kernel
theorem dX9_reading_62 : decode cX9_reading 62 = .ok (.iadd, 1) := by decide +kernel
theorem dX9_reading_63 : decode cX9_reading 63 = .ok (.putfield 156, 3) := by decide +kernel
theorem dX9_reading_66 : decode cX9_reading 66 = .ok (.aload_n 0, 1) := by decide +kernel
theorem dX9_reading_67 : decode cX9_reading 67 = .ok (.getfield 156, 3) := by decide +kernel
theorem dX9_reading_70 : decode cX9_reading 70 = .ok (.iconst 1, 1) := by decide +kernel
theorem dX9_reading_71 : decode cX9_reading 71 = .ok (.isub, 1) := by decide +kernel
theorem dX9_reading_72 : decode cX9_reading 72 = .ok (.ireturn, 1) := by decide +kernel
theorem dX9_back_0 : decode cX9_back 0 = .ok (.iload_n 1, 1) := by decide +kernel
theorem dX9_back_1 : decode cX9_back 1 = .ok (.i2l, 1) := by decide +kernel
theorem dX9_back_2 : decode cX9_back 2 = .ok (.lconst 0, 1) := by decide +kernel
theorem dX9_back_3 : decode cX9_back 3 = .ok (.aload_n 0, 1) := by decide +kernel
theorem dX9_back_4 : decode cX9_back 4 = .ok (.getfield 156, 3) := by decide +kernel
theorem dX9_back_7 : decode cX9_back 7 = .ok (.i2l, 1) := by decide +kernel
theorem dX9_back_8 : decode cX9_back 8 = .ok (.invokestatic 71, 3) := by decide +kernel
theorem dX9_back_11 : decode cX9_back 11 = .ok (.ifCond .ne 6, 3) := by decide +kernel
theorem dX9_back_14 : decode cX9_back 14 = .ok (.bipush (-2), 2) := by decide +kernel
theorem dX9_back_16 : decode cX9_back 16 = .ok (.ireturn, 1) := by decide +kernel
theorem dX9_back_17 : decode cX9_back 17 = .ok (.aload_n 0, 1) := by decide +kernel
theorem dX9_back_18 : decode cX9_back 18 = .ok (.dup, 1) := by decide +kernel
theorem dX9_back_19 : decode cX9_back 19 = .ok (.getfield 156, 3) := by decide +kernel
theorem dX9_back_22 : decode cX9_back 22 = .ok (.iload_n 1, 1) := by decide +kernel
theorem dX9_back_23 : decode cX9_back 23 = .ok (.isub, 1) := by decide +kernel
theorem dX9_back_24 : decode cX9_back 24 = .ok (.putfield 156, 3) := by decide +kernel
theorem dX9_back_27 : decode cX9_back 27 = .ok (.aload_n 0, 1) := by decide +kernel
theorem dX9_back_28 : decode cX9_back 28 = .ok (.getfield 156, 3) := by decide +kernel
theorem dX9_back_31 : decode cX9_back 31 = .ok (.ireturn, 1) := by decide +kernel
theorem dX9_areSo_0 : decode cX9_areSo 0 = .ok (.iconst 1, 1) := by decide +kernel
theorem dX9_areSo_1 : decode cX9_areSo 1 = .ok (.istore_n 1, 1) := by decide +kernel
theorem dX9_areSo_2 : decode cX9_areSo 2 = .ok (.iconst 0, 1) := by decide +kernel
theorem dX9_areSo_3 : decode cX9_areSo 3 = .ok (.istore_n 2, 1) := by decide +kernel
theorem dX9_areSo_4 : decode cX9_areSo 4 = .ok (.iload_n 2, 1) := by decide +kernel
theorem dX9_areSo_5 : decode cX9_areSo 5 = .ok (.aload_n 0, 1) := by decide +kernel
theorem dX9_areSo_6 : decode cX9_areSo 6 = .ok (.getfield 156, 3) := by decide +kernel
theorem dX9_areSo_9 : decode cX9_areSo 9 = .ok (.if_icmp .ge 59, 3) := by decide +kernel
theorem dX9_areSo_12 : decode cX9_areSo 12 = .ok (.aload_n 0, 1) := by decide +kernel
theorem dX9_areSo_13 : decode cX9_areSo 13 = .ok (.getfield 55, 3) := by decide +kernel
theorem dX9_areSo_16 : decode cX9_areSo 16 = .ok (.aload_n 0, 1) := by decide +kernel
theorem dX9_areSo_17 : decode cX9_areSo 17 = .ok (.getfield 25, 3) := by decide +kernel
theorem dX9_areSo_20 : decode cX9_areSo 20 = .ok (.iload_n 2, 1) := by decide +kernel
theorem dX9_areSo_21 : decode cX9_areSo 21 = .ok (.iaload, 1) := by decide +kernel
theorem dX9_areSo_22 : decode cX9_areSo 22 = .ok (.iaload, 1) := by decide +kernel
theorem dX9_areSo_23 : decode cX9_areSo 23 = .ok (.istore_n 3, 1) := by decide +kernel
theorem dX9_areSo_24 : decode cX9_areSo 24 = .ok (.iload_n 1, 1) := by decide +kernel
theorem dX9_areSo_25 : decode cX9_areSo 25 = .ok (.ifCond .eq 35, 3) := by decide +kernel
theorem dX9_areSo_28 : decode cX9_areSo 28 = .ok (.iload_n 3, 1) := by decide +kernel
theorem dX9_areSo_29 : decode cX9_areSo 29 = .ok (.ifCond .ge 17, 3) := by decide +kernel
theorem dX9_areSo_32 : decode cX9_areSo 32 = .ok (.aload_n 0, 1) := by decide +kernel
theorem dX9_areSo_33 : decode cX9_areSo 33 = .ok (.getfield 28, 3) := by decide +kernel
theorem dX9_areSo_36 : decode cX9_areSo 36 = .ok (.iload_n 2, 1) := by decide +kernel
theorem dX9_areSo_37 : decode cX9_areSo 37 = .ok (.iaload, 1) := by decide +kernel
theorem dX9_areSo_38 : decode cX9_areSo 38 = .ok (.bipush (-9), 2) := by decide +kernel
theorem dX9_areSo_40 : decode cX9_areSo 40 = .ok (.if_icmp .ne 20, 3) := by decide +kernel
theorem dX9_areSo_43 : decode cX9_areSo 43 = .ok (.goto 13, 3) := by decide +kernel
theorem dX9_areSo_46 : decode cX9_areSo 46 = .ok (.aload_n 0, 1) := by decide +kernel
theorem dX9_areSo_47 : decode cX9_areSo 47 = .ok (.getfield 28, 3) := by decide +kernel
theorem dX9_areSo_50 : decode cX9_areSo 50 = .ok (.iload_n 2, 1) := by decide +kernel
theorem dX9_areSo_51 : decode cX9_areSo 51 = .ok (.iaload, 1) := by decide +kernel
theorem dX9_areSo_52 : decode cX9_areSo 52 = .ok (.iload_n 3, 1) := by decide +kernel
theorem dX9_areSo_53 : decode cX9_areSo 53 = .ok (.if_icmp .ne 7, 3) := by decide +kernel
theorem dX9_areSo_56 : decode cX9_areSo 56 = .ok (.iconst 1, 1) := by decide +kernel
theorem dX9_areSo_57 : decode cX9_areSo 57 = .ok (.goto 4, 3) := by decide +kernel
theorem dX9_areSo_60 : decode cX9_areSo 60 = .ok (.iconst 0, 1) := by decide +kernel
theorem dX9_areSo_61 : decode cX9_areSo 61 = .ok (.istore_n 1, 1) := by decide +kernel
theorem dX9_areSo_62 : decode cX9_areSo 62 = .ok (.iinc 2 1, 3) := by decide +kernel
theorem dX9_areSo_65 : decode cX9_areSo 65 = .ok (.goto (-61), 3) := by decide +kernel
theorem dX9_areSo_68 : decode cX9_areSo 68 = .ok (.iload_n 1, 1) := by decide +kernel
theorem dX9_areSo_69 : decode cX9_areSo 69 = .ok (.ireturn, 1) := by decide +kernel
theorem dX9_last_0 : decode cX9_last 0 = .ok (.iload_n 1, 1) := by decide +kernel
theorem dX9_last_1 : decode cX9_last 1 = .ok (.iconst (-1), 1) := by decide +kernel
theorem dX9_last_2 : decode cX9_last 2 = .ok (.if_icmp .ge 5, 3) := by decide +kernel
theorem dX9_last_5 : decode cX9_last 5 = .ok (.iconst (-1), 1) := by decide +kernel
theorem dX9_last_6 : decode cX9_last 6 = .ok (.ireturn, 1) := by decide +kernel
theorem dX9_last_7 : decode cX9_last 7 = .ok (.aload_n 0, 1) := by decide +kernel
theorem dX9_last_8 : decode cX9_last 8 = .ok (.getfield 68, 3) := by decide +kernel
theorem dX9_last_11 : decode cX9_last 11 = .ok (.ifCond .ne 6, 3) := by decide +kernel
theorem dX9_last_14 : decode cX9_last 14 = .ok (.bipush (-3), 2) := by decide +kernel
theorem dX9_last_16 : decode cX9_last 16 = .ok (.ireturn, 1) := by decide +kernel
theorem dX9_last_17 : decode cX9_last 17 = .ok (.aload_n 0, 1) := by decide +kernel
theorem dX9_last_18 : decode cX9_last 18 = .ok (.iconst (-1), 1) := by decide +kernel
theorem dX9_last_19 : decode cX9_last 19 = .ok (.invokevirtual 198, 3) := by decide +kernel
theorem dX9_last_22 : decode cX9_last 22 = .ok (.aload_n 0, 1) := by decide +kernel
theorem dX9_last_23 : decode cX9_last 23 = .ok (.iconst 0, 1) := by decide +kernel
theorem dX9_last_24 : decode cX9_last 24 = .ok (.invokevirtual 206, 3) := by decide +kernel
theorem dX9_last_27 : decode cX9_last 27 = .ok (.iconst 0, 1) := by decide +kernel
theorem dX9_last_28 : decode cX9_last 28 = .ok (.istore_n 2, 1) := by decide +kernel
theorem dX9_last_29 : decode cX9_last 29 = .ok (.iconst 0, 1) := by decide +kernel
theorem dX9_last_30 : decode cX9_last 30 = .ok (.istore_n 3, 1) := by decide +kernel
theorem dX9_last_31 : decode cX9_last 31 = .ok (.iload_n 3, 1) := by decide +kernel
theorem dX9_last_32 : decode cX9_last 32 = .ok (.sipush 200, 3) := by decide +kernel
theorem dX9_last_35 : decode cX9_last 35 = .ok (.if_icmp .ge 58, 3) := by decide +kernel
theorem dX9_last_38 : decode cX9_last 38 = .ok (.aload_n 0, 1) := by decide +kernel
theorem dX9_last_39 : decode cX9_last 39 = .ok (.iload_n 3, 1) := by decide +kernel
theorem dX9_last_40 : decode cX9_last 40 = .ok (.invokevirtual 209, 3) := by decide +kernel
theorem dX9_last_43 : decode cX9_last 43 = .ok (.ifCond .eq 44, 3) := by decide +kernel
theorem dX9_last_46 : decode cX9_last 46 = .ok (.aload_n 0, 1) := by decide +kernel
theorem dX9_last_47 : decode cX9_last 47 = .ok (.iload_n 3, 1) := by decide +kernel
theorem dX9_last_48 : decode cX9_last 48 = .ok (.invokevirtual 191, 3) := by decide +kernel
theorem dX9_last_51 : decode cX9_last 51 = .ok (.aload_n 0, 1) := by decide +kernel
theorem dX9_last_52 : decode cX9_last 52 = .ok (.invokevirtual 246, 3) := by decide +kernel
theorem dX9_last_55 : decode cX9_last 55 = .ok (.istore 4, 2) := by decide +kernel
theorem dX9_last_57 : decode cX9_last 57 = .ok (.aload_n 0, 1) := by decide +kernel
theorem dX9_last_58 : decode cX9_last 58 = .ok (.iconst 0, 1) := by decide +kernel
theorem dX9_last_59 : decode cX9_last 59 = .ok (.invokevirtual 215, 3) := by decide +kernel
theorem dX9_last_62 : decode cX9_last 62 = .ok (.iload 4, 2) := by decide +kernel
theorem dX9_last_64 : decode cX9_last 64 = .ok (.ifCond .eq 10, 3) := by decide +kernel
theorem dX9_last_67 : decode cX9_last 67 = .ok (.iload_n 2, 1) := by decide +kernel
theorem dX9_last_68 : decode cX9_last 68 = .ok (.iload_n 1, 1) := by decide +kernel
theorem dX9_last_69 : decode cX9_last 69 = .ok (.if_icmp .ne 5, 3) := by decide +kernel
theorem dX9_last_72 : decode cX9_last 72 = .ok (.iload_n 3, 1) := by decide +kernel
theorem dX9_last_73 : decode cX9_last 73 = .ok (.ireturn, 1) := by decide +kernel
theorem dX9_last_74 : decode cX9_last 74 = .ok (.iload_n 2, 1) := by decide +kernel
theorem dX9_last_75 : decode cX9_last 75 = .ok (.iload 4, 2) := by decide +kernel
theorem dX9_last_77 : decode cX9_last 77 = .ok (.ifCond .eq 7, 3) := by decide +kernel
theorem dX9_last_80 : decode cX9_last 80 = .ok (.iconst 1, 1) := by decide +kernel
theorem dX9_last_81 : decode cX9_last 81 = .ok (.goto 4, 3) := by decide +kernel
theorem dX9_last_84 : decode cX9_last 84 = .ok (.iconst 0, 1) := by decide +kernel
theorem dX9_last_85 : decode cX9_last 85 = .ok (.iadd, 1) := by decide +kernel
theorem dX9_last_86 : decode cX9_last 86 = .ok (.istore_n 2, 1) := by decide +kernel
theorem dX9_last_87 : decode cX9_last 87 = .ok (.iinc 3 1, 3) := by decide +kernel
theorem dX9_last_90 : decode cX9_last 90 = .ok (.goto (-59), 3) := by decide +kernel
theorem dX9_last_93 : decode cX9_last 93 = .ok (.iload_n 1, 1) := by decide +kernel
theorem dX9_last_94 : decode cX9_last 94 = .ok (.iconst (-1), 1) := by decide +kernel
theorem dX9_last_95 : decode cX9_last 95 = .ok (.if_icmp .ne 7, 3) := by decide +kernel
theorem dX9_last_98 : decode cX9_last 98 = .ok (.iload_n 2, 1) := by decide +kernel
theorem dX9_last_99 : decode cX9_last 99 = .ok (.goto 5, 3) := by decide +kernel
theorem dX9_last_102 : decode cX9_last 102 = .ok (.bipush (-9), 2) := by decide +kernel
theorem dX9_last_104 : decode cX9_last 104 = .ok (.ireturn, 1) := by decide +kernel
theorem dX9_laws_0 : decode cX9_laws 0 = .ok (.aload_n 0, 1) := by decide +kernel
theorem dX9_laws_1 : decode cX9_laws 1 = .ok (.getfield 68, 3) := by decide +kernel
theorem dX9_laws_4 : decode cX9_laws 4 = .ok (.ifCond .ne 6, 3) := by decide +kernel
theorem dX9_laws_7 : decode cX9_laws 7 = .ok (.bipush (-3), 2) := by decide +kernel
theorem dX9_laws_9 : decode cX9_laws 9 = .ok (.ireturn, 1) := by decide +kernel
theorem dX9_laws_10 : decode cX9_laws 10 = .ok (.aload_n 0, 1) := by decide +kernel
theorem dX9_laws_11 : decode cX9_laws 11 = .ok (.getfield 150, 3) := by decide +kernel
theorem dX9_laws_14 : decode cX9_laws 14 = .ok (.istore_n 1, 1) := by decide +kernel
theorem dX9_laws_15 : decode cX9_laws 15 = .ok (.iconst 0, 1) := by decide +kernel
theorem dX9_laws_16 : decode cX9_laws 16 = .ok (.istore_n 2, 1) := by decide +kernel
theorem dX9_laws_17 : decode cX9_laws 17 = .ok (.iconst 0, 1) := by decide +kernel
theorem dX9_laws_18 : decode cX9_laws 18 = .ok (.istore_n 3, 1) := by decide +kernel
theorem dX9_laws_19 : decode cX9_laws 19 = .ok (.iload_n 3, 1) := by decide +kernel
theorem dX9_laws_20 : decode cX9_laws 20 = .ok (.iconst 3, 1) := by decide +kernel
theorem dX9_laws_21 : decode cX9_laws 21 = .ok (.if_icmp .ge 36, 3) := by decide +kernel
theorem dX9_laws_24 : decode cX9_laws 24 = .ok (.aload_n 0, 1) := by decide +kernel
theorem dX9_laws_25 : decode cX9_laws 25 = .ok (.iload_n 3, 1) := by decide +kernel
theorem dX9_laws_26 : decode cX9_laws 26 = .ok (.putfield 150, 3) := by decide +kernel
theorem dX9_laws_29 : decode cX9_laws 29 = .ok (.aload_n 0, 1) := by decide +kernel
theorem dX9_laws_30 : decode cX9_laws 30 = .ok (.iconst (-1), 1) := by decide +kernel
theorem dX9_laws_31 : decode cX9_laws 31 = .ok (.invokevirtual 198, 3) := by decide +kernel
theorem dX9_laws_34 : decode cX9_laws 34 = .ok (.iload_n 2, 1) := by decide +kernel
theorem dX9_laws_35 : decode cX9_laws 35 = .ok (.aload_n 0, 1) := by decide +kernel
theorem dX9_laws_36 : decode cX9_laws 36 = .ok (.invokevirtual 246, 3) := by decide +kernel
theorem dX9_laws_39 : decode cX9_laws 39 = .ok (.ifCond .eq 9, 3) := by decide +kernel
theorem dX9_laws_42 : decode cX9_laws 42 = .ok (.iconst 1, 1) := by decide +kernel
theorem dX9_laws_43 : decode cX9_laws 43 = .ok (.iload_n 3, 1) := by decide +kernel
theorem dX9_laws_44 : decode cX9_laws 44 = .ok (.ishl, 1) := by decide +kernel
theorem dX9_laws_45 : decode cX9_laws 45 = .ok (.goto 4, 3) := by decide +kernel
theorem dX9_laws_48 : decode cX9_laws 48 = .ok (.iconst 0, 1) := by decide +kernel
theorem dX9_laws_49 : decode cX9_laws 49 = .ok (.ior, 1) := by decide +kernel
theorem dX9_laws_50 : decode cX9_laws 50 = .ok (.istore_n 2, 1) := by decide +kernel
theorem dX9_laws_51 : decode cX9_laws 51 = .ok (.iinc 3 1, 3) := by decide +kernel
theorem dX9_laws_54 : decode cX9_laws 54 = .ok (.goto (-35), 3) := by decide +kernel
theorem dX9_laws_57 : decode cX9_laws 57 = .ok (.aload_n 0, 1) := by decide +kernel
theorem dX9_laws_58 : decode cX9_laws 58 = .ok (.iload_n 1, 1) := by decide +kernel
theorem dX9_laws_59 : decode cX9_laws 59 = .ok (.putfield 150, 3) := by decide +kernel
theorem dX9_laws_62 : decode cX9_laws 62 = .ok (.iload_n 2, 1) := by decide +kernel
theorem dX9_laws_63 : decode cX9_laws 63 = .ok (.ireturn, 1) := by decide +kernel
theorem dX9_never_0 : decode cX9_never 0 = .ok (.aload_n 0, 1) := by decide +kernel
theorem dX9_never_1 : decode cX9_never 1 = .ok (.getfield 68, 3) := by decide +kernel
theorem dX9_never_4 : decode cX9_never 4 = .ok (.ifCond .ne 6, 3) := by decide +kernel
theorem dX9_never_7 : decode cX9_never 7 = .ok (.bipush (-3), 2) := by decide +kernel
theorem dX9_never_9 : decode cX9_never 9 = .ok (.ireturn, 1) := by decide +kernel
theorem dX9_never_10 : decode cX9_never 10 = .ok (.iconst 0, 1) := by decide +kernel
theorem dX9_never_11 : decode cX9_never 11 = .ok (.istore_n 1, 1) := by decide +kernel
theorem dX9_never_12 : decode cX9_never 12 = .ok (.iconst 0, 1) := by decide +kernel
theorem dX9_never_13 : decode cX9_never 13 = .ok (.istore_n 2, 1) := by decide +kernel
theorem dX9_never_14 : decode cX9_never 14 = .ok (.iload_n 2, 1) := by decide +kernel
theorem dX9_never_15 : decode cX9_never 15 = .ok (.aload_n 0, 1) := by decide +kernel
theorem dX9_never_16 : decode cX9_never 16 = .ok (.getfield 153, 3) := by decide +kernel
theorem dX9_never_19 : decode cX9_never 19 = .ok (.if_icmp .ge 31, 3) := by decide +kernel
theorem dX9_never_22 : decode cX9_never 22 = .ok (.aload_n 0, 1) := by decide +kernel
theorem dX9_never_23 : decode cX9_never 23 = .ok (.iload_n 2, 1) := by decide +kernel
theorem dX9_never_24 : decode cX9_never 24 = .ok (.invokevirtual 198, 3) := by decide +kernel
theorem dX9_never_27 : decode cX9_never 27 = .ok (.iload_n 1, 1) := by decide +kernel
theorem dX9_never_28 : decode cX9_never 28 = .ok (.aload_n 0, 1) := by decide +kernel
theorem dX9_never_29 : decode cX9_never 29 = .ok (.invokevirtual 246, 3) := by decide +kernel
theorem dX9_never_32 : decode cX9_never 32 = .ok (.ifCond .eq 9, 3) := by decide +kernel
theorem dX9_never_35 : decode cX9_never 35 = .ok (.iconst 1, 1) := by decide +kernel
theorem dX9_never_36 : decode cX9_never 36 = .ok (.iload_n 2, 1) := by decide +kernel
theorem dX9_never_37 : decode cX9_never 37 = .ok (.ishl, 1) := by decide +kernel
theorem dX9_never_38 : decode cX9_never 38 = .ok (.goto 4, 3) := by decide +kernel
theorem dX9_never_41 : decode cX9_never 41 = .ok (.iconst 0, 1) := by decide +kernel
theorem dX9_never_42 : decode cX9_never 42 = .ok (.ior, 1) := by decide +kernel
theorem dX9_never_43 : decode cX9_never 43 = .ok (.istore_n 1, 1) := by decide +kernel
theorem dX9_never_44 : decode cX9_never 44 = .ok (.iinc 2 1, 3) := by decide +kernel
theorem dX9_never_47 : decode cX9_never 47 = .ok (.goto (-33), 3) := by decide +kernel
theorem dX9_never_50 : decode cX9_never 50 = .ok (.iload_n 1, 1) := by decide +kernel
theorem dX9_never_51 : decode cX9_never 51 = .ok (.ireturn, 1) := by decide +kernel
theorem dX9_begin_0 : decode cX9_begin 0 = .ok (.aload_n 0, 1) := by decide +kernel
theorem dX9_begin_1 : decode cX9_begin 1 = .ok (.bipush 31, 2) := by decide +kernel
theorem dX9_begin_3 : decode cX9_begin 3 = .ok (.aload_n 0, 1) := by decide +kernel
theorem dX9_begin_4 : decode cX9_begin 4 = .ok (.getfield 249, 3) := by decide +kernel
theorem dX9_begin_7 : decode cX9_begin 7 = .ok (.imul, 1) := by decide +kernel
theorem dX9_begin_8 : decode cX9_begin 8 = .ok (.iload_n 1, 1) := by decide +kernel
theorem dX9_begin_9 : decode cX9_begin 9 = .ok (.iadd, 1) := by decide +kernel
theorem dX9_begin_10 : decode cX9_begin 10 = .ok (.putfield 249, 3) := by decide +kernel
theorem dX9_begin_13 : decode cX9_begin 13 = .ok (.return_, 1) := by decide +kernel
theorem dX9_forkTells_0 : decode cX9_forkTells 0 = .ok (.aload_n 0, 1) := by decide +kernel
theorem dX9_forkTells_1 : decode cX9_forkTells 1 = .ok (.iconst 1, 1) := by decide +kernel
theorem dX9_forkTells_2 : decode cX9_forkTells 2 = .ok (.invokevirtual 252, 3) := by decide +kernel
theorem dX9_forkTells_5 : decode cX9_forkTells 5 = .ok (.aload_n 0, 1) := by decide +kernel
theorem dX9_forkTells_6 : decode cX9_forkTells 6 = .ok (.getfield 19, 3) := by decide +kernel
theorem dX9_forkTells_9 : decode cX9_forkTells 9 = .ok (.iload_n 1, 1) := by decide +kernel
theorem dX9_forkTells_10 : decode cX9_forkTells 10 = .ok (.iaload, 1) := by decide +kernel
theorem dX9_forkTells_11 : decode cX9_forkTells 11 = .ok (.ireturn, 1) := by decide +kernel
theorem dX9_knifeTells_0 : decode cX9_knifeTells 0 = .ok (.aload_n 0, 1) := by decide +kernel
theorem dX9_knifeTells_1 : decode cX9_knifeTells 1 = .ok (.iconst 2, 1) := by decide +kernel
theorem dX9_knifeTells_2 : decode cX9_knifeTells 2 = .ok (.invokevirtual 252, 3) := by decide +kernel
theorem dX9_knifeTells_5 : decode cX9_knifeTells 5 = .ok (.aload_n 0, 1) := by decide +kernel
theorem dX9_knifeTells_6 : decode cX9_knifeTells 6 = .ok (.iload_n 1, 1) := by decide +kernel
theorem dX9_knifeTells_7 : decode cX9_knifeTells 7 = .ok (.invokevirtual 255, 3) := by decide +kernel
theorem dX9_knifeTells_10 : decode cX9_knifeTells 10 = .ok (.bipush 100, 2) := by decide +kernel
theorem dX9_knifeTells_12 : decode cX9_knifeTells 12 = .ok (.iadd, 1) := by decide +kernel
theorem dX9_knifeTells_13 : decode cX9_knifeTells 13 = .ok (.ireturn, 1) := by decide +kernel
theorem dX9_spoonTells_0 : decode cX9_spoonTells 0 = .ok (.aload_n 0, 1) := by decide +kernel
theorem dX9_spoonTells_1 : decode cX9_spoonTells 1 = .ok (.iconst 3, 1) := by decide +kernel
theorem dX9_spoonTells_2 : decode cX9_spoonTells 2 = .ok (.invokevirtual 252, 3) := by decide +kernel
theorem dX9_spoonTells_5 : decode cX9_spoonTells 5 = .ok (.aload_n 0, 1) := by decide +kernel
theorem dX9_spoonTells_6 : decode cX9_spoonTells 6 = .ok (.iload_n 1, 1) := by decide +kernel
theorem dX9_spoonTells_7 : decode cX9_spoonTells 7 = .ok (.invokevirtual 258, 3) := by decide +kernel
theorem dX9_spoonTells_10 : decode cX9_spoonTells 10 = .ok (.istore_n 2, 1) := by decide +kernel
theorem dX9_spoonTells_11 : decode cX9_spoonTells 11 = .ok (.aload_n 0, 1) := by decide +kernel
theorem dX9_spoonTells_12 : decode cX9_spoonTells 12 = .ok (.iload_n 1, 1) := by decide +kernel
theorem dX9_spoonTells_13 : decode cX9_spoonTells 13 = .ok (.invokevirtual 255, 3) := by decide +kernel
theorem dX9_spoonTells_16 : decode cX9_spoonTells 16 = .ok (.istore_n 3, 1) := by decide +kernel
theorem dX9_spoonTells_17 : decode cX9_spoonTells 17 = .ok (.iload_n 2, 1) := by decide +kernel
theorem dX9_spoonTells_18 : decode cX9_spoonTells 18 = .ok (.iload_n 3, 1) := by decide +kernel
theorem dX9_spoonTells_19 : decode cX9_spoonTells 19 = .ok (.iadd, 1) := by decide +kernel
theorem dX9_spoonTells_20 : decode cX9_spoonTells 20 = .ok (.ireturn, 1) := by decide +kernel
theorem dX9_tell_0 : decode cX9_tell 0 = .ok (.aload_n 0, 1) := by decide +kernel
theorem dX9_tell_1 : decode cX9_tell 1 = .ok (.iload_n 1, 1) := by decide +kernel
theorem dX9_tell_2 : decode cX9_tell 2 = .ok (.invokevirtual 165, 3) := by decide +kernel
theorem dX9_tell_5 : decode cX9_tell 5 = .ok (.ifCond .ne 5, 3) := by decide +kernel
theorem dX9_tell_8 : decode cX9_tell 8 = .ok (.iconst (-1), 1) := by decide +kernel
theorem dX9_tell_9 : decode cX9_tell 9 = .ok (.ireturn, 1) := by decide +kernel
theorem dX9_tell_10 : decode cX9_tell 10 = .ok (.aload_n 0, 1) := by decide +kernel
theorem dX9_tell_11 : decode cX9_tell 11 = .ok (.getfield 16, 3) := by decide +kernel
theorem dX9_tell_14 : decode cX9_tell 14 = .ok (.iload_n 1, 1) := by decide +kernel
theorem dX9_tell_15 : decode cX9_tell 15 = .ok (.iaload, 1) := by decide +kernel
theorem dX9_tell_16 : decode cX9_tell 16 = .ok (.ifCond .ne 11, 3) := by decide +kernel
theorem dX9_tell_19 : decode cX9_tell 19 = .ok (.aload_n 0, 1) := by decide +kernel
theorem dX9_tell_20 : decode cX9_tell 20 = .ok (.iload_n 1, 1) := by decide +kernel
theorem dX9_tell_21 : decode cX9_tell 21 = .ok (.invokevirtual 255, 3) := by decide +kernel
theorem dX9_tell_24 : decode cX9_tell 24 = .ok (.goto 26, 3) := by decide +kernel
theorem dX9_tell_27 : decode cX9_tell 27 = .ok (.aload_n 0, 1) := by decide +kernel
theorem dX9_tell_28 : decode cX9_tell 28 = .ok (.getfield 16, 3) := by decide +kernel
theorem dX9_tell_31 : decode cX9_tell 31 = .ok (.iload_n 1, 1) := by decide +kernel
theorem dX9_tell_32 : decode cX9_tell 32 = .ok (.iaload, 1) := by decide +kernel
theorem dX9_tell_33 : decode cX9_tell 33 = .ok (.iconst 1, 1) := by decide +kernel
theorem dX9_tell_34 : decode cX9_tell 34 = .ok (.if_icmp .ne 11, 3) := by decide +kernel
theorem dX9_tell_37 : decode cX9_tell 37 = .ok (.aload_n 0, 1) := by decide +kernel
theorem dX9_tell_38 : decode cX9_tell 38 = .ok (.iload_n 1, 1) := by decide +kernel
theorem dX9_tell_39 : decode cX9_tell 39 = .ok (.invokevirtual 258, 3) := by decide +kernel
theorem dX9_tell_42 : decode cX9_tell 42 = .ok (.goto 8, 3) := by decide +kernel
theorem dX9_tell_45 : decode cX9_tell 45 = .ok (.aload_n 0, 1) := by decide +kernel
theorem dX9_tell_46 : decode cX9_tell 46 = .ok (.iload_n 1, 1) := by decide +kernel
theorem dX9_tell_47 : decode cX9_tell 47 = .ok (.invokevirtual 261, 3) := by decide +kernel
theorem dX9_tell_50 : decode cX9_tell 50 = .ok (.ireturn, 1) := by decide +kernel
theorem dX9_polish_0 : decode cX9_polish 0 = .ok (.aload_n 0, 1) := by decide +kernel
theorem dX9_polish_1 : decode cX9_polish 1 = .ok (.iload_n 1, 1) := by decide +kernel
theorem dX9_polish_2 : decode cX9_polish 2 = .ok (.invokevirtual 165, 3) := by decide +kernel
theorem dX9_polish_5 : decode cX9_polish 5 = .ok (.ifCond .ne 5, 3) := by decide +kernel
theorem dX9_polish_8 : decode cX9_polish 8 = .ok (.iconst (-1), 1) := by decide +kernel
theorem dX9_polish_9 : decode cX9_polish 9 = .ok (.ireturn, 1) := by decide +kernel
theorem dX9_polish_10 : decode cX9_polish 10 = .ok (.aload_n 0, 1) := by decide +kernel
theorem dX9_polish_11 : decode cX9_polish 11 = .ok (.aload_n 0, 1) := by decide +kernel
theorem dX9_polish_12 : decode cX9_polish 12 = .ok (.getfield 16, 3) := by decide +kernel
theorem dX9_polish_15 : decode cX9_polish 15 = .ok (.iload_n 1, 1) := by decide +kernel
theorem dX9_polish_16 : decode cX9_polish 16 = .ok (.iaload, 1) := by decide +kernel
theorem dX9_polish_17 : decode cX9_polish 17 = .ok (.iconst 2, 1) := by decide +kernel
theorem dX9_polish_18 : decode cX9_polish 18 = .ok (.if_icmp .ne 7, 3) := by decide +kernel
theorem dX9_polish_21 : decode cX9_polish 21 = .ok (.iconst 5, 1) := by decide +kernel
theorem dX9_polish_22 : decode cX9_polish 22 = .ok (.goto 4, 3) := by decide +kernel
theorem dX9_polish_25 : decode cX9_polish 25 = .ok (.iconst 4, 1) := by decide +kernel
theorem dX9_polish_26 : decode cX9_polish 26 = .ok (.invokevirtual 252, 3) := by decide +kernel
theorem dX9_polish_29 : decode cX9_polish 29 = .ok (.aload_n 0, 1) := by decide +kernel
theorem dX9_polish_30 : decode cX9_polish 30 = .ok (.getfield 16, 3) := by decide +kernel
theorem dX9_polish_33 : decode cX9_polish 33 = .ok (.iload_n 1, 1) := by decide +kernel
theorem dX9_polish_34 : decode cX9_polish 34 = .ok (.iaload, 1) := by decide +kernel
theorem dX9_polish_35 : decode cX9_polish 35 = .ok (.iconst 2, 1) := by decide +kernel
theorem dX9_polish_36 : decode cX9_polish 36 = .ok (.if_icmp .ne 8, 3) := by decide +kernel
theorem dX9_polish_39 : decode cX9_polish 39 = .ok (.bipush 30, 2) := by decide +kernel
theorem dX9_polish_41 : decode cX9_polish 41 = .ok (.goto 4, 3) := by decide +kernel
theorem dX9_polish_44 : decode cX9_polish 44 = .ok (.iload_n 1, 1) := by decide +kernel
theorem dX9_polish_45 : decode cX9_polish 45 = .ok (.ireturn, 1) := by decide +kernel
theorem dX9_as_0 : decode cX9_as 0 = .ok (.aload_n 0, 1) := by decide +kernel
theorem dX9_as_1 : decode cX9_as 1 = .ok (.iload_n 1, 1) := by decide +kernel
theorem dX9_as_2 : decode cX9_as 2 = .ok (.invokevirtual 165, 3) := by decide +kernel
theorem dX9_as_5 : decode cX9_as 5 = .ok (.ifCond .ne 9, 3) := by decide +kernel
theorem dX9_as_8 : decode cX9_as 8 = .ok (.aload_n 0, 1) := by decide +kernel
theorem dX9_as_9 : decode cX9_as 9 = .ok (.iconst (-1), 1) := by decide +kernel
theorem dX9_as_10 : decode cX9_as 10 = .ok (.invokevirtual 89, 3) := by decide +kernel
theorem dX9_as_13 : decode cX9_as 13 = .ok (.ireturn, 1) := by decide +kernel
theorem dX9_as_14 : decode cX9_as 14 = .ok (.iload_n 2, 1) := by decide +kernel
theorem dX9_as_15 : decode cX9_as 15 = .ok (.i2l, 1) := by decide +kernel
theorem dX9_as_16 : decode cX9_as 16 = .ok (.lconst 0, 1) := by decide +kernel
theorem dX9_as_17 : decode cX9_as 17 = .ok (.ldc2_w 83, 3) := by decide +kernel
theorem dX9_as_20 : decode cX9_as 20 = .ok (.invokestatic 71, 3) := by decide +kernel
theorem dX9_as_23 : decode cX9_as 23 = .ok (.ifCond .ne 10, 3) := by decide +kernel
theorem dX9_as_26 : decode cX9_as 26 = .ok (.aload_n 0, 1) := by decide +kernel
theorem dX9_as_27 : decode cX9_as 27 = .ok (.bipush (-2), 2) := by decide +kernel
theorem dX9_as_29 : decode cX9_as 29 = .ok (.invokevirtual 89, 3) := by decide +kernel
theorem dX9_as_32 : decode cX9_as 32 = .ok (.ireturn, 1) := by decide +kernel
theorem dX9_as_33 : decode cX9_as 33 = .ok (.aload_n 0, 1) := by decide +kernel
theorem dX9_as_34 : decode cX9_as 34 = .ok (.getfield 16, 3) := by decide +kernel
theorem dX9_as_37 : decode cX9_as 37 = .ok (.iload_n 1, 1) := by decide +kernel
theorem dX9_as_38 : decode cX9_as 38 = .ok (.iaload, 1) := by decide +kernel
theorem dX9_as_39 : decode cX9_as 39 = .ok (.iload_n 2, 1) := by decide +kernel
theorem dX9_as_40 : decode cX9_as 40 = .ok (.if_icmp .ge 9, 3) := by decide +kernel
theorem dX9_as_43 : decode cX9_as 43 = .ok (.aload_n 0, 1) := by decide +kernel
theorem dX9_as_44 : decode cX9_as 44 = .ok (.iconst 2, 1) := by decide +kernel
theorem dX9_as_45 : decode cX9_as 45 = .ok (.invokevirtual 96, 3) := by decide +kernel
theorem dX9_as_48 : decode cX9_as 48 = .ok (.ireturn, 1) := by decide +kernel
theorem dX9_as_49 : decode cX9_as 49 = .ok (.aload_n 0, 1) := by decide +kernel
theorem dX9_as_50 : decode cX9_as 50 = .ok (.iconst 0, 1) := by decide +kernel
theorem dX9_as_51 : decode cX9_as 51 = .ok (.putfield 64, 3) := by decide +kernel
theorem dX9_as_54 : decode cX9_as 54 = .ok (.iconst 1, 1) := by decide +kernel
theorem dX9_as_55 : decode cX9_as 55 = .ok (.ireturn, 1) := by decide +kernel
theorem dX9_trace_0 : decode cX9_trace 0 = .ok (.aload_n 0, 1) := by decide +kernel
theorem dX9_trace_1 : decode cX9_trace 1 = .ok (.getfield 249, 3) := by decide +kernel
theorem dX9_trace_4 : decode cX9_trace 4 = .ok (.ireturn, 1) := by decide +kernel
theorem dX9_fault_0 : decode cX9_fault 0 = .ok (.aload_n 0, 1) := by decide +kernel
theorem dX9_fault_1 : decode cX9_fault 1 = .ok (.getfield 64, 3) := by decide +kernel
theorem dX9_fault_4 : decode cX9_fault 4 = .ok (.ireturn, 1) := by decide +kernel
theorem dX9_many_0 : decode cX9_many 0 = .ok (.iload_n 1, 1) := by decide +kernel
theorem dX9_many_1 : decode cX9_many 1 = .ok (.tableswitch 78 0 6 #[43, 48, 53, 58, 63, 68, 73], 43) := by decide +kernel
theorem dX9_many_44 : decode cX9_many 44 = .ok (.aload_n 0, 1) := by decide +kernel
theorem dX9_many_45 : decode cX9_many 45 = .ok (.getfield 68, 3) := by decide +kernel
theorem dX9_many_48 : decode cX9_many 48 = .ok (.ireturn, 1) := by decide +kernel
theorem dX9_many_49 : decode cX9_many 49 = .ok (.aload_n 0, 1) := by decide +kernel
theorem dX9_many_50 : decode cX9_many 50 = .ok (.getfield 147, 3) := by decide +kernel
theorem dX9_many_53 : decode cX9_many 53 = .ok (.ireturn, 1) := by decide +kernel
theorem dX9_many_54 : decode cX9_many 54 = .ok (.aload_n 0, 1) := by decide +kernel
theorem dX9_many_55 : decode cX9_many 55 = .ok (.getfield 75, 3) := by decide +kernel
theorem dX9_many_58 : decode cX9_many 58 = .ok (.ireturn, 1) := by decide +kernel
theorem dX9_many_59 : decode cX9_many 59 = .ok (.aload_n 0, 1) := by decide +kernel
theorem dX9_many_60 : decode cX9_many 60 = .ok (.getfield 78, 3) := by decide +kernel
theorem dX9_many_63 : decode cX9_many 63 = .ok (.ireturn, 1) := by decide +kernel
theorem dX9_many_64 : decode cX9_many 64 = .ok (.aload_n 0, 1) := by decide +kernel
theorem dX9_many_65 : decode cX9_many 65 = .ok (.getfield 153, 3) := by decide +kernel
theorem dX9_many_68 : decode cX9_many 68 = .ok (.ireturn, 1) := by decide +kernel
theorem dX9_many_69 : decode cX9_many 69 = .ok (.aload_n 0, 1) := by decide +kernel
theorem dX9_many_70 : decode cX9_many 70 = .ok (.getfield 156, 3) := by decide +kernel
theorem dX9_many_73 : decode cX9_many 73 = .ok (.ireturn, 1) := by decide +kernel
theorem dX9_many_74 : decode cX9_many 74 = .ok (.aload_n 0, 1) := by decide +kernel
theorem dX9_many_75 : decode cX9_many 75 = .ok (.getfield 150, 3) := by decide +kernel
theorem dX9_many_78 : decode cX9_many 78 = .ok (.ireturn, 1) := by decide +kernel
theorem dX9_many_79 : decode cX9_many 79 = .ok (.bipush (-2), 2) := by decide +kernel
theorem dX9_many_81 : decode cX9_many 81 = .ok (.ireturn, 1) := by decide +kernel
theorem dJ6_bitCount_0f7a4_0 : decode cJ6_bitCount_0f7a4 0 = .ok (.iload_n 0, 1) := by decide +kernel
theorem dJ6_bitCount_0f7a4_1 : decode cJ6_bitCount_0f7a4 1 = .ok (.iload_n 0, 1) := by decide +kernel
theorem dJ6_bitCount_0f7a4_2 : decode cJ6_bitCount_0f7a4 2 = .ok (.iconst 1, 1) := by decide +kernel
theorem dJ6_bitCount_0f7a4_3 : decode cJ6_bitCount_0f7a4 3 = .ok (.iushr, 1) := by decide +kernel
theorem dJ6_bitCount_0f7a4_4 : decode cJ6_bitCount_0f7a4 4 = .ok (.ldc_w 265, 3) := by decide +kernel
theorem dJ6_bitCount_0f7a4_7 : decode cJ6_bitCount_0f7a4 7 = .ok (.iand, 1) := by decide +kernel
theorem dJ6_bitCount_0f7a4_8 : decode cJ6_bitCount_0f7a4 8 = .ok (.isub, 1) := by decide +kernel
theorem dJ6_bitCount_0f7a4_9 : decode cJ6_bitCount_0f7a4 9 = .ok (.istore_n 0, 1) := by decide +kernel
theorem dJ6_bitCount_0f7a4_10 : decode cJ6_bitCount_0f7a4 10 = .ok (.iload_n 0, 1) := by decide +kernel
theorem dJ6_bitCount_0f7a4_11 : decode cJ6_bitCount_0f7a4 11 = .ok (.ldc_w 266, 3) := by decide +kernel
theorem dJ6_bitCount_0f7a4_14 : decode cJ6_bitCount_0f7a4 14 = .ok (.iand, 1) := by decide +kernel
theorem dJ6_bitCount_0f7a4_15 : decode cJ6_bitCount_0f7a4 15 = .ok (.iload_n 0, 1) := by decide +kernel
theorem dJ6_bitCount_0f7a4_16 : decode cJ6_bitCount_0f7a4 16 = .ok (.iconst 2, 1) := by decide +kernel
theorem dJ6_bitCount_0f7a4_17 : decode cJ6_bitCount_0f7a4 17 = .ok (.iushr, 1) := by decide +kernel
theorem dJ6_bitCount_0f7a4_18 : decode cJ6_bitCount_0f7a4 18 = .ok (.ldc_w 266, 3) := by decide +kernel
theorem dJ6_bitCount_0f7a4_21 : decode cJ6_bitCount_0f7a4 21 = .ok (.iand, 1) := by decide +kernel
theorem dJ6_bitCount_0f7a4_22 : decode cJ6_bitCount_0f7a4 22 = .ok (.iadd, 1) := by decide +kernel
theorem dJ6_bitCount_0f7a4_23 : decode cJ6_bitCount_0f7a4 23 = .ok (.istore_n 0, 1) := by decide +kernel
theorem dJ6_bitCount_0f7a4_24 : decode cJ6_bitCount_0f7a4 24 = .ok (.iload_n 0, 1) := by decide +kernel
theorem dJ6_bitCount_0f7a4_25 : decode cJ6_bitCount_0f7a4 25 = .ok (.iload_n 0, 1) := by decide +kernel
theorem dJ6_bitCount_0f7a4_26 : decode cJ6_bitCount_0f7a4 26 = .ok (.iconst 4, 1) := by decide +kernel
theorem dJ6_bitCount_0f7a4_27 : decode cJ6_bitCount_0f7a4 27 = .ok (.iushr, 1) := by decide +kernel
theorem dJ6_bitCount_0f7a4_28 : decode cJ6_bitCount_0f7a4 28 = .ok (.iadd, 1) := by decide +kernel
theorem dJ6_bitCount_0f7a4_29 : decode cJ6_bitCount_0f7a4 29 = .ok (.ldc_w 267, 3) := by decide +kernel
theorem dJ6_bitCount_0f7a4_32 : decode cJ6_bitCount_0f7a4 32 = .ok (.iand, 1) := by decide +kernel
theorem dJ6_bitCount_0f7a4_33 : decode cJ6_bitCount_0f7a4 33 = .ok (.istore_n 0, 1) := by decide +kernel
theorem dJ6_bitCount_0f7a4_34 : decode cJ6_bitCount_0f7a4 34 = .ok (.iload_n 0, 1) := by decide +kernel
theorem dJ6_bitCount_0f7a4_35 : decode cJ6_bitCount_0f7a4 35 = .ok (.iload_n 0, 1) := by decide +kernel
theorem dJ6_bitCount_0f7a4_36 : decode cJ6_bitCount_0f7a4 36 = .ok (.bipush 8, 2) := by decide +kernel
theorem dJ6_bitCount_0f7a4_38 : decode cJ6_bitCount_0f7a4 38 = .ok (.iushr, 1) := by decide +kernel
theorem dJ6_bitCount_0f7a4_39 : decode cJ6_bitCount_0f7a4 39 = .ok (.iadd, 1) := by decide +kernel
theorem dJ6_bitCount_0f7a4_40 : decode cJ6_bitCount_0f7a4 40 = .ok (.istore_n 0, 1) := by decide +kernel
theorem dJ6_bitCount_0f7a4_41 : decode cJ6_bitCount_0f7a4 41 = .ok (.iload_n 0, 1) := by decide +kernel
theorem dJ6_bitCount_0f7a4_42 : decode cJ6_bitCount_0f7a4 42 = .ok (.iload_n 0, 1) := by decide +kernel
theorem dJ6_bitCount_0f7a4_43 : decode cJ6_bitCount_0f7a4 43 = .ok (.bipush 16, 2) := by decide +kernel
theorem dJ6_bitCount_0f7a4_45 : decode cJ6_bitCount_0f7a4 45 = .ok (.iushr, 1) := by decide +kernel
theorem dJ6_bitCount_0f7a4_46 : decode cJ6_bitCount_0f7a4 46 = .ok (.iadd, 1) := by decide +kernel
theorem dJ6_bitCount_0f7a4_47 : decode cJ6_bitCount_0f7a4 47 = .ok (.istore_n 0, 1) := by decide +kernel
theorem dJ6_bitCount_0f7a4_48 : decode cJ6_bitCount_0f7a4 48 = .ok (.iload_n 0, 1) := by decide +kernel
theorem dJ6_bitCount_0f7a4_49 : decode cJ6_bitCount_0f7a4 49 = .ok (.bipush 63, 2) := by decide +kernel
theorem dJ6_bitCount_0f7a4_51 : decode cJ6_bitCount_0f7a4 51 = .ok (.iand, 1) := by decide +kernel
theorem dJ6_bitCount_0f7a4_52 : decode cJ6_bitCount_0f7a4 52 = .ok (.ireturn, 1) := by decide +kernel
theorem dJ9_max_7cf53_0 : decode cJ9_max_7cf53 0 = .ok (.iload_n 0, 1) := by decide +kernel
theorem dJ9_max_7cf53_1 : decode cJ9_max_7cf53 1 = .ok (.iload_n 1, 1) := by decide +kernel
theorem dJ9_max_7cf53_2 : decode cJ9_max_7cf53 2 = .ok (.if_icmp .lt 7, 3) := by decide +kernel
theorem dJ9_max_7cf53_5 : decode cJ9_max_7cf53 5 = .ok (.iload_n 0, 1) := by decide +kernel
theorem dJ9_max_7cf53_6 : decode cJ9_max_7cf53 6 = .ok (.goto 4, 3) := by decide +kernel
theorem dJ9_max_7cf53_9 : decode cJ9_max_7cf53 9 = .ok (.iload_n 1, 1) := by decide +kernel
theorem dJ9_max_7cf53_10 : decode cJ9_max_7cf53 10 = .ok (.ireturn, 1) := by decide +kernel
theorem dJ9_min_7cf53_0 : decode cJ9_min_7cf53 0 = .ok (.iload_n 0, 1) := by decide +kernel
theorem dJ9_min_7cf53_1 : decode cJ9_min_7cf53 1 = .ok (.iload_n 1, 1) := by decide +kernel
theorem dJ9_min_7cf53_2 : decode cJ9_min_7cf53 2 = .ok (.if_icmp .gt 7, 3) := by decide +kernel
theorem dJ9_min_7cf53_5 : decode cJ9_min_7cf53 5 = .ok (.iload_n 0, 1) := by decide +kernel
theorem dJ9_min_7cf53_6 : decode cJ9_min_7cf53 6 = .ok (.goto 4, 3) := by decide +kernel
theorem dJ9_min_7cf53_9 : decode cJ9_min_7cf53 9 = .ok (.iload_n 1, 1) := by decide +kernel
theorem dJ9_min_7cf53_10 : decode cJ9_min_7cf53 10 = .ok (.ireturn, 1) := by decide +kernel
theorem dJ7_fill_53178_0 : decode cJ7_fill_53178 0 = .ok (.iconst 0, 1) := by decide +kernel
theorem dJ7_fill_53178_1 : decode cJ7_fill_53178 1 = .ok (.istore_n 2, 1) := by decide +kernel
theorem dJ7_fill_53178_2 : decode cJ7_fill_53178 2 = .ok (.aload_n 0, 1) := by decide +kernel
theorem dJ7_fill_53178_3 : decode cJ7_fill_53178 3 = .ok (.arraylength, 1) := by decide +kernel
theorem dJ7_fill_53178_4 : decode cJ7_fill_53178 4 = .ok (.istore_n 3, 1) := by decide +kernel
theorem dJ7_fill_53178_5 : decode cJ7_fill_53178 5 = .ok (.iload_n 2, 1) := by decide +kernel
theorem dJ7_fill_53178_6 : decode cJ7_fill_53178 6 = .ok (.iload_n 3, 1) := by decide +kernel
theorem dJ7_fill_53178_7 : decode cJ7_fill_53178 7 = .ok (.if_icmp .ge 13, 3) := by decide +kernel
theorem dJ7_fill_53178_10 : decode cJ7_fill_53178 10 = .ok (.aload_n 0, 1) := by decide +kernel
theorem dJ7_fill_53178_11 : decode cJ7_fill_53178 11 = .ok (.iload_n 2, 1) := by decide +kernel
theorem dJ7_fill_53178_12 : decode cJ7_fill_53178 12 = .ok (.iload_n 1, 1) := by decide +kernel
theorem dJ7_fill_53178_13 : decode cJ7_fill_53178 13 = .ok (.iastore, 1) := by decide +kernel
theorem dJ7_fill_53178_14 : decode cJ7_fill_53178 14 = .ok (.iinc 2 1, 3) := by decide +kernel
theorem dJ7_fill_53178_17 : decode cJ7_fill_53178 17 = .ok (.goto (-12), 3) := by decide +kernel
theorem dJ7_fill_53178_20 : decode cJ7_fill_53178 20 = .ok (.return_, 1) := by decide +kernel
end
section
/-! printed by wip/gen/dec.py: methods, words of the tables -/
abbrev Mth : Type := MethodName × ByteArray × Nat × Option FieldType
abbrev mcode (y : Mth) : Cond := .code y.1 y.2.1 y.2.2.1 y.2.2.2
def melc (k : Nat) : String := if k = 13 then "PlatePeas$Fork" else if k = 17 then "PlatePeas$Spots" else "PlatePeas$Sheet"
abbrev mX0_init : Mth := (yX0_init, cX0_init, 3, none)
abbrev mX0_kindNumber : Mth := (yX0_kindNumber, cX0_kindNumber, 1, (some .int))
abbrev mX0_pushForce : Mth := (yX0_pushForce, cX0_pushForce, 1, (some .int))
abbrev mX0_telling : Mth := (yX0_telling, cX0_telling, 2, (some .int))
abbrev mX0_forkTelling : Mth := (yX0_forkTelling, cX0_forkTelling, 2, (some .int))
abbrev mX0_polished : Mth := (yX0_polished, cX0_polished, 2, (some .int))
abbrev mX1_init : Mth := (yX1_init, cX1_init, 3, none)
abbrev mX1_kindNumber : Mth := (yX1_kindNumber, cX1_kindNumber, 1, (some .int))
abbrev mX1_pushForce : Mth := (yX1_pushForce, cX1_pushForce, 1, (some .int))
abbrev mX1_telling : Mth := (yX1_telling, cX1_telling, 2, (some .int))
abbrev mX2_init : Mth := (yX2_init, cX2_init, 1, none)
abbrev mX2_isLaid : Mth := (yX2_isLaid, cX2_isLaid, 1, (some .boolean))
abbrev mX2_hasSquare : Mth := (yX2_hasSquare, cX2_hasSquare, 2, (some .boolean))
abbrev mX2_hasPea : Mth := (yX2_hasPea, cX2_hasPea, 2, (some .boolean))
abbrev mX2_eaterAt : Mth := (yX2_eaterAt, cX2_eaterAt, 2, (some (.object "PlatePeas$Fork")))
abbrev mX2_signAt : Mth := (yX2_signAt, cX2_signAt, 2, (some .int))
abbrev mX2_changeSign : Mth := (yX2_changeSign, cX2_changeSign, 3, none)
abbrev mX2_startOf : Mth := (yX2_startOf, cX2_startOf, 2, (some .int))
abbrev mX2_startsOn : Mth := (yX2_startsOn, cX2_startsOn, 3, (some .boolean))
abbrev mX2_isCode : Mth := (yX2_isCode, cX2_isCode, 2, (some .boolean))
abbrev mX2_nextTo : Mth := (yX2_nextTo, cX2_nextTo, 5, (some .int))
abbrev mX2_readText : Mth := (yX2_readText, cX2_readText, 5, (some .int))
abbrev mX2_wipe : Mth := (yX2_wipe, cX2_wipe, 1, none)
abbrev mX2_rowCodes : Mth := (yX2_rowCodes, cX2_rowCodes, 1, (some .int))
abbrev mX2_takes : Mth := (yX2_takes, cX2_takes, 3, (some .boolean))
abbrev mX2_takesBehindHead : Mth := (yX2_takesBehindHead, cX2_takesBehindHead, 4, (some .boolean))
abbrev mX2_takesInRow : Mth := (yX2_takesInRow, cX2_takesInRow, 4, (some .boolean))
abbrev mX2_signOf : Mth := (yX2_signOf, cX2_signOf, 1, (some .int))
abbrev mX2_takesEater : Mth := (yX2_takesEater, cX2_takesEater, 3, (some .boolean))
abbrev mX2_takesStrength : Mth := (yX2_takesStrength, cX2_takesStrength, 2, (some .boolean))
abbrev mX2_eaterByLetter : Mth := (yX2_eaterByLetter, cX2_eaterByLetter, 3, (some (.object "PlatePeas$Fork")))
abbrev mX2_listCodes : Mth := (yX2_listCodes, cX2_listCodes, 4, none)
abbrev mX3_init : Mth := (yX3_init, cX3_init, 3, none)
abbrev mX3_stepsOn : Mth := (yX3_stepsOn, cX3_stepsOn, 3, (some .boolean))
abbrev mX4_init : Mth := (yX4_init, cX4_init, 1, none)
abbrev mX4_isNothing : Mth := (yX4_isNothing, cX4_isNothing, 1, (some .boolean))
abbrev mX4_begin : Mth := (yX4_begin, cX4_begin, 3, none)
abbrev mX4_drop : Mth := (yX4_drop, cX4_drop, 1, none)
abbrev mX4_hasCell : Mth := (yX4_hasCell, cX4_hasCell, 2, (some .boolean))
abbrev mX4_hasCells : Mth := (yX4_hasCells, cX4_hasCells, 3, (some .boolean))
abbrev mX4_read : Mth := (yX4_read, cX4_read, 2, (some .int))
abbrev mX4_write : Mth := (yX4_write, cX4_write, 3, none)
abbrev mX4_cut : Mth := (yX4_cut, cX4_cut, 2, (some .int))
abbrev mX4_faultOfLane : Mth := (yX4_faultOfLane, cX4_faultOfLane, 2, (some .int))
abbrev mX4_faultOfCell : Mth := (yX4_faultOfCell, cX4_faultOfCell, 4, (some .int))
abbrev mX4_faultOfCells : Mth := (yX4_faultOfCells, cX4_faultOfCells, 5, (some .int))
abbrev mX5_init : Mth := (yX5_init, cX5_init, 3, none)
abbrev mX5_kindNumber : Mth := (yX5_kindNumber, cX5_kindNumber, 1, (some .int))
abbrev mX5_pushForce : Mth := (yX5_pushForce, cX5_pushForce, 1, (some .int))
abbrev mX5_telling : Mth := (yX5_telling, cX5_telling, 3, (some .int))
abbrev mX5_polished : Mth := (yX5_polished, cX5_polished, 2, (some .int))
abbrev mX6_init : Mth := (yX6_init, cX6_init, 2, none)
abbrev mX6_beginOn : Mth := (yX6_beginOn, cX6_beginOn, 4, none)
abbrev mX6_copyFrom : Mth := (yX6_copyFrom, cX6_copyFrom, 3, none)
abbrev mX6_spotOf : Mth := (yX6_spotOf, cX6_spotOf, 2, (some .int))
abbrev mX6_isOn : Mth := (yX6_isOn, cX6_isOn, 2, (some .boolean))
abbrev mX6_isHad : Mth := (yX6_isHad, cX6_isHad, 2, (some .boolean))
abbrev mX6_countHad : Mth := (yX6_countHad, cX6_countHad, 1, (some .int))
abbrev mX6_elsewhereThan : Mth := (yX6_elsewhereThan, cX6_elsewhereThan, 4, (some .int))
abbrev mX6_behindLine : Mth := (yX6_behindLine, cX6_behindLine, 5, (some .int))
abbrev mX6_isHeld : Mth := (yX6_isHeld, cX6_isHeld, 4, (some .boolean))
abbrev mX6_heldSet : Mth := (yX6_heldSet, cX6_heldSet, 4, (some .int))
abbrev mX6_holdsAny : Mth := (yX6_holdsAny, cX6_holdsAny, 2, (some .boolean))
abbrev mX6_firstHold : Mth := (yX6_firstHold, cX6_firstHold, 3, (some .int))
abbrev mX6_countHolds : Mth := (yX6_countHolds, cX6_countHolds, 4, (some .int))
abbrev mX6_pushByCode : Mth := (yX6_pushByCode, cX6_pushByCode, 5, none)
abbrev mX6_roll : Mth := (yX6_roll, cX6_roll, 8, none)
abbrev mX6_comeToRim : Mth := (yX6_comeToRim, cX6_comeToRim, 2, none)
abbrev mX6_peaOn : Mth := (yX6_peaOn, cX6_peaOn, 3, (some .int))
abbrev mX7_init : Mth := (yX7_init, cX7_init, 1, none)
abbrev mX7_leave : Mth := (yX7_leave, cX7_leave, 2, none)
abbrev mX8_init : Mth := (yX8_init, cX8_init, 3, none)
abbrev mX8_plate : Mth := (yX8_plate, cX8_plate, 8, (some .int))
abbrev mX8_sign : Mth := (yX8_sign, cX8_sign, 2, (some .int))
abbrev mX8_set : Mth := (yX8_set, cX8_set, 4, (some .int))
abbrev mX8_ofEater : Mth := (yX8_ofEater, cX8_ofEater, 4, (some .int))
abbrev mX8_law : Mth := (yX8_law, cX8_law, 3, (some .int))
abbrev mX8_push : Mth := (yX8_push, cX8_push, 6, (some .int))
abbrev mX8_undo : Mth := (yX8_undo, cX8_undo, 2, (some .int))
abbrev mX8_where : Mth := (yX8_where, cX8_where, 2, (some .int))
abbrev mX8_peas : Mth := (yX8_peas, cX8_peas, 2, (some .int))
abbrev mX8_would : Mth := (yX8_would, cX8_would, 6, (some .int))
abbrev mX8_fewest : Mth := (yX8_fewest, cX8_fewest, 5, (some .int))
abbrev mX8_most : Mth := (yX8_most, cX8_most, 2, (some .int))
abbrev mX8_wall : Mth := (yX8_wall, cX8_wall, 6, (some .int))
abbrev mX8_row : Mth := (yX8_row, cX8_row, 7, (some .int))
abbrev mX8_odds : Mth := (yX8_odds, cX8_odds, 5, (some .long))
abbrev mX8_reading : Mth := (yX8_reading, cX8_reading, 3, (some .int))
abbrev mX8_back : Mth := (yX8_back, cX8_back, 2, (some .int))
abbrev mX8_last : Mth := (yX8_last, cX8_last, 4, (some .int))
abbrev mX8_laws : Mth := (yX8_laws, cX8_laws, 3, (some .int))
abbrev mX8_never : Mth := (yX8_never, cX8_never, 3, (some .int))
abbrev mX8_sheet : Mth := (yX8_sheet, cX8_sheet, 5, (some .int))
abbrev mX8_lose : Mth := (yX8_lose, cX8_lose, 4, (some .int))
abbrev mX8_put : Mth := (yX8_put, cX8_put, 5, (some .int))
abbrev mX8_cell : Mth := (yX8_cell, cX8_cell, 5, (some .long))
abbrev mX8_copy : Mth := (yX8_copy, cX8_copy, 8, (some .int))
abbrev mX8_tell : Mth := (yX8_tell, cX8_tell, 3, (some .int))
abbrev mX8_polish : Mth := (yX8_polish, cX8_polish, 3, (some .int))
abbrev mX8_as : Mth := (yX8_as, cX8_as, 4, (some .int))
abbrev mX8_trace : Mth := (yX8_trace, cX8_trace, 1, (some .int))
abbrev mX8_fault : Mth := (yX8_fault, cX8_fault, 1, (some .int))
abbrev mX8_many : Mth := (yX8_many, cX8_many, 2, (some .int))
abbrev mX8_isBelow : Mth := (yX8_isBelow, cX8_isBelow, 2, (some .boolean))
abbrev mX8_codeOf : Mth := (yX8_codeOf, cX8_codeOf, 3, (some .int))
abbrev mX8_isOfKind : Mth := (yX8_isOfKind, cX8_isOfKind, 2, (some .boolean))
abbrev mX8_failed : Mth := (yX8_failed, cX8_failed, 2, (some .int))
abbrev mX8_sheetAt : Mth := (yX8_sheetAt, cX8_sheetAt, 2, (some (.object "PlatePeas$Sheet")))
abbrev mX8_refusalOfPush : Mth := (yX8_refusalOfPush, cX8_refusalOfPush, 4, (some .int))
abbrev mX8_takeDraft : Mth := (yX8_takeDraft, cX8_takeDraft, 2, none)
abbrev mX8_replayNow : Mth := (yX8_replayNow, cX8_replayNow, 1, none)
abbrev mX8_replay : Mth := (yX8_replay, cX8_replay, 5, none)
abbrev mX8_readingsAreSo : Mth := (yX8_readingsAreSo, cX8_readingsAreSo, 3, (some .boolean))
abbrev mX8_areCodes : Mth := (yX8_areCodes, cX8_areCodes, 5, (some .boolean))
abbrev mX8_hadByRow : Mth := (yX8_hadByRow, cX8_hadByRow, 6, (some .int))
abbrev mX8_peaOf : Mth := (yX8_peaOf, cX8_peaOf, 1, (some .int))
abbrev mX8_findsRow : Mth := (yX8_findsRow, cX8_findsRow, 8, (some .boolean))
abbrev mX8_mostHad : Mth := (yX8_mostHad, cX8_mostHad, 8, (some .int))
abbrev mX9_init : Mth := (yX9_init, cX9_init, 2, none)
abbrev mX9_in : Mth := (yX9_in, cX9_in, 6, (some .boolean))
abbrev mX9_fails : Mth := (yX9_fails, cX9_fails, 2, (some .int))
abbrev mX9_refused : Mth := (yX9_refused, cX9_refused, 2, (some .int))
abbrev mX9_isSquare : Mth := (yX9_isSquare, cX9_isSquare, 2, (some .boolean))
abbrev mX9_isPea : Mth := (yX9_isPea, cX9_isPea, 2, (some .boolean))
abbrev mX9_isEater : Mth := (yX9_isEater, cX9_isEater, 2, (some .boolean))
abbrev mX9_isSheet : Mth := (yX9_isSheet, cX9_isSheet, 1, (some .boolean))
abbrev mX9_isLane : Mth := (yX9_isLane, cX9_isLane, 1, (some .boolean))
abbrev mX9_cut : Mth := (yX9_cut, cX9_cut, 2, (some .int))
abbrev mX9_sheet : Mth := (yX9_sheet, cX9_sheet, 5, (some .int))
abbrev mX9_lose : Mth := (yX9_lose, cX9_lose, 3, (some .int))
abbrev mX9_put : Mth := (yX9_put, cX9_put, 4, (some .int))
abbrev mX9_lost : Mth := (yX9_lost, cX9_lost, 2, (some .long))
abbrev mX9_cell : Mth := (yX9_cell, cX9_cell, 4, (some .long))
abbrev mX9_copy : Mth := (yX9_copy, cX9_copy, 7, (some .int))
abbrev mX9_faultOf : Mth := (yX9_faultOf, cX9_faultOf, 5, (some .int))
abbrev mX9_take : Mth := (yX9_take, cX9_take, 3, (some .int))
abbrev mX9_takeSquare : Mth := (yX9_takeSquare, cX9_takeSquare, 4, (some .boolean))
abbrev mX9_takeSquares : Mth := (yX9_takeSquares, cX9_takeSquares, 3, (some .boolean))
abbrev mX9_takeEater : Mth := (yX9_takeEater, cX9_takeEater, 3, (some .boolean))
abbrev mX9_takeText : Mth := (yX9_takeText, cX9_takeText, 1, (some .boolean))
abbrev mX9_plate : Mth := (yX9_plate, cX9_plate, 8, (some .int))
abbrev mX9_sign : Mth := (yX9_sign, cX9_sign, 2, (some .int))
abbrev mX9_startsAt : Mth := (yX9_startsAt, cX9_startsAt, 4, (some .boolean))
abbrev mX9_set : Mth := (yX9_set, cX9_set, 4, (some .int))
abbrev mX9_forceOf : Mth := (yX9_forceOf, cX9_forceOf, 2, (some .int))
abbrev mX9_ofEater : Mth := (yX9_ofEater, cX9_ofEater, 3, (some .int))
abbrev mX9_law : Mth := (yX9_law, cX9_law, 3, (some .int))
abbrev mX9_next : Mth := (yX9_next, cX9_next, 5, (some .int))
abbrev mX9_peaAt : Mth := (yX9_peaAt, cX9_peaAt, 3, (some .int))
abbrev mX9_isHeld : Mth := (yX9_isHeld, cX9_isHeld, 5, (some .boolean))
abbrev mX9_roll : Mth := (yX9_roll, cX9_roll, 8, none)
abbrev mX9_eaterOf : Mth := (yX9_eaterOf, cX9_eaterOf, 1, (some .int))
abbrev mX9_peaOf : Mth := (yX9_peaOf, cX9_peaOf, 1, (some .int))
abbrev mX9_doPush : Mth := (yX9_doPush, cX9_doPush, 4, none)
abbrev mX9_goThrough : Mth := (yX9_goThrough, cX9_goThrough, 3, none)
abbrev mX9_isCode : Mth := (yX9_isCode, cX9_isCode, 2, (some .boolean))
abbrev mX9_push : Mth := (yX9_push, cX9_push, 4, (some .int))
abbrev mX9_undo : Mth := (yX9_undo, cX9_undo, 2, (some .int))
abbrev mX9_where : Mth := (yX9_where, cX9_where, 2, (some .int))
abbrev mX9_setOf : Mth := (yX9_setOf, cX9_setOf, 5, (some .int))
abbrev mX9_peas : Mth := (yX9_peas, cX9_peas, 2, (some .int))
abbrev mX9_save : Mth := (yX9_save, cX9_save, 3, none)
abbrev mX9_load : Mth := (yX9_load, cX9_load, 3, none)
abbrev mX9_would : Mth := (yX9_would, cX9_would, 7, (some .int))
abbrev mX9_isPush : Mth := (yX9_isPush, cX9_isPush, 2, (some .boolean))
abbrev mX9_lastPush : Mth := (yX9_lastPush, cX9_lastPush, 5, (some .int))
abbrev mX9_findFewest : Mth := (yX9_findFewest, cX9_findFewest, 3, (some .int))
abbrev mX9_findThree : Mth := (yX9_findThree, cX9_findThree, 4, (some .boolean))
abbrev mX9_fewest : Mth := (yX9_fewest, cX9_fewest, 4, (some .int))
abbrev mX9_hadNow : Mth := (yX9_hadNow, cX9_hadNow, 3, (some .int))
abbrev mX9_mostByOne : Mth := (yX9_mostByOne, cX9_mostByOne, 5, (some .int))
abbrev mX9_mostByTwo : Mth := (yX9_mostByTwo, cX9_mostByTwo, 5, (some .int))
abbrev mX9_mostByThree : Mth := (yX9_mostByThree, cX9_mostByThree, 4, (some .int))
abbrev mX9_most : Mth := (yX9_most, cX9_most, 2, (some .int))
abbrev mX9_wall : Mth := (yX9_wall, cX9_wall, 6, (some .int))
abbrev mX9_areCodes : Mth := (yX9_areCodes, cX9_areCodes, 5, (some .boolean))
abbrev mX9_row : Mth := (yX9_row, cX9_row, 8, (some .int))
abbrev mX9_divisor : Mth := (yX9_divisor, cX9_divisor, 5, (some .int))
abbrev mX9_odds : Mth := (yX9_odds, cX9_odds, 6, (some .long))
abbrev mX9_reading : Mth := (yX9_reading, cX9_reading, 3, (some .int))
abbrev mX9_back : Mth := (yX9_back, cX9_back, 2, (some .int))
abbrev mX9_areSo : Mth := (yX9_areSo, cX9_areSo, 4, (some .boolean))
abbrev mX9_last : Mth := (yX9_last, cX9_last, 5, (some .int))
abbrev mX9_laws : Mth := (yX9_laws, cX9_laws, 4, (some .int))
abbrev mX9_never : Mth := (yX9_never, cX9_never, 3, (some .int))
abbrev mX9_begin : Mth := (yX9_begin, cX9_begin, 2, none)
abbrev mX9_forkTells : Mth := (yX9_forkTells, cX9_forkTells, 2, (some .int))
abbrev mX9_knifeTells : Mth := (yX9_knifeTells, cX9_knifeTells, 2, (some .int))
abbrev mX9_spoonTells : Mth := (yX9_spoonTells, cX9_spoonTells, 4, (some .int))
abbrev mX9_tell : Mth := (yX9_tell, cX9_tell, 2, (some .int))
abbrev mX9_polish : Mth := (yX9_polish, cX9_polish, 2, (some .int))
abbrev mX9_as : Mth := (yX9_as, cX9_as, 3, (some .int))
abbrev mX9_trace : Mth := (yX9_trace, cX9_trace, 1, (some .int))
abbrev mX9_fault : Mth := (yX9_fault, cX9_fault, 1, (some .int))
abbrev mX9_many : Mth := (yX9_many, cX9_many, 2, (some .int))
abbrev mJ6_bitCount : Mth := (yJ6_bitCount_0f7a4, cJ6_bitCount_0f7a4, 1, (some .int))
abbrev mJ7_fill : Mth := (yJ7_fill_53178, cJ7_fill_53178, 4, none)
abbrev mL_law : Mth := (x, code, 4, some .boolean)
theorem w_32e41f54 : Cond.arrayClass .int ∈ lw_tbl := by decide +kernel
theorem w_58518424 : Cond.classLink RX2 110 RX1 ∈ lw_tbl := by decide +kernel
theorem w_e688fff2 : Cond.classLink RX2 115 RX5 ∈ lw_tbl := by decide +kernel
theorem w_f106f25c : Cond.classLink RX2 21 (melc 13) ∈ lw_tbl := by decide +kernel
theorem w_f46708af : Cond.classLink RX2 21 RX0 ∈ lw_tbl := by decide +kernel
theorem w_8aca08c0 : Cond.classLink RX3 9 (melc 17) ∈ lw_tbl := by decide +kernel
theorem w_cd40c669 : Cond.classLink RX3 9 RX6 ∈ lw_tbl := by decide +kernel
theorem w_a33c3ad6 : Cond.classLink RX8 21 (melc 23) ∈ lw_tbl := by decide +kernel
theorem w_20ff7766 : Cond.classLink RX8 21 RX4 ∈ lw_tbl := by decide +kernel
theorem w_527e8b14 : Cond.classLink RX8 27 RX7 ∈ lw_tbl := by decide +kernel
theorem w_95765bbd : Cond.classLink RX8 289 "PlatePeas$Knife" ∈ lw_tbl := by decide +kernel
theorem w_90c88272 : Cond.classLink RX8 291 "PlatePeas$Spoon" ∈ lw_tbl := by decide +kernel
theorem w_35288c4b : Cond.classLink RX8 34 RX2 ∈ lw_tbl := by decide +kernel
theorem w_7ff70895 : Cond.classLink RX8 37 RX6 ∈ lw_tbl := by decide +kernel
theorem w_bc7df99e : Cond.classLink RX8 49 RX3 ∈ lw_tbl := by decide +kernel
theorem w_da947410 : Cond.code Lib.Math.max.name Lib.Math.max.code 2 (some .int) ∈ lw_tbl := by decide +kernel
theorem w_45c19164 : Cond.code Lib.Math.min.name Lib.Math.min.code 2 (some .int) ∈ lw_tbl := by decide +kernel
theorem w_dced4441 : Cond.code Lib.objectInit ⟨#[0xb1]⟩ 1 none ∈ lw_tbl := by decide +kernel
theorem w_24325c23 : Cond.constant RJ6 265 1431655765 ∈ lw_tbl := by decide +kernel
theorem w_a1ee814f : Cond.constant RJ6 266 858993459 ∈ lw_tbl := by decide +kernel
theorem w_f192527b : Cond.constant RJ6 267 252645135 ∈ lw_tbl := by decide +kernel
theorem w_6497ae33 : Cond.constantLong RX8 202 (-9223372036854775808) ∈ lw_tbl := by decide +kernel
theorem w_4d0a02e8 : Cond.constantLong RX9 103 (-9223372036854775808) ∈ lw_tbl := by decide +kernel
theorem w_d2a55141 : Cond.constantLong RX9 201 (5) ∈ lw_tbl := by decide +kernel
theorem w_03ec5b81 : Cond.constantLong RX9 81 (3) ∈ lw_tbl := by decide +kernel
theorem w_3ed1b261 : Cond.constantLong RX9 83 (2) ∈ lw_tbl := by decide +kernel
theorem w_805291ee : Cond.fieldLink RX8 207 "PlatePeas" "UPPER" "[I" ∈ lw_tbl := by decide +kernel
theorem w_5a97c0be : Cond.fieldLink RX8 210 "PlatePeas" "LOWER" "[I" ∈ lw_tbl := by decide +kernel
theorem w_b63e53b7 : Cond.fieldLinkNest RX2 61 "PlatePeas" "DOWN" "[I" "PlatePeas" ∈ lw_tbl := by decide +kernel
theorem w_fa967965 : Cond.fieldLinkNest RX2 64 "PlatePeas" "ACROSS" "[I" "PlatePeas" ∈ lw_tbl := by decide +kernel
theorem w_ae09fe6d : Cond.initialized "java/lang/Math" ∈ lw_tbl := by decide +kernel
theorem w_6d6c26a9 : Cond.initialized "java/lang/System" ∈ lw_tbl := by decide +kernel
theorem w_67f2d6c7 : Cond.initialized RJ6 ∈ lw_tbl := by decide +kernel
theorem w_5c85124b : Cond.initialized RJ7 ∈ lw_tbl := by decide +kernel
theorem w_7544c951 : Cond.initialized RX0 ∈ lw_tbl := by decide +kernel
theorem w_ab88f8a8 : Cond.initialized RX1 ∈ lw_tbl := by decide +kernel
theorem w_144facd1 : Cond.initialized RX2 ∈ lw_tbl := by decide +kernel
theorem w_6aa99cec : Cond.initialized RX3 ∈ lw_tbl := by decide +kernel
theorem w_01e414a6 : Cond.initialized RX4 ∈ lw_tbl := by decide +kernel
theorem w_c7e887c2 : Cond.initialized RX5 ∈ lw_tbl := by decide +kernel
theorem w_57f2bf24 : Cond.initialized RX6 ∈ lw_tbl := by decide +kernel
theorem w_065dac5f : Cond.initialized RX7 ∈ lw_tbl := by decide +kernel
theorem w_25532a91 : Cond.initialized RX8 ∈ lw_tbl := by decide +kernel
theorem w_18407ce9 : Cond.initialized RX9 ∈ lw_tbl := by decide +kernel
theorem w_6c8d69b2 : Cond.instanceMethod Lib.objectInit ∈ lw_tbl := by decide +kernel
theorem w_f74d9418 : Cond.instanceMethod yX0_forkTelling ∈ lw_tbl := by decide +kernel
theorem w_7bf0c1e9 : Cond.instanceMethod yX0_init ∈ lw_tbl := by decide +kernel
theorem w_5e8ed96b : Cond.instanceMethod yX0_kindNumber ∈ lw_tbl := by decide +kernel
theorem w_d9c30f83 : Cond.instanceMethod yX0_polished ∈ lw_tbl := by decide +kernel
theorem w_55faa438 : Cond.instanceMethod yX0_pushForce ∈ lw_tbl := by decide +kernel
theorem w_8f883548 : Cond.instanceMethod yX0_telling ∈ lw_tbl := by decide +kernel
theorem w_931f3571 : Cond.instanceMethod yX1_init ∈ lw_tbl := by decide +kernel
theorem w_7bd6537a : Cond.instanceMethod yX1_kindNumber ∈ lw_tbl := by decide +kernel
theorem w_b0e52818 : Cond.instanceMethod yX1_pushForce ∈ lw_tbl := by decide +kernel
theorem w_4a9b7fc5 : Cond.instanceMethod yX1_telling ∈ lw_tbl := by decide +kernel
theorem w_edea382e : Cond.instanceMethod yX2_changeSign ∈ lw_tbl := by decide +kernel
theorem w_e432132f : Cond.instanceMethod yX2_eaterAt ∈ lw_tbl := by decide +kernel
theorem w_0cebb671 : Cond.instanceMethod yX2_hasPea ∈ lw_tbl := by decide +kernel
theorem w_44d6f373 : Cond.instanceMethod yX2_hasSquare ∈ lw_tbl := by decide +kernel
theorem w_d7bfe6f7 : Cond.instanceMethod yX2_init ∈ lw_tbl := by decide +kernel
theorem w_8d8bfdc5 : Cond.instanceMethod yX2_isCode ∈ lw_tbl := by decide +kernel
theorem w_bebca207 : Cond.instanceMethod yX2_isLaid ∈ lw_tbl := by decide +kernel
theorem w_5802bc0a : Cond.instanceMethod yX2_listCodes ∈ lw_tbl := by decide +kernel
theorem w_7c3eb0b4 : Cond.instanceMethod yX2_nextTo ∈ lw_tbl := by decide +kernel
theorem w_38b6b27c : Cond.instanceMethod yX2_readText ∈ lw_tbl := by decide +kernel
theorem w_8db38fe3 : Cond.instanceMethod yX2_rowCodes ∈ lw_tbl := by decide +kernel
theorem w_0cfaefad : Cond.instanceMethod yX2_signAt ∈ lw_tbl := by decide +kernel
theorem w_1cb4a9c6 : Cond.instanceMethod yX2_startOf ∈ lw_tbl := by decide +kernel
theorem w_f08ddeb5 : Cond.instanceMethod yX2_startsOn ∈ lw_tbl := by decide +kernel
theorem w_e70b1a3a : Cond.instanceMethod yX2_takes ∈ lw_tbl := by decide +kernel
theorem w_03d3bc68 : Cond.instanceMethod yX2_takesBehindHead ∈ lw_tbl := by decide +kernel
theorem w_8d8dc38e : Cond.instanceMethod yX2_takesEater ∈ lw_tbl := by decide +kernel
theorem w_31d78c24 : Cond.instanceMethod yX2_takesInRow ∈ lw_tbl := by decide +kernel
theorem w_ce7f3a88 : Cond.instanceMethod yX2_takesStrength ∈ lw_tbl := by decide +kernel
theorem w_1525abbc : Cond.instanceMethod yX2_wipe ∈ lw_tbl := by decide +kernel
theorem w_e119c09b : Cond.instanceMethod yX3_init ∈ lw_tbl := by decide +kernel
theorem w_c734b79a : Cond.instanceMethod yX3_stepsOn ∈ lw_tbl := by decide +kernel
theorem w_c67140f9 : Cond.instanceMethod yX4_begin ∈ lw_tbl := by decide +kernel
theorem w_33e1e86c : Cond.instanceMethod yX4_cut ∈ lw_tbl := by decide +kernel
theorem w_c06a975f : Cond.instanceMethod yX4_drop ∈ lw_tbl := by decide +kernel
theorem w_9d12ff99 : Cond.instanceMethod yX4_faultOfCell ∈ lw_tbl := by decide +kernel
theorem w_f584cff1 : Cond.instanceMethod yX4_faultOfCells ∈ lw_tbl := by decide +kernel
theorem w_4e573b23 : Cond.instanceMethod yX4_faultOfLane ∈ lw_tbl := by decide +kernel
theorem w_8194f21a : Cond.instanceMethod yX4_hasCell ∈ lw_tbl := by decide +kernel
theorem w_7b90d031 : Cond.instanceMethod yX4_hasCells ∈ lw_tbl := by decide +kernel
theorem w_d0c91f92 : Cond.instanceMethod yX4_init ∈ lw_tbl := by decide +kernel
theorem w_401d3ba4 : Cond.instanceMethod yX4_isNothing ∈ lw_tbl := by decide +kernel
theorem w_08daf608 : Cond.instanceMethod yX4_read ∈ lw_tbl := by decide +kernel
theorem w_00395a3d : Cond.instanceMethod yX4_write ∈ lw_tbl := by decide +kernel
theorem w_24c3a41b : Cond.instanceMethod yX5_init ∈ lw_tbl := by decide +kernel
theorem w_5b5086fa : Cond.instanceMethod yX5_kindNumber ∈ lw_tbl := by decide +kernel
theorem w_ac9047f2 : Cond.instanceMethod yX5_polished ∈ lw_tbl := by decide +kernel
theorem w_9e65850c : Cond.instanceMethod yX5_pushForce ∈ lw_tbl := by decide +kernel
theorem w_1fe0cbcf : Cond.instanceMethod yX5_telling ∈ lw_tbl := by decide +kernel
theorem w_16f98399 : Cond.instanceMethod yX6_beginOn ∈ lw_tbl := by decide +kernel
theorem w_81851b8b : Cond.instanceMethod yX6_behindLine ∈ lw_tbl := by decide +kernel
theorem w_16d58f60 : Cond.instanceMethod yX6_comeToRim ∈ lw_tbl := by decide +kernel
theorem w_4aa44065 : Cond.instanceMethod yX6_copyFrom ∈ lw_tbl := by decide +kernel
theorem w_465aef79 : Cond.instanceMethod yX6_countHad ∈ lw_tbl := by decide +kernel
theorem w_a2f3a7da : Cond.instanceMethod yX6_countHolds ∈ lw_tbl := by decide +kernel
theorem w_80b3e7c0 : Cond.instanceMethod yX6_elsewhereThan ∈ lw_tbl := by decide +kernel
theorem w_abbbd0fc : Cond.instanceMethod yX6_firstHold ∈ lw_tbl := by decide +kernel
theorem w_a8de20ea : Cond.instanceMethod yX6_heldSet ∈ lw_tbl := by decide +kernel
theorem w_390a9f79 : Cond.instanceMethod yX6_holdsAny ∈ lw_tbl := by decide +kernel
theorem w_19459791 : Cond.instanceMethod yX6_init ∈ lw_tbl := by decide +kernel
theorem w_0dbbf15c : Cond.instanceMethod yX6_isHad ∈ lw_tbl := by decide +kernel
theorem w_1579a2d3 : Cond.instanceMethod yX6_isHeld ∈ lw_tbl := by decide +kernel
theorem w_73577db5 : Cond.instanceMethod yX6_isOn ∈ lw_tbl := by decide +kernel
theorem w_04bcf13e : Cond.instanceMethod yX6_peaOn ∈ lw_tbl := by decide +kernel
theorem w_3e24c8b8 : Cond.instanceMethod yX6_pushByCode ∈ lw_tbl := by decide +kernel
theorem w_ea1ffc38 : Cond.instanceMethod yX6_roll ∈ lw_tbl := by decide +kernel
theorem w_e4bdc6b1 : Cond.instanceMethod yX6_spotOf ∈ lw_tbl := by decide +kernel
theorem w_c3464521 : Cond.instanceMethod yX7_init ∈ lw_tbl := by decide +kernel
theorem w_84f2b72f : Cond.instanceMethod yX7_leave ∈ lw_tbl := by decide +kernel
theorem w_2469acb0 : Cond.instanceMethod yX8_areCodes ∈ lw_tbl := by decide +kernel
theorem w_0aba0cc2 : Cond.instanceMethod yX8_as ∈ lw_tbl := by decide +kernel
theorem w_8f507c7e : Cond.instanceMethod yX8_back ∈ lw_tbl := by decide +kernel
theorem w_fde6fdfc : Cond.instanceMethod yX8_cell ∈ lw_tbl := by decide +kernel
theorem w_1f7591dd : Cond.instanceMethod yX8_copy ∈ lw_tbl := by decide +kernel
theorem w_e91edb44 : Cond.instanceMethod yX8_failed ∈ lw_tbl := by decide +kernel
theorem w_7ccb0acc : Cond.instanceMethod yX8_fault ∈ lw_tbl := by decide +kernel
theorem w_59213310 : Cond.instanceMethod yX8_fewest ∈ lw_tbl := by decide +kernel
theorem w_0bd590fb : Cond.instanceMethod yX8_hadByRow ∈ lw_tbl := by decide +kernel
theorem w_73283f03 : Cond.instanceMethod yX8_init ∈ lw_tbl := by decide +kernel
theorem w_1f9ad76c : Cond.instanceMethod yX8_last ∈ lw_tbl := by decide +kernel
theorem w_a4c4f407 : Cond.instanceMethod yX8_law ∈ lw_tbl := by decide +kernel
theorem w_f4782132 : Cond.instanceMethod yX8_laws ∈ lw_tbl := by decide +kernel
theorem w_10a1d620 : Cond.instanceMethod yX8_lose ∈ lw_tbl := by decide +kernel
theorem w_d8d2e27c : Cond.instanceMethod yX8_many ∈ lw_tbl := by decide +kernel
theorem w_f75450bc : Cond.instanceMethod yX8_most ∈ lw_tbl := by decide +kernel
theorem w_4b33ebbf : Cond.instanceMethod yX8_never ∈ lw_tbl := by decide +kernel
theorem w_92abb506 : Cond.instanceMethod yX8_odds ∈ lw_tbl := by decide +kernel
theorem w_ac031055 : Cond.instanceMethod yX8_ofEater ∈ lw_tbl := by decide +kernel
theorem w_8c7c8fb8 : Cond.instanceMethod yX8_peas ∈ lw_tbl := by decide +kernel
theorem w_9439db0e : Cond.instanceMethod yX8_plate ∈ lw_tbl := by decide +kernel
theorem w_77279b3b : Cond.instanceMethod yX8_polish ∈ lw_tbl := by decide +kernel
theorem w_16b8e8f9 : Cond.instanceMethod yX8_push ∈ lw_tbl := by decide +kernel
theorem w_5f655346 : Cond.instanceMethod yX8_put ∈ lw_tbl := by decide +kernel
theorem w_e2acdab3 : Cond.instanceMethod yX8_reading ∈ lw_tbl := by decide +kernel
theorem w_da43407b : Cond.instanceMethod yX8_readingsAreSo ∈ lw_tbl := by decide +kernel
theorem w_eb5baf0b : Cond.instanceMethod yX8_refusalOfPush ∈ lw_tbl := by decide +kernel
theorem w_5e863a35 : Cond.instanceMethod yX8_replay ∈ lw_tbl := by decide +kernel
theorem w_caa8527b : Cond.instanceMethod yX8_replayNow ∈ lw_tbl := by decide +kernel
theorem w_68f2c303 : Cond.instanceMethod yX8_row ∈ lw_tbl := by decide +kernel
theorem w_4a012b65 : Cond.instanceMethod yX8_set ∈ lw_tbl := by decide +kernel
theorem w_1d3c82db : Cond.instanceMethod yX8_sheet ∈ lw_tbl := by decide +kernel
theorem w_abafa35a : Cond.instanceMethod yX8_sheetAt ∈ lw_tbl := by decide +kernel
theorem w_3c108e76 : Cond.instanceMethod yX8_sign ∈ lw_tbl := by decide +kernel
theorem w_89fbff2d : Cond.instanceMethod yX8_takeDraft ∈ lw_tbl := by decide +kernel
theorem w_b7d1219f : Cond.instanceMethod yX8_tell ∈ lw_tbl := by decide +kernel
theorem w_36dac39c : Cond.instanceMethod yX8_trace ∈ lw_tbl := by decide +kernel
theorem w_b50f8e9e : Cond.instanceMethod yX8_undo ∈ lw_tbl := by decide +kernel
theorem w_022012ef : Cond.instanceMethod yX8_wall ∈ lw_tbl := by decide +kernel
theorem w_cf7a8134 : Cond.instanceMethod yX8_where ∈ lw_tbl := by decide +kernel
theorem w_16ab4dcf : Cond.instanceMethod yX8_would ∈ lw_tbl := by decide +kernel
theorem w_889c94e9 : Cond.instanceMethod yX9_areCodes ∈ lw_tbl := by decide +kernel
theorem w_c3788fa5 : Cond.instanceMethod yX9_areSo ∈ lw_tbl := by decide +kernel
theorem w_c9cda0c7 : Cond.instanceMethod yX9_as ∈ lw_tbl := by decide +kernel
theorem w_034b4cc7 : Cond.instanceMethod yX9_back ∈ lw_tbl := by decide +kernel
theorem w_a88ea269 : Cond.instanceMethod yX9_begin ∈ lw_tbl := by decide +kernel
theorem w_99a74163 : Cond.instanceMethod yX9_cell ∈ lw_tbl := by decide +kernel
theorem w_4816f950 : Cond.instanceMethod yX9_copy ∈ lw_tbl := by decide +kernel
theorem w_5f20e55b : Cond.instanceMethod yX9_doPush ∈ lw_tbl := by decide +kernel
theorem w_686a0800 : Cond.instanceMethod yX9_fails ∈ lw_tbl := by decide +kernel
theorem w_1cf9296c : Cond.instanceMethod yX9_fault ∈ lw_tbl := by decide +kernel
theorem w_0f02195e : Cond.instanceMethod yX9_faultOf ∈ lw_tbl := by decide +kernel
theorem w_97b43218 : Cond.instanceMethod yX9_fewest ∈ lw_tbl := by decide +kernel
theorem w_fd665c51 : Cond.instanceMethod yX9_findFewest ∈ lw_tbl := by decide +kernel
theorem w_7a03933f : Cond.instanceMethod yX9_findThree ∈ lw_tbl := by decide +kernel
theorem w_32798562 : Cond.instanceMethod yX9_forceOf ∈ lw_tbl := by decide +kernel
theorem w_d3ed7d64 : Cond.instanceMethod yX9_forkTells ∈ lw_tbl := by decide +kernel
theorem w_a89c94e1 : Cond.instanceMethod yX9_goThrough ∈ lw_tbl := by decide +kernel
theorem w_ad413dc0 : Cond.instanceMethod yX9_hadNow ∈ lw_tbl := by decide +kernel
theorem w_dafee780 : Cond.instanceMethod yX9_init ∈ lw_tbl := by decide +kernel
theorem w_adb52793 : Cond.instanceMethod yX9_isCode ∈ lw_tbl := by decide +kernel
theorem w_4d957144 : Cond.instanceMethod yX9_isEater ∈ lw_tbl := by decide +kernel
theorem w_352ed9dd : Cond.instanceMethod yX9_isHeld ∈ lw_tbl := by decide +kernel
theorem w_b29a0b29 : Cond.instanceMethod yX9_isPea ∈ lw_tbl := by decide +kernel
theorem w_266146b1 : Cond.instanceMethod yX9_isPush ∈ lw_tbl := by decide +kernel
theorem w_a12e45da : Cond.instanceMethod yX9_isSquare ∈ lw_tbl := by decide +kernel
theorem w_c10b6ea9 : Cond.instanceMethod yX9_knifeTells ∈ lw_tbl := by decide +kernel
theorem w_4415d3e2 : Cond.instanceMethod yX9_last ∈ lw_tbl := by decide +kernel
theorem w_fe7dc05d : Cond.instanceMethod yX9_lastPush ∈ lw_tbl := by decide +kernel
theorem w_251e5091 : Cond.instanceMethod yX9_law ∈ lw_tbl := by decide +kernel
theorem w_ce36d462 : Cond.instanceMethod yX9_laws ∈ lw_tbl := by decide +kernel
theorem w_cdf1a70f : Cond.instanceMethod yX9_load ∈ lw_tbl := by decide +kernel
theorem w_e25b4939 : Cond.instanceMethod yX9_lose ∈ lw_tbl := by decide +kernel
theorem w_403203f3 : Cond.instanceMethod yX9_lost ∈ lw_tbl := by decide +kernel
theorem w_449eb65a : Cond.instanceMethod yX9_many ∈ lw_tbl := by decide +kernel
theorem w_a0f24e7b : Cond.instanceMethod yX9_most ∈ lw_tbl := by decide +kernel
theorem w_93dec727 : Cond.instanceMethod yX9_mostByOne ∈ lw_tbl := by decide +kernel
theorem w_f38a84da : Cond.instanceMethod yX9_mostByThree ∈ lw_tbl := by decide +kernel
theorem w_0baf3cee : Cond.instanceMethod yX9_mostByTwo ∈ lw_tbl := by decide +kernel
theorem w_b742c8d2 : Cond.instanceMethod yX9_never ∈ lw_tbl := by decide +kernel
theorem w_85081459 : Cond.instanceMethod yX9_next ∈ lw_tbl := by decide +kernel
theorem w_ea0402e7 : Cond.instanceMethod yX9_odds ∈ lw_tbl := by decide +kernel
theorem w_5499b30a : Cond.instanceMethod yX9_ofEater ∈ lw_tbl := by decide +kernel
theorem w_3f28976a : Cond.instanceMethod yX9_peaAt ∈ lw_tbl := by decide +kernel
theorem w_f9fb9679 : Cond.instanceMethod yX9_peas ∈ lw_tbl := by decide +kernel
theorem w_a6e382ca : Cond.instanceMethod yX9_plate ∈ lw_tbl := by decide +kernel
theorem w_405b5ce7 : Cond.instanceMethod yX9_polish ∈ lw_tbl := by decide +kernel
theorem w_3c36c2ca : Cond.instanceMethod yX9_push ∈ lw_tbl := by decide +kernel
theorem w_5152edc5 : Cond.instanceMethod yX9_put ∈ lw_tbl := by decide +kernel
theorem w_d77d0f21 : Cond.instanceMethod yX9_reading ∈ lw_tbl := by decide +kernel
theorem w_65512ebb : Cond.instanceMethod yX9_refused ∈ lw_tbl := by decide +kernel
theorem w_8a6a491a : Cond.instanceMethod yX9_roll ∈ lw_tbl := by decide +kernel
theorem w_cee18903 : Cond.instanceMethod yX9_row ∈ lw_tbl := by decide +kernel
theorem w_beeef971 : Cond.instanceMethod yX9_save ∈ lw_tbl := by decide +kernel
theorem w_03056e78 : Cond.instanceMethod yX9_set ∈ lw_tbl := by decide +kernel
theorem w_ce8386c2 : Cond.instanceMethod yX9_setOf ∈ lw_tbl := by decide +kernel
theorem w_37896ac9 : Cond.instanceMethod yX9_sheet ∈ lw_tbl := by decide +kernel
theorem w_2cbdc50a : Cond.instanceMethod yX9_sign ∈ lw_tbl := by decide +kernel
theorem w_dc940b9a : Cond.instanceMethod yX9_spoonTells ∈ lw_tbl := by decide +kernel
theorem w_857f396a : Cond.instanceMethod yX9_startsAt ∈ lw_tbl := by decide +kernel
theorem w_18dd4a1b : Cond.instanceMethod yX9_take ∈ lw_tbl := by decide +kernel
theorem w_dd5bdf8b : Cond.instanceMethod yX9_takeEater ∈ lw_tbl := by decide +kernel
theorem w_84bd7ea4 : Cond.instanceMethod yX9_takeSquare ∈ lw_tbl := by decide +kernel
theorem w_21a2065e : Cond.instanceMethod yX9_takeSquares ∈ lw_tbl := by decide +kernel
theorem w_1c690bf0 : Cond.instanceMethod yX9_takeText ∈ lw_tbl := by decide +kernel
theorem w_e8ccb734 : Cond.instanceMethod yX9_tell ∈ lw_tbl := by decide +kernel
theorem w_2624a7c1 : Cond.instanceMethod yX9_trace ∈ lw_tbl := by decide +kernel
theorem w_f28c625d : Cond.instanceMethod yX9_undo ∈ lw_tbl := by decide +kernel
theorem w_79f299f1 : Cond.instanceMethod yX9_wall ∈ lw_tbl := by decide +kernel
theorem w_62205425 : Cond.instanceMethod yX9_where ∈ lw_tbl := by decide +kernel
theorem w_9dcee958 : Cond.instanceMethod yX9_would ∈ lw_tbl := by decide +kernel
theorem w_8df89d2c : Cond.instantiable RX0 2 ∈ lw_tbl := by decide +kernel
theorem w_98068b54 : Cond.instantiable RX1 2 ∈ lw_tbl := by decide +kernel
theorem w_993500c2 : Cond.instantiable RX2 12 ∈ lw_tbl := by decide +kernel
theorem w_c8f49039 : Cond.instantiable RX3 2 ∈ lw_tbl := by decide +kernel
theorem w_380ab830 : Cond.instantiable RX4 3 ∈ lw_tbl := by decide +kernel
theorem w_c908361b : Cond.instantiable RX5 2 ∈ lw_tbl := by decide +kernel
theorem w_65e1dfa9 : Cond.instantiable RX6 5 ∈ lw_tbl := by decide +kernel
theorem w_6c465c91 : Cond.instantiable RX7 1 ∈ lw_tbl := by decide +kernel
theorem w_9329d688 : Cond.methodLink RL 102 yX9_sheet ∈ lw_tbl := by decide +kernel
theorem w_0b257d84 : Cond.methodLink RL 103 yX8_lose ∈ lw_tbl := by decide +kernel
theorem w_ea4290e6 : Cond.methodLink RL 106 yX9_lose ∈ lw_tbl := by decide +kernel
theorem w_4ed926c1 : Cond.methodLink RL 107 yX8_put ∈ lw_tbl := by decide +kernel
theorem w_05e96fd7 : Cond.methodLink RL 110 yX9_put ∈ lw_tbl := by decide +kernel
theorem w_45d1bf7d : Cond.methodLink RL 111 yX8_cell ∈ lw_tbl := by decide +kernel
theorem w_b321bf0a : Cond.methodLink RL 114 yX9_cell ∈ lw_tbl := by decide +kernel
theorem w_d913dffd : Cond.methodLink RL 115 yX8_copy ∈ lw_tbl := by decide +kernel
theorem w_d1e5bab2 : Cond.methodLink RL 119 yX9_copy ∈ lw_tbl := by decide +kernel
theorem w_63196ac2 : Cond.methodLink RL 12 yX9_init ∈ lw_tbl := by decide +kernel
theorem w_83476226 : Cond.methodLink RL 120 yX8_tell ∈ lw_tbl := by decide +kernel
theorem w_dd46a399 : Cond.methodLink RL 123 yX9_tell ∈ lw_tbl := by decide +kernel
theorem w_cde0a7bb : Cond.methodLink RL 124 yX8_polish ∈ lw_tbl := by decide +kernel
theorem w_130b522a : Cond.methodLink RL 127 yX9_polish ∈ lw_tbl := by decide +kernel
theorem w_c1463dc5 : Cond.methodLink RL 128 yX8_as ∈ lw_tbl := by decide +kernel
theorem w_f988ea52 : Cond.methodLink RL 13 yX8_plate ∈ lw_tbl := by decide +kernel
theorem w_164c2870 : Cond.methodLink RL 131 yX9_as ∈ lw_tbl := by decide +kernel
theorem w_2cc2563c : Cond.methodLink RL 132 yX8_trace ∈ lw_tbl := by decide +kernel
theorem w_99a1fbb6 : Cond.methodLink RL 135 yX9_trace ∈ lw_tbl := by decide +kernel
theorem w_83535da5 : Cond.methodLink RL 136 yX8_fault ∈ lw_tbl := by decide +kernel
theorem w_42870bcb : Cond.methodLink RL 139 yX9_fault ∈ lw_tbl := by decide +kernel
theorem w_b4102bca : Cond.methodLink RL 140 yX8_many ∈ lw_tbl := by decide +kernel
theorem w_1dc11623 : Cond.methodLink RL 143 yX9_many ∈ lw_tbl := by decide +kernel
theorem w_14c918a2 : Cond.methodLink RL 17 yX9_plate ∈ lw_tbl := by decide +kernel
theorem w_aa43eb15 : Cond.methodLink RL 18 yX8_sign ∈ lw_tbl := by decide +kernel
theorem w_91aceaa2 : Cond.methodLink RL 22 yX9_sign ∈ lw_tbl := by decide +kernel
theorem w_489ed496 : Cond.methodLink RL 23 yX8_set ∈ lw_tbl := by decide +kernel
theorem w_04e06b0d : Cond.methodLink RL 27 yX9_set ∈ lw_tbl := by decide +kernel
theorem w_1befd83d : Cond.methodLink RL 28 yX8_ofEater ∈ lw_tbl := by decide +kernel
theorem w_8d649b39 : Cond.methodLink RL 31 yX9_ofEater ∈ lw_tbl := by decide +kernel
theorem w_6fd3ae23 : Cond.methodLink RL 32 yX8_law ∈ lw_tbl := by decide +kernel
theorem w_37120e4a : Cond.methodLink RL 35 yX9_law ∈ lw_tbl := by decide +kernel
theorem w_7f541228 : Cond.methodLink RL 36 yX8_push ∈ lw_tbl := by decide +kernel
theorem w_338954b0 : Cond.methodLink RL 40 yX9_push ∈ lw_tbl := by decide +kernel
theorem w_58ef0881 : Cond.methodLink RL 41 yX8_undo ∈ lw_tbl := by decide +kernel
theorem w_643f2fb9 : Cond.methodLink RL 44 yX9_undo ∈ lw_tbl := by decide +kernel
theorem w_c8c9b505 : Cond.methodLink RL 45 yX8_where ∈ lw_tbl := by decide +kernel
theorem w_a67a6d28 : Cond.methodLink RL 48 yX9_where ∈ lw_tbl := by decide +kernel
theorem w_fa869d12 : Cond.methodLink RL 49 yX8_peas ∈ lw_tbl := by decide +kernel
theorem w_5d7f8346 : Cond.methodLink RL 52 yX9_peas ∈ lw_tbl := by decide +kernel
theorem w_ec397768 : Cond.methodLink RL 53 yX8_would ∈ lw_tbl := by decide +kernel
theorem w_fb204748 : Cond.methodLink RL 56 yX9_would ∈ lw_tbl := by decide +kernel
theorem w_cd2e8525 : Cond.methodLink RL 57 yX8_fewest ∈ lw_tbl := by decide +kernel
theorem w_64823fb6 : Cond.methodLink RL 60 yX9_fewest ∈ lw_tbl := by decide +kernel
theorem w_58504b6e : Cond.methodLink RL 61 yX8_most ∈ lw_tbl := by decide +kernel
theorem w_6f99ce44 : Cond.methodLink RL 64 yX9_most ∈ lw_tbl := by decide +kernel
theorem w_cf2a800e : Cond.methodLink RL 65 yX8_wall ∈ lw_tbl := by decide +kernel
theorem w_d3246f65 : Cond.methodLink RL 68 yX9_wall ∈ lw_tbl := by decide +kernel
theorem w_b1770b2b : Cond.methodLink RL 69 yX8_row ∈ lw_tbl := by decide +kernel
theorem w_33173ba7 : Cond.methodLink RL 72 yX9_row ∈ lw_tbl := by decide +kernel
theorem w_c408aac5 : Cond.methodLink RL 73 yX8_odds ∈ lw_tbl := by decide +kernel
theorem w_e15bbe0d : Cond.methodLink RL 77 yX9_odds ∈ lw_tbl := by decide +kernel
theorem w_bbaaed2d : Cond.methodLink RL 78 yX8_reading ∈ lw_tbl := by decide +kernel
theorem w_e3fa6c64 : Cond.methodLink RL 81 yX9_reading ∈ lw_tbl := by decide +kernel
theorem w_270c9a02 : Cond.methodLink RL 82 yX8_back ∈ lw_tbl := by decide +kernel
theorem w_f9fd0e8f : Cond.methodLink RL 85 yX9_back ∈ lw_tbl := by decide +kernel
theorem w_d5075f92 : Cond.methodLink RL 86 yX8_last ∈ lw_tbl := by decide +kernel
theorem w_ed75fc0a : Cond.methodLink RL 89 yX9_last ∈ lw_tbl := by decide +kernel
theorem w_562ad4ed : Cond.methodLink RL 9 yX8_init ∈ lw_tbl := by decide +kernel
theorem w_1edbae40 : Cond.methodLink RL 90 yX8_laws ∈ lw_tbl := by decide +kernel
theorem w_aa35d9fd : Cond.methodLink RL 94 yX9_laws ∈ lw_tbl := by decide +kernel
theorem w_f7915896 : Cond.methodLink RL 95 yX8_never ∈ lw_tbl := by decide +kernel
theorem w_441ea7df : Cond.methodLink RL 98 yX9_never ∈ lw_tbl := by decide +kernel
theorem w_e7bf2069 : Cond.methodLink RL 99 yX8_sheet ∈ lw_tbl := by decide +kernel
theorem w_ae999f08 : Cond.methodLink RX0 1 Lib.objectInit ∈ lw_tbl := by decide +kernel
theorem w_ba40a546 : Cond.methodLink RX0 16 (⟨RX0, "forkTelling", "(LPlatePeas$Trace;)I"⟩ : MethodName) ∈ lw_tbl := by decide +kernel
theorem w_8c579c63 : Cond.methodLink RX0 16 yX0_forkTelling ∈ lw_tbl := by decide +kernel
theorem w_76565575 : Cond.methodLink RX0 20 yX7_leave ∈ lw_tbl := by decide +kernel
theorem w_c5ca3ab5 : Cond.methodLink RX1 1 yX0_init ∈ lw_tbl := by decide +kernel
theorem w_ad205332 : Cond.methodLink RX1 13 yX7_leave ∈ lw_tbl := by decide +kernel
theorem w_e91919cf : Cond.methodLink RX1 19 yX0_telling ∈ lw_tbl := by decide +kernel
theorem w_510d8bca : Cond.methodLink RX2 101 yX2_takesEater ∈ lw_tbl := by decide +kernel
theorem w_a243f8a5 : Cond.methodLink RX2 104 yX2_signOf ∈ lw_tbl := by decide +kernel
theorem w_d608c4b0 : Cond.methodLink RX2 107 yX2_takesStrength ∈ lw_tbl := by decide +kernel
theorem w_6b969535 : Cond.methodLink RX2 112 yX1_init ∈ lw_tbl := by decide +kernel
theorem w_afce7106 : Cond.methodLink RX2 117 yX5_init ∈ lw_tbl := by decide +kernel
theorem w_82d60711 : Cond.methodLink RX2 118 yX0_init ∈ lw_tbl := by decide +kernel
theorem w_94ed9d57 : Cond.methodLink RX2 3 Lib.objectInit ∈ lw_tbl := by decide +kernel
theorem w_6476196b : Cond.methodLink RX2 47 yX2_hasSquare ∈ lw_tbl := by decide +kernel
theorem w_08978930 : Cond.methodLink RX2 51 yX2_hasPea ∈ lw_tbl := by decide +kernel
theorem w_a9bc66b2 : Cond.methodLink RX2 70 yX2_wipe ∈ lw_tbl := by decide +kernel
theorem w_59672a6a : Cond.methodLink RX2 73 yX4_read ∈ lw_tbl := by decide +kernel
theorem w_fa18e2d2 : Cond.methodLink RX2 78 yX2_takes ∈ lw_tbl := by decide +kernel
theorem w_091f5735 : Cond.methodLink RX2 81 yX2_rowCodes ∈ lw_tbl := by decide +kernel
theorem w_c28b8515 : Cond.methodLink RX2 85 yX2_eaterByLetter ∈ lw_tbl := by decide +kernel
theorem w_4c9b9658 : Cond.methodLink RX2 89 yX2_listCodes ∈ lw_tbl := by decide +kernel
theorem w_668356c9 : Cond.methodLink RX2 95 yX2_takesBehindHead ∈ lw_tbl := by decide +kernel
theorem w_f5eab6c8 : Cond.methodLink RX2 98 yX2_takesInRow ∈ lw_tbl := by decide +kernel
theorem w_7924a17f : Cond.methodLink RX3 21 yX6_init ∈ lw_tbl := by decide +kernel
theorem w_a173e069 : Cond.methodLink RX3 3 Lib.objectInit ∈ lw_tbl := by decide +kernel
theorem w_a8c2457f : Cond.methodLink RX3 32 yX6_isOn ∈ lw_tbl := by decide +kernel
theorem w_1ca2f8f1 : Cond.methodLink RX3 36 yX6_copyFrom ∈ lw_tbl := by decide +kernel
theorem w_a23e0c43 : Cond.methodLink RX3 40 yX6_pushByCode ∈ lw_tbl := by decide +kernel
theorem w_299da619 : Cond.methodLink RX4 22 Lib.Math.min.name ∈ lw_tbl := by decide +kernel
theorem w_0df0e4a8 : Cond.methodLink RX4 28 yJ7_fill_53178 ∈ lw_tbl := by decide +kernel
theorem w_eb8a4b0c : Cond.methodLink RX4 3 Lib.objectInit ∈ lw_tbl := by decide +kernel
theorem w_e7b4d1d4 : Cond.methodLink RX4 38 yX4_hasCell ∈ lw_tbl := by decide +kernel
theorem w_fe5abfb6 : Cond.methodLink RX4 42 yX4_cut ∈ lw_tbl := by decide +kernel
theorem w_ab80051b : Cond.methodLink RX4 46 yX4_isNothing ∈ lw_tbl := by decide +kernel
theorem w_827812ba : Cond.methodLink RX4 50 yX4_faultOfLane ∈ lw_tbl := by decide +kernel
theorem w_b213862b : Cond.methodLink RX4 53 yX4_hasCells ∈ lw_tbl := by decide +kernel
theorem w_fecb97d9 : Cond.methodLink RX5 1 yX1_init ∈ lw_tbl := by decide +kernel
theorem w_3ae40559 : Cond.methodLink RX5 11 yX7_leave ∈ lw_tbl := by decide +kernel
theorem w_7bf36864 : Cond.methodLink RX5 17 yX1_telling ∈ lw_tbl := by decide +kernel
theorem w_8160e69b : Cond.methodLink RX5 21 (⟨RX5, "forkTelling", "(LPlatePeas$Trace;)I"⟩ : MethodName) ∈ lw_tbl := by decide +kernel
theorem w_f154943d : Cond.methodLink RX5 7 yX1_pushForce ∈ lw_tbl := by decide +kernel
theorem w_99957736 : Cond.methodLink RX6 29 yX2_startOf ∈ lw_tbl := by decide +kernel
theorem w_f93866a3 : Cond.methodLink RX6 3 Lib.objectInit ∈ lw_tbl := by decide +kernel
theorem w_a0fe2848 : Cond.methodLink RX6 35 yX6_spotOf ∈ lw_tbl := by decide +kernel
theorem w_aa60d370 : Cond.methodLink RX6 42 yJ6_bitCount_0f7a4 ∈ lw_tbl := by decide +kernel
theorem w_e1bbdb06 : Cond.methodLink RX6 47 yX2_nextTo ∈ lw_tbl := by decide +kernel
theorem w_72b16be4 : Cond.methodLink RX6 51 yX6_peaOn ∈ lw_tbl := by decide +kernel
theorem w_4c9b49c2 : Cond.methodLink RX6 54 yX6_isOn ∈ lw_tbl := by decide +kernel
theorem w_b02fe13e : Cond.methodLink RX6 58 yX6_behindLine ∈ lw_tbl := by decide +kernel
theorem w_909ffd4b : Cond.methodLink RX6 61 yX2_signAt ∈ lw_tbl := by decide +kernel
theorem w_35ed75bd : Cond.methodLink RX6 64 yX6_isHeld ∈ lw_tbl := by decide +kernel
theorem w_f6b59dd5 : Cond.methodLink RX6 67 yX6_firstHold ∈ lw_tbl := by decide +kernel
theorem w_42539e44 : Cond.methodLink RX6 70 yX2_eaterAt ∈ lw_tbl := by decide +kernel
theorem w_f6c1639e : Cond.methodLink RX6 77 (⟨RX0, "pushForce", "()I"⟩ : MethodName) ∈ lw_tbl := by decide +kernel
theorem w_06ebb94e : Cond.methodLink RX6 77 yX0_pushForce ∈ lw_tbl := by decide +kernel
theorem w_7a28229f : Cond.methodLink RX6 83 yX6_roll ∈ lw_tbl := by decide +kernel
theorem w_3e8a921b : Cond.methodLink RX6 87 yX6_comeToRim ∈ lw_tbl := by decide +kernel
theorem w_de063750 : Cond.methodLink RX7 1 Lib.objectInit ∈ lw_tbl := by decide +kernel
theorem w_222c884c : Cond.methodLink RX8 101 yX2_startsOn ∈ lw_tbl := by decide +kernel
theorem w_f4553429 : Cond.methodLink RX8 104 yX2_changeSign ∈ lw_tbl := by decide +kernel
theorem w_978fead7 : Cond.methodLink RX8 108 yX8_replayNow ∈ lw_tbl := by decide +kernel
theorem w_01e25780 : Cond.methodLink RX8 111 yX2_eaterAt ∈ lw_tbl := by decide +kernel
theorem w_c72464f6 : Cond.methodLink RX8 115 (⟨RX0, "kindNumber", "()I"⟩ : MethodName) ∈ lw_tbl := by decide +kernel
theorem w_cf14ed26 : Cond.methodLink RX8 115 yX0_kindNumber ∈ lw_tbl := by decide +kernel
theorem w_c04ca69e : Cond.methodLink RX8 124 (⟨RX0, "pushForce", "()I"⟩ : MethodName) ∈ lw_tbl := by decide +kernel
theorem w_6947cc05 : Cond.methodLink RX8 124 yX0_pushForce ∈ lw_tbl := by decide +kernel
theorem w_3c5defa3 : Cond.methodLink RX8 127 yX2_isLaid ∈ lw_tbl := by decide +kernel
theorem w_6ecb7d0f : Cond.methodLink RX8 134 yX8_refusalOfPush ∈ lw_tbl := by decide +kernel
theorem w_442daa6a : Cond.methodLink RX8 140 yX8_codeOf ∈ lw_tbl := by decide +kernel
theorem w_1554a414 : Cond.methodLink RX8 143 yX6_pushByCode ∈ lw_tbl := by decide +kernel
theorem w_3d5f82c0 : Cond.methodLink RX8 147 yX2_hasPea ∈ lw_tbl := by decide +kernel
theorem w_1f524869 : Cond.methodLink RX8 150 yX6_spotOf ∈ lw_tbl := by decide +kernel
theorem w_a8060d03 : Cond.methodLink RX8 159 yX6_heldSet ∈ lw_tbl := by decide +kernel
theorem w_7f69e591 : Cond.methodLink RX8 162 yX6_isOn ∈ lw_tbl := by decide +kernel
theorem w_f99210d4 : Cond.methodLink RX8 165 yX6_copyFrom ∈ lw_tbl := by decide +kernel
theorem w_b6e2d30e : Cond.methodLink RX8 169 yX6_elsewhereThan ∈ lw_tbl := by decide +kernel
theorem w_ecb85217 : Cond.methodLink RX8 173 yX6_isHad ∈ lw_tbl := by decide +kernel
theorem w_464ef635 : Cond.methodLink RX8 180 yX8_findsRow ∈ lw_tbl := by decide +kernel
theorem w_553ebd89 : Cond.methodLink RX8 187 yX8_mostHad ∈ lw_tbl := by decide +kernel
theorem w_223d7308 : Cond.methodLink RX8 191 yX6_behindLine ∈ lw_tbl := by decide +kernel
theorem w_2a464a0a : Cond.methodLink RX8 195 yX8_areCodes ∈ lw_tbl := by decide +kernel
theorem w_6ffaf61d : Cond.methodLink RX8 199 yX8_hadByRow ∈ lw_tbl := by decide +kernel
theorem w_61a98328 : Cond.methodLink RX8 204 yX6_countHolds ∈ lw_tbl := by decide +kernel
theorem w_28b1b19b : Cond.methodLink RX8 222 yX8_readingsAreSo ∈ lw_tbl := by decide +kernel
theorem w_41eac3f8 : Cond.methodLink RX8 226 yX8_replay ∈ lw_tbl := by decide +kernel
theorem w_316a433f : Cond.methodLink RX8 230 yX4_begin ∈ lw_tbl := by decide +kernel
theorem w_ef0af77e : Cond.methodLink RX8 233 yX4_isNothing ∈ lw_tbl := by decide +kernel
theorem w_3ddaa564 : Cond.methodLink RX8 236 yX4_drop ∈ lw_tbl := by decide +kernel
theorem w_1ed2597d : Cond.methodLink RX8 239 yX4_hasCell ∈ lw_tbl := by decide +kernel
theorem w_8f121929 : Cond.methodLink RX8 242 yX4_write ∈ lw_tbl := by decide +kernel
theorem w_7abb08ab : Cond.methodLink RX8 245 yX4_faultOfCell ∈ lw_tbl := by decide +kernel
theorem w_f041e258 : Cond.methodLink RX8 248 yX4_read ∈ lw_tbl := by decide +kernel
theorem w_bdfbb586 : Cond.methodLink RX8 254 yX4_hasCells ∈ lw_tbl := by decide +kernel
theorem w_485cc8ed : Cond.methodLink RX8 260 arraycopyName ∈ lw_tbl := by decide +kernel
theorem w_4e2222a2 : Cond.methodLink RX8 266 (⟨RX0, "telling", "(LPlatePeas$Trace;)I"⟩ : MethodName) ∈ lw_tbl := by decide +kernel
theorem w_7a92b3b5 : Cond.methodLink RX8 266 yX0_telling ∈ lw_tbl := by decide +kernel
theorem w_c84765e4 : Cond.methodLink RX8 270 (⟨RX0, "polished", "(LPlatePeas$Trace;)I"⟩ : MethodName) ∈ lw_tbl := by decide +kernel
theorem w_dce36931 : Cond.methodLink RX8 270 yX0_polished ∈ lw_tbl := by decide +kernel
theorem w_fb61b56c : Cond.methodLink RX8 273 yX8_isOfKind ∈ lw_tbl := by decide +kernel
theorem w_8019a0c0 : Cond.methodLink RX8 293 yX6_beginOn ∈ lw_tbl := by decide +kernel
theorem w_200b546b : Cond.methodLink RX8 297 yX2_isCode ∈ lw_tbl := by decide +kernel
theorem w_5b7baa87 : Cond.methodLink RX8 3 Lib.objectInit ∈ lw_tbl := by decide +kernel
theorem w_dd5f8c1e : Cond.methodLink RX8 300 yX8_peaOf ∈ lw_tbl := by decide +kernel
theorem w_7ab072d9 : Cond.methodLink RX8 303 yX6_countHad ∈ lw_tbl := by decide +kernel
theorem w_a392767c : Cond.methodLink RX8 306 yX6_firstHold ∈ lw_tbl := by decide +kernel
theorem w_18478eb3 : Cond.methodLink RX8 312 yX3_stepsOn ∈ lw_tbl := by decide +kernel
theorem w_1d17b795 : Cond.methodLink RX8 315 yX6_holdsAny ∈ lw_tbl := by decide +kernel
theorem w_ccf7f5f0 : Cond.methodLink RX8 318 Lib.Math.max.name ∈ lw_tbl := by decide +kernel
theorem w_baab13b2 : Cond.methodLink RX8 39 yX6_init ∈ lw_tbl := by decide +kernel
theorem w_663a411e : Cond.methodLink RX8 51 yX3_init ∈ lw_tbl := by decide +kernel
theorem w_f7ead245 : Cond.methodLink RX8 68 yX8_sheetAt ∈ lw_tbl := by decide +kernel
theorem w_5a32a06b : Cond.methodLink RX8 72 yX8_isBelow ∈ lw_tbl := by decide +kernel
theorem w_b03926ab : Cond.methodLink RX8 76 yX4_faultOfCells ∈ lw_tbl := by decide +kernel
theorem w_69d86a34 : Cond.methodLink RX8 80 yX8_failed ∈ lw_tbl := by decide +kernel
theorem w_3fc4e50e : Cond.methodLink RX8 84 yX2_readText ∈ lw_tbl := by decide +kernel
theorem w_f4da817f : Cond.methodLink RX8 88 yX8_takeDraft ∈ lw_tbl := by decide +kernel
theorem w_74483947 : Cond.methodLink RX8 94 yX2_hasSquare ∈ lw_tbl := by decide +kernel
theorem w_aa81dcf5 : Cond.methodLink RX8 98 yX2_signAt ∈ lw_tbl := by decide +kernel
theorem w_3e2178ef : Cond.methodLink RX9 1 Lib.objectInit ∈ lw_tbl := by decide +kernel
theorem w_dabeffa6 : Cond.methodLink RX9 105 yX9_lost ∈ lw_tbl := by decide +kernel
theorem w_1d0d9b61 : Cond.methodLink RX9 124 yX9_take ∈ lw_tbl := by decide +kernel
theorem w_924af815 : Cond.methodLink RX9 127 yX9_takeSquare ∈ lw_tbl := by decide +kernel
theorem w_5b6c1406 : Cond.methodLink RX9 133 yX9_takeSquares ∈ lw_tbl := by decide +kernel
theorem w_6d1ac5be : Cond.methodLink RX9 137 yX9_takeEater ∈ lw_tbl := by decide +kernel
theorem w_7cb8ca3b : Cond.methodLink RX9 140 yX9_faultOf ∈ lw_tbl := by decide +kernel
theorem w_1a0fe89e : Cond.methodLink RX9 144 yX9_takeText ∈ lw_tbl := by decide +kernel
theorem w_ee03befe : Cond.methodLink RX9 159 yX9_isSquare ∈ lw_tbl := by decide +kernel
theorem w_e67414c9 : Cond.methodLink RX9 162 yX9_startsAt ∈ lw_tbl := by decide +kernel
theorem w_fbfd102d : Cond.methodLink RX9 165 yX9_isEater ∈ lw_tbl := by decide +kernel
theorem w_b002a5cc : Cond.methodLink RX9 168 yX9_forceOf ∈ lw_tbl := by decide +kernel
theorem w_0096e47c : Cond.methodLink RX9 171 yX9_next ∈ lw_tbl := by decide +kernel
theorem w_dd1862d7 : Cond.methodLink RX9 174 yX9_peaAt ∈ lw_tbl := by decide +kernel
theorem w_352f6192 : Cond.methodLink RX9 177 yX9_peaOf ∈ lw_tbl := by decide +kernel
theorem w_afa8fd52 : Cond.methodLink RX9 180 yX9_isHeld ∈ lw_tbl := by decide +kernel
theorem w_b916240e : Cond.methodLink RX9 184 yX9_eaterOf ∈ lw_tbl := by decide +kernel
theorem w_d3021bc3 : Cond.methodLink RX9 187 yX9_roll ∈ lw_tbl := by decide +kernel
theorem w_59253ade : Cond.methodLink RX9 191 yX9_doPush ∈ lw_tbl := by decide +kernel
theorem w_edc4baa0 : Cond.methodLink RX9 195 yX9_isPea ∈ lw_tbl := by decide +kernel
theorem w_01943b9a : Cond.methodLink RX9 198 yX9_goThrough ∈ lw_tbl := by decide +kernel
theorem w_8ad92940 : Cond.methodLink RX9 203 yX9_setOf ∈ lw_tbl := by decide +kernel
theorem w_dc13386e : Cond.methodLink RX9 206 yX9_save ∈ lw_tbl := by decide +kernel
theorem w_0dd9b81f : Cond.methodLink RX9 209 yX9_isCode ∈ lw_tbl := by decide +kernel
theorem w_6bd361a6 : Cond.methodLink RX9 212 yX9_isPush ∈ lw_tbl := by decide +kernel
theorem w_a53a4cc8 : Cond.methodLink RX9 215 yX9_load ∈ lw_tbl := by decide +kernel
theorem w_b3f75056 : Cond.methodLink RX9 218 yX9_lastPush ∈ lw_tbl := by decide +kernel
theorem w_d37d60b0 : Cond.methodLink RX9 221 yX9_findThree ∈ lw_tbl := by decide +kernel
theorem w_42083dc0 : Cond.methodLink RX9 224 yX9_findFewest ∈ lw_tbl := by decide +kernel
theorem w_9a94cc38 : Cond.methodLink RX9 227 yX9_hadNow ∈ lw_tbl := by decide +kernel
theorem w_b864cd5a : Cond.methodLink RX9 231 yX9_mostByOne ∈ lw_tbl := by decide +kernel
theorem w_e9475181 : Cond.methodLink RX9 234 yX9_mostByTwo ∈ lw_tbl := by decide +kernel
theorem w_8109da2e : Cond.methodLink RX9 237 yX9_mostByThree ∈ lw_tbl := by decide +kernel
theorem w_62c0d8bf : Cond.methodLink RX9 240 yX9_areCodes ∈ lw_tbl := by decide +kernel
theorem w_b4e886f7 : Cond.methodLink RX9 243 yX9_divisor ∈ lw_tbl := by decide +kernel
theorem w_07c1a0ca : Cond.methodLink RX9 246 yX9_areSo ∈ lw_tbl := by decide +kernel
theorem w_0c607a59 : Cond.methodLink RX9 252 yX9_begin ∈ lw_tbl := by decide +kernel
theorem w_8968680b : Cond.methodLink RX9 255 yX9_forkTells ∈ lw_tbl := by decide +kernel
theorem w_46eb940c : Cond.methodLink RX9 258 yX9_knifeTells ∈ lw_tbl := by decide +kernel
theorem w_997042aa : Cond.methodLink RX9 261 yX9_spoonTells ∈ lw_tbl := by decide +kernel
theorem w_965b603d : Cond.methodLink RX9 71 yX9_in ∈ lw_tbl := by decide +kernel
theorem w_e3296383 : Cond.methodLink RX9 85 yX9_isSheet ∈ lw_tbl := by decide +kernel
theorem w_36314120 : Cond.methodLink RX9 89 yX9_refused ∈ lw_tbl := by decide +kernel
theorem w_0e38406e : Cond.methodLink RX9 93 yX9_isLane ∈ lw_tbl := by decide +kernel
theorem w_9eea8c5f : Cond.methodLink RX9 96 yX9_fails ∈ lw_tbl := by decide +kernel
theorem w_03d3098a : Cond.methodLink RX9 99 yX9_cut ∈ lw_tbl := by decide +kernel
theorem w_ffbe0dbe : Cond.methodLinkNest RX2 119 yX8_codeOf "PlatePeas" ∈ lw_tbl := by decide +kernel
theorem w_50c2f644 : Cond.methodLinkNest RX2 40 yX8_isBelow "PlatePeas" ∈ lw_tbl := by decide +kernel
theorem w_d2511811 : Cond.methodLinkNest RX2 54 yX8_peaOf "PlatePeas" ∈ lw_tbl := by decide +kernel
theorem w_9e05c08c : Cond.methodLinkNest RX3 24 yX8_isBelow "PlatePeas" ∈ lw_tbl := by decide +kernel
theorem w_5b46530f : Cond.methodLinkNest RX3 28 yX8_peaOf "PlatePeas" ∈ lw_tbl := by decide +kernel
theorem w_55d896fe : Cond.methodLinkNest RX4 34 yX8_isBelow "PlatePeas" ∈ lw_tbl := by decide +kernel
theorem w_e88d661e : Cond.methodLinkNest RX6 38 yX8_isBelow "PlatePeas" ∈ lw_tbl := by decide +kernel
theorem w_2170f105 : Cond.methodLinkNest RX6 74 yX8_peaOf "PlatePeas" ∈ lw_tbl := by decide +kernel
theorem w_ed5d3c9d : Cond.methodLinkNest RX8 29 yX7_init "PlatePeas" ∈ lw_tbl := by decide +kernel
theorem w_7ae38e74 : Cond.methodLinkNest RX8 36 yX2_init "PlatePeas" ∈ lw_tbl := by decide +kernel
theorem w_cb39f74e : Cond.methodLinkNest RX8 63 yX4_init "PlatePeas" ∈ lw_tbl := by decide +kernel
theorem w_53efb14e : Cond.native arraycopyName ∈ lw_tbl := by decide +kernel
theorem w_ca843fff : Cond.sameMethod RX0 RX0 "forkTelling" "(LPlatePeas$Trace;)I" ∈ lw_tbl := by decide +kernel
theorem w_764c309f : Cond.sameMethod RX0 RX0 "kindNumber" "()I" ∈ lw_tbl := by decide +kernel
theorem w_7d593978 : Cond.sameMethod RX0 RX0 "polished" "(LPlatePeas$Trace;)I" ∈ lw_tbl := by decide +kernel
theorem w_792f6fa9 : Cond.sameMethod RX0 RX0 "pushForce" "()I" ∈ lw_tbl := by decide +kernel
theorem w_5fe99b49 : Cond.sameMethod RX0 RX0 "telling" "(LPlatePeas$Trace;)I" ∈ lw_tbl := by decide +kernel
theorem w_d9de56c1 : Cond.sameMethod RX1 RX1 "pushForce" "()I" ∈ lw_tbl := by decide +kernel
theorem w_d7d8d3e7 : Cond.sameMethod RX1 RX1 "telling" "(LPlatePeas$Trace;)I" ∈ lw_tbl := by decide +kernel
theorem w_afcf7270 : Cond.sameMethod RX5 RX0 "forkTelling" "(LPlatePeas$Trace;)I" ∈ lw_tbl := by decide +kernel
theorem w_40e7f4f8 : Cond.selects RX0 yX0_forkTelling yX0_forkTelling ∈ lw_tbl := by decide +kernel
theorem w_e0bdb0a5 : Cond.selects RX0 yX0_kindNumber yX0_kindNumber ∈ lw_tbl := by decide +kernel
theorem w_7f119d07 : Cond.selects RX0 yX0_polished yX0_polished ∈ lw_tbl := by decide +kernel
theorem w_6bf10f70 : Cond.selects RX0 yX0_pushForce yX0_pushForce ∈ lw_tbl := by decide +kernel
theorem w_f83af095 : Cond.selects RX0 yX0_telling yX0_telling ∈ lw_tbl := by decide +kernel
theorem w_6fc4b8a2 : Cond.selects RX1 (⟨RX0, "forkTelling", "(LPlatePeas$Trace;)I"⟩ : MethodName) yX0_forkTelling ∈ lw_tbl := by decide +kernel
theorem w_25f1c406 : Cond.selects RX1 (⟨RX0, "kindNumber", "()I"⟩ : MethodName) yX1_kindNumber ∈ lw_tbl := by decide +kernel
theorem w_6c97b7e4 : Cond.selects RX1 (⟨RX0, "polished", "(LPlatePeas$Trace;)I"⟩ : MethodName) yX0_polished ∈ lw_tbl := by decide +kernel
theorem w_4207aee2 : Cond.selects RX1 (⟨RX0, "pushForce", "()I"⟩ : MethodName) yX1_pushForce ∈ lw_tbl := by decide +kernel
theorem w_f50c9a71 : Cond.selects RX1 (⟨RX0, "telling", "(LPlatePeas$Trace;)I"⟩ : MethodName) yX1_telling ∈ lw_tbl := by decide +kernel
theorem w_b2b2009f : Cond.selects RX2 yX2_changeSign yX2_changeSign ∈ lw_tbl := by decide +kernel
theorem w_b2d4f670 : Cond.selects RX2 yX2_eaterAt yX2_eaterAt ∈ lw_tbl := by decide +kernel
theorem w_08928d72 : Cond.selects RX2 yX2_hasPea yX2_hasPea ∈ lw_tbl := by decide +kernel
theorem w_e8d8d8eb : Cond.selects RX2 yX2_hasSquare yX2_hasSquare ∈ lw_tbl := by decide +kernel
theorem w_c00c732f : Cond.selects RX2 yX2_isCode yX2_isCode ∈ lw_tbl := by decide +kernel
theorem w_a2626735 : Cond.selects RX2 yX2_isLaid yX2_isLaid ∈ lw_tbl := by decide +kernel
theorem w_306d99ba : Cond.selects RX2 yX2_listCodes yX2_listCodes ∈ lw_tbl := by decide +kernel
theorem w_1c75a8d1 : Cond.selects RX2 yX2_nextTo yX2_nextTo ∈ lw_tbl := by decide +kernel
theorem w_14ea6e29 : Cond.selects RX2 yX2_readText yX2_readText ∈ lw_tbl := by decide +kernel
theorem w_227ca58b : Cond.selects RX2 yX2_rowCodes yX2_rowCodes ∈ lw_tbl := by decide +kernel
theorem w_6edb59a6 : Cond.selects RX2 yX2_signAt yX2_signAt ∈ lw_tbl := by decide +kernel
theorem w_c2bd39ed : Cond.selects RX2 yX2_startOf yX2_startOf ∈ lw_tbl := by decide +kernel
theorem w_ca0d484d : Cond.selects RX2 yX2_startsOn yX2_startsOn ∈ lw_tbl := by decide +kernel
theorem w_2ae69869 : Cond.selects RX2 yX2_takes yX2_takes ∈ lw_tbl := by decide +kernel
theorem w_31413f2c : Cond.selects RX2 yX2_takesBehindHead yX2_takesBehindHead ∈ lw_tbl := by decide +kernel
theorem w_2bd5600f : Cond.selects RX2 yX2_takesEater yX2_takesEater ∈ lw_tbl := by decide +kernel
theorem w_57fcf6cb : Cond.selects RX2 yX2_takesInRow yX2_takesInRow ∈ lw_tbl := by decide +kernel
theorem w_dcfb495d : Cond.selects RX2 yX2_takesStrength yX2_takesStrength ∈ lw_tbl := by decide +kernel
theorem w_767313ac : Cond.selects RX2 yX2_wipe yX2_wipe ∈ lw_tbl := by decide +kernel
theorem w_c0ea198f : Cond.selects RX3 yX3_stepsOn yX3_stepsOn ∈ lw_tbl := by decide +kernel
theorem w_506cca92 : Cond.selects RX4 yX4_begin yX4_begin ∈ lw_tbl := by decide +kernel
theorem w_566f3d5c : Cond.selects RX4 yX4_cut yX4_cut ∈ lw_tbl := by decide +kernel
theorem w_f9e5f656 : Cond.selects RX4 yX4_drop yX4_drop ∈ lw_tbl := by decide +kernel
theorem w_757fb70b : Cond.selects RX4 yX4_faultOfCell yX4_faultOfCell ∈ lw_tbl := by decide +kernel
theorem w_d7a06ab3 : Cond.selects RX4 yX4_faultOfCells yX4_faultOfCells ∈ lw_tbl := by decide +kernel
theorem w_0f352446 : Cond.selects RX4 yX4_faultOfLane yX4_faultOfLane ∈ lw_tbl := by decide +kernel
theorem w_fc449088 : Cond.selects RX4 yX4_hasCell yX4_hasCell ∈ lw_tbl := by decide +kernel
theorem w_ef12144f : Cond.selects RX4 yX4_hasCells yX4_hasCells ∈ lw_tbl := by decide +kernel
theorem w_8fff8c84 : Cond.selects RX4 yX4_isNothing yX4_isNothing ∈ lw_tbl := by decide +kernel
theorem w_ef2a4f09 : Cond.selects RX4 yX4_read yX4_read ∈ lw_tbl := by decide +kernel
theorem w_3dd5a629 : Cond.selects RX4 yX4_write yX4_write ∈ lw_tbl := by decide +kernel
theorem w_10e02839 : Cond.selects RX5 (⟨RX0, "forkTelling", "(LPlatePeas$Trace;)I"⟩ : MethodName) yX0_forkTelling ∈ lw_tbl := by decide +kernel
theorem w_bcfefe6c : Cond.selects RX5 (⟨RX0, "kindNumber", "()I"⟩ : MethodName) yX5_kindNumber ∈ lw_tbl := by decide +kernel
theorem w_02d1f62b : Cond.selects RX5 (⟨RX0, "polished", "(LPlatePeas$Trace;)I"⟩ : MethodName) yX5_polished ∈ lw_tbl := by decide +kernel
theorem w_44fcf05e : Cond.selects RX5 (⟨RX0, "pushForce", "()I"⟩ : MethodName) yX5_pushForce ∈ lw_tbl := by decide +kernel
theorem w_78e5eaab : Cond.selects RX5 (⟨RX0, "telling", "(LPlatePeas$Trace;)I"⟩ : MethodName) yX5_telling ∈ lw_tbl := by decide +kernel
theorem w_22f79ef6 : Cond.selects RX5 (⟨RX5, "forkTelling", "(LPlatePeas$Trace;)I"⟩ : MethodName) yX0_forkTelling ∈ lw_tbl := by decide +kernel
theorem w_893429fb : Cond.selects RX6 yX6_beginOn yX6_beginOn ∈ lw_tbl := by decide +kernel
theorem w_702df674 : Cond.selects RX6 yX6_behindLine yX6_behindLine ∈ lw_tbl := by decide +kernel
theorem w_344c8951 : Cond.selects RX6 yX6_comeToRim yX6_comeToRim ∈ lw_tbl := by decide +kernel
theorem w_c1091051 : Cond.selects RX6 yX6_copyFrom yX6_copyFrom ∈ lw_tbl := by decide +kernel
theorem w_070c7e4d : Cond.selects RX6 yX6_countHad yX6_countHad ∈ lw_tbl := by decide +kernel
theorem w_2d698f44 : Cond.selects RX6 yX6_countHolds yX6_countHolds ∈ lw_tbl := by decide +kernel
theorem w_3b3e4a03 : Cond.selects RX6 yX6_elsewhereThan yX6_elsewhereThan ∈ lw_tbl := by decide +kernel
theorem w_df5fe185 : Cond.selects RX6 yX6_firstHold yX6_firstHold ∈ lw_tbl := by decide +kernel
theorem w_726bcb05 : Cond.selects RX6 yX6_heldSet yX6_heldSet ∈ lw_tbl := by decide +kernel
theorem w_8cf248e9 : Cond.selects RX6 yX6_holdsAny yX6_holdsAny ∈ lw_tbl := by decide +kernel
theorem w_5f675f6e : Cond.selects RX6 yX6_isHad yX6_isHad ∈ lw_tbl := by decide +kernel
theorem w_d2cd5594 : Cond.selects RX6 yX6_isHeld yX6_isHeld ∈ lw_tbl := by decide +kernel
theorem w_65f82e67 : Cond.selects RX6 yX6_isOn yX6_isOn ∈ lw_tbl := by decide +kernel
theorem w_cc1a1181 : Cond.selects RX6 yX6_peaOn yX6_peaOn ∈ lw_tbl := by decide +kernel
theorem w_fad29185 : Cond.selects RX6 yX6_pushByCode yX6_pushByCode ∈ lw_tbl := by decide +kernel
theorem w_1d8a3515 : Cond.selects RX6 yX6_roll yX6_roll ∈ lw_tbl := by decide +kernel
theorem w_b5ec1fda : Cond.selects RX6 yX6_spotOf yX6_spotOf ∈ lw_tbl := by decide +kernel
theorem w_8bc2ac36 : Cond.selects RX7 yX7_leave yX7_leave ∈ lw_tbl := by decide +kernel
theorem w_886ccaac : Cond.selects RX8 yX8_areCodes yX8_areCodes ∈ lw_tbl := by decide +kernel
theorem w_0ad155bd : Cond.selects RX8 yX8_as yX8_as ∈ lw_tbl := by decide +kernel
theorem w_a2f8049b : Cond.selects RX8 yX8_back yX8_back ∈ lw_tbl := by decide +kernel
theorem w_874360bd : Cond.selects RX8 yX8_cell yX8_cell ∈ lw_tbl := by decide +kernel
theorem w_20fa151e : Cond.selects RX8 yX8_copy yX8_copy ∈ lw_tbl := by decide +kernel
theorem w_a31f6c1a : Cond.selects RX8 yX8_failed yX8_failed ∈ lw_tbl := by decide +kernel
theorem w_39584172 : Cond.selects RX8 yX8_fault yX8_fault ∈ lw_tbl := by decide +kernel
theorem w_c9c829db : Cond.selects RX8 yX8_fewest yX8_fewest ∈ lw_tbl := by decide +kernel
theorem w_728e26c1 : Cond.selects RX8 yX8_hadByRow yX8_hadByRow ∈ lw_tbl := by decide +kernel
theorem w_5018229a : Cond.selects RX8 yX8_last yX8_last ∈ lw_tbl := by decide +kernel
theorem w_546b9591 : Cond.selects RX8 yX8_law yX8_law ∈ lw_tbl := by decide +kernel
theorem w_15b2b241 : Cond.selects RX8 yX8_laws yX8_laws ∈ lw_tbl := by decide +kernel
theorem w_b0168778 : Cond.selects RX8 yX8_lose yX8_lose ∈ lw_tbl := by decide +kernel
theorem w_154182d6 : Cond.selects RX8 yX8_many yX8_many ∈ lw_tbl := by decide +kernel
theorem w_605a9152 : Cond.selects RX8 yX8_most yX8_most ∈ lw_tbl := by decide +kernel
theorem w_8081ec56 : Cond.selects RX8 yX8_never yX8_never ∈ lw_tbl := by decide +kernel
theorem w_d6926040 : Cond.selects RX8 yX8_odds yX8_odds ∈ lw_tbl := by decide +kernel
theorem w_31d2f6c4 : Cond.selects RX8 yX8_ofEater yX8_ofEater ∈ lw_tbl := by decide +kernel
theorem w_e0b2648e : Cond.selects RX8 yX8_peas yX8_peas ∈ lw_tbl := by decide +kernel
theorem w_9d1f5fca : Cond.selects RX8 yX8_plate yX8_plate ∈ lw_tbl := by decide +kernel
theorem w_6bd30764 : Cond.selects RX8 yX8_polish yX8_polish ∈ lw_tbl := by decide +kernel
theorem w_7a687334 : Cond.selects RX8 yX8_push yX8_push ∈ lw_tbl := by decide +kernel
theorem w_01aca12c : Cond.selects RX8 yX8_put yX8_put ∈ lw_tbl := by decide +kernel
theorem w_525445a5 : Cond.selects RX8 yX8_reading yX8_reading ∈ lw_tbl := by decide +kernel
theorem w_5461c6b2 : Cond.selects RX8 yX8_readingsAreSo yX8_readingsAreSo ∈ lw_tbl := by decide +kernel
theorem w_fe731187 : Cond.selects RX8 yX8_refusalOfPush yX8_refusalOfPush ∈ lw_tbl := by decide +kernel
theorem w_b89d10d1 : Cond.selects RX8 yX8_replay yX8_replay ∈ lw_tbl := by decide +kernel
theorem w_bcc4f584 : Cond.selects RX8 yX8_replayNow yX8_replayNow ∈ lw_tbl := by decide +kernel
theorem w_e28804c7 : Cond.selects RX8 yX8_row yX8_row ∈ lw_tbl := by decide +kernel
theorem w_abcdcb6b : Cond.selects RX8 yX8_set yX8_set ∈ lw_tbl := by decide +kernel
theorem w_23e4c848 : Cond.selects RX8 yX8_sheet yX8_sheet ∈ lw_tbl := by decide +kernel
theorem w_4f08d385 : Cond.selects RX8 yX8_sheetAt yX8_sheetAt ∈ lw_tbl := by decide +kernel
theorem w_4a0c1aa5 : Cond.selects RX8 yX8_sign yX8_sign ∈ lw_tbl := by decide +kernel
theorem w_63b80f2f : Cond.selects RX8 yX8_takeDraft yX8_takeDraft ∈ lw_tbl := by decide +kernel
theorem w_17f2daa6 : Cond.selects RX8 yX8_tell yX8_tell ∈ lw_tbl := by decide +kernel
theorem w_b07d049b : Cond.selects RX8 yX8_trace yX8_trace ∈ lw_tbl := by decide +kernel
theorem w_5ffd9ded : Cond.selects RX8 yX8_undo yX8_undo ∈ lw_tbl := by decide +kernel
theorem w_40e4e10e : Cond.selects RX8 yX8_wall yX8_wall ∈ lw_tbl := by decide +kernel
theorem w_17d8d35c : Cond.selects RX8 yX8_where yX8_where ∈ lw_tbl := by decide +kernel
theorem w_91fe509c : Cond.selects RX8 yX8_would yX8_would ∈ lw_tbl := by decide +kernel
theorem w_88c1fe46 : Cond.selects RX9 yX9_areCodes yX9_areCodes ∈ lw_tbl := by decide +kernel
theorem w_dde1bd2f : Cond.selects RX9 yX9_areSo yX9_areSo ∈ lw_tbl := by decide +kernel
theorem w_a0399803 : Cond.selects RX9 yX9_as yX9_as ∈ lw_tbl := by decide +kernel
theorem w_22400e14 : Cond.selects RX9 yX9_back yX9_back ∈ lw_tbl := by decide +kernel
theorem w_5de907ec : Cond.selects RX9 yX9_begin yX9_begin ∈ lw_tbl := by decide +kernel
theorem w_7120707d : Cond.selects RX9 yX9_cell yX9_cell ∈ lw_tbl := by decide +kernel
theorem w_cbd82484 : Cond.selects RX9 yX9_copy yX9_copy ∈ lw_tbl := by decide +kernel
theorem w_99e239ed : Cond.selects RX9 yX9_doPush yX9_doPush ∈ lw_tbl := by decide +kernel
theorem w_d4c6d93d : Cond.selects RX9 yX9_fails yX9_fails ∈ lw_tbl := by decide +kernel
theorem w_6653eade : Cond.selects RX9 yX9_fault yX9_fault ∈ lw_tbl := by decide +kernel
theorem w_ba7a3c79 : Cond.selects RX9 yX9_faultOf yX9_faultOf ∈ lw_tbl := by decide +kernel
theorem w_132586b5 : Cond.selects RX9 yX9_fewest yX9_fewest ∈ lw_tbl := by decide +kernel
theorem w_106edf1d : Cond.selects RX9 yX9_findFewest yX9_findFewest ∈ lw_tbl := by decide +kernel
theorem w_8bad14c0 : Cond.selects RX9 yX9_findThree yX9_findThree ∈ lw_tbl := by decide +kernel
theorem w_72d3afde : Cond.selects RX9 yX9_forceOf yX9_forceOf ∈ lw_tbl := by decide +kernel
theorem w_1cb11d72 : Cond.selects RX9 yX9_forkTells yX9_forkTells ∈ lw_tbl := by decide +kernel
theorem w_d15d7c36 : Cond.selects RX9 yX9_goThrough yX9_goThrough ∈ lw_tbl := by decide +kernel
theorem w_569bc8e2 : Cond.selects RX9 yX9_hadNow yX9_hadNow ∈ lw_tbl := by decide +kernel
theorem w_d9bb3f89 : Cond.selects RX9 yX9_isCode yX9_isCode ∈ lw_tbl := by decide +kernel
theorem w_9a4d1a31 : Cond.selects RX9 yX9_isEater yX9_isEater ∈ lw_tbl := by decide +kernel
theorem w_e70e30b2 : Cond.selects RX9 yX9_isHeld yX9_isHeld ∈ lw_tbl := by decide +kernel
theorem w_7f2b0989 : Cond.selects RX9 yX9_isPea yX9_isPea ∈ lw_tbl := by decide +kernel
theorem w_ff97f0ad : Cond.selects RX9 yX9_isPush yX9_isPush ∈ lw_tbl := by decide +kernel
theorem w_ced1ca05 : Cond.selects RX9 yX9_isSquare yX9_isSquare ∈ lw_tbl := by decide +kernel
theorem w_418b66ba : Cond.selects RX9 yX9_knifeTells yX9_knifeTells ∈ lw_tbl := by decide +kernel
theorem w_32643540 : Cond.selects RX9 yX9_last yX9_last ∈ lw_tbl := by decide +kernel
theorem w_6c789a44 : Cond.selects RX9 yX9_lastPush yX9_lastPush ∈ lw_tbl := by decide +kernel
theorem w_0f8dbf06 : Cond.selects RX9 yX9_law yX9_law ∈ lw_tbl := by decide +kernel
theorem w_9e5c9807 : Cond.selects RX9 yX9_laws yX9_laws ∈ lw_tbl := by decide +kernel
theorem w_f5fb13ea : Cond.selects RX9 yX9_load yX9_load ∈ lw_tbl := by decide +kernel
theorem w_f37ab5e8 : Cond.selects RX9 yX9_lose yX9_lose ∈ lw_tbl := by decide +kernel
theorem w_efd99e21 : Cond.selects RX9 yX9_lost yX9_lost ∈ lw_tbl := by decide +kernel
theorem w_5dd6ce98 : Cond.selects RX9 yX9_many yX9_many ∈ lw_tbl := by decide +kernel
theorem w_70069b70 : Cond.selects RX9 yX9_most yX9_most ∈ lw_tbl := by decide +kernel
theorem w_b9a295af : Cond.selects RX9 yX9_mostByOne yX9_mostByOne ∈ lw_tbl := by decide +kernel
theorem w_b6236f41 : Cond.selects RX9 yX9_mostByThree yX9_mostByThree ∈ lw_tbl := by decide +kernel
theorem w_6f3caff7 : Cond.selects RX9 yX9_mostByTwo yX9_mostByTwo ∈ lw_tbl := by decide +kernel
theorem w_c81d8964 : Cond.selects RX9 yX9_never yX9_never ∈ lw_tbl := by decide +kernel
theorem w_a012cd12 : Cond.selects RX9 yX9_next yX9_next ∈ lw_tbl := by decide +kernel
theorem w_ec08de11 : Cond.selects RX9 yX9_odds yX9_odds ∈ lw_tbl := by decide +kernel
theorem w_7e038bea : Cond.selects RX9 yX9_ofEater yX9_ofEater ∈ lw_tbl := by decide +kernel
theorem w_c8f9e844 : Cond.selects RX9 yX9_peaAt yX9_peaAt ∈ lw_tbl := by decide +kernel
theorem w_8168bc76 : Cond.selects RX9 yX9_peas yX9_peas ∈ lw_tbl := by decide +kernel
theorem w_372bbe3a : Cond.selects RX9 yX9_plate yX9_plate ∈ lw_tbl := by decide +kernel
theorem w_046c676e : Cond.selects RX9 yX9_polish yX9_polish ∈ lw_tbl := by decide +kernel
theorem w_b78d8cd4 : Cond.selects RX9 yX9_push yX9_push ∈ lw_tbl := by decide +kernel
theorem w_bfbb951d : Cond.selects RX9 yX9_put yX9_put ∈ lw_tbl := by decide +kernel
theorem w_cb53938f : Cond.selects RX9 yX9_reading yX9_reading ∈ lw_tbl := by decide +kernel
theorem w_cb9c589c : Cond.selects RX9 yX9_refused yX9_refused ∈ lw_tbl := by decide +kernel
theorem w_2947f9c1 : Cond.selects RX9 yX9_roll yX9_roll ∈ lw_tbl := by decide +kernel
theorem w_398f7788 : Cond.selects RX9 yX9_row yX9_row ∈ lw_tbl := by decide +kernel
theorem w_e3aba2e9 : Cond.selects RX9 yX9_save yX9_save ∈ lw_tbl := by decide +kernel
theorem w_ba107ae6 : Cond.selects RX9 yX9_set yX9_set ∈ lw_tbl := by decide +kernel
theorem w_a004f482 : Cond.selects RX9 yX9_setOf yX9_setOf ∈ lw_tbl := by decide +kernel
theorem w_5f3c6ad5 : Cond.selects RX9 yX9_sheet yX9_sheet ∈ lw_tbl := by decide +kernel
theorem w_0ef9f613 : Cond.selects RX9 yX9_sign yX9_sign ∈ lw_tbl := by decide +kernel
theorem w_c7b75287 : Cond.selects RX9 yX9_spoonTells yX9_spoonTells ∈ lw_tbl := by decide +kernel
theorem w_a9516aac : Cond.selects RX9 yX9_startsAt yX9_startsAt ∈ lw_tbl := by decide +kernel
theorem w_8b654945 : Cond.selects RX9 yX9_take yX9_take ∈ lw_tbl := by decide +kernel
theorem w_212206b4 : Cond.selects RX9 yX9_takeEater yX9_takeEater ∈ lw_tbl := by decide +kernel
theorem w_004f9d9d : Cond.selects RX9 yX9_takeSquare yX9_takeSquare ∈ lw_tbl := by decide +kernel
theorem w_8c1e35de : Cond.selects RX9 yX9_takeSquares yX9_takeSquares ∈ lw_tbl := by decide +kernel
theorem w_3d0f0e53 : Cond.selects RX9 yX9_takeText yX9_takeText ∈ lw_tbl := by decide +kernel
theorem w_9e76750b : Cond.selects RX9 yX9_tell yX9_tell ∈ lw_tbl := by decide +kernel
theorem w_f681d188 : Cond.selects RX9 yX9_trace yX9_trace ∈ lw_tbl := by decide +kernel
theorem w_7b144a4e : Cond.selects RX9 yX9_undo yX9_undo ∈ lw_tbl := by decide +kernel
theorem w_e6ce60a4 : Cond.selects RX9 yX9_wall yX9_wall ∈ lw_tbl := by decide +kernel
theorem w_f1367b12 : Cond.selects RX9 yX9_where yX9_where ∈ lw_tbl := by decide +kernel
theorem w_28f0f77f : Cond.selects RX9 yX9_would yX9_would ∈ lw_tbl := by decide +kernel
theorem w_2b433c78 : Cond.static Lib.Math.max.name ∈ lw_tbl := by decide +kernel
theorem w_86f19dd9 : Cond.static Lib.Math.min.name ∈ lw_tbl := by decide +kernel
theorem w_3dd1f063 : Cond.static arraycopyName ∈ lw_tbl := by decide +kernel
theorem w_502416df : Cond.static yJ6_bitCount_0f7a4 ∈ lw_tbl := by decide +kernel
theorem w_2d2d8990 : Cond.static yJ7_fill_53178 ∈ lw_tbl := by decide +kernel
theorem w_8898365b : Cond.static yX2_eaterByLetter ∈ lw_tbl := by decide +kernel
theorem w_f9463d08 : Cond.static yX2_signOf ∈ lw_tbl := by decide +kernel
theorem w_0f5395c2 : Cond.static yX8_codeOf ∈ lw_tbl := by decide +kernel
theorem w_d86db7ac : Cond.static yX8_findsRow ∈ lw_tbl := by decide +kernel
theorem w_88a47080 : Cond.static yX8_isBelow ∈ lw_tbl := by decide +kernel
theorem w_4e2834a4 : Cond.static yX8_isOfKind ∈ lw_tbl := by decide +kernel
theorem w_228f7011 : Cond.static yX8_mostHad ∈ lw_tbl := by decide +kernel
theorem w_3fb70167 : Cond.static yX8_peaOf ∈ lw_tbl := by decide +kernel
theorem w_98bb2dfe : Cond.static yX9_cut ∈ lw_tbl := by decide +kernel
theorem w_05d1dd81 : Cond.static yX9_divisor ∈ lw_tbl := by decide +kernel
theorem w_bf68437a : Cond.static yX9_eaterOf ∈ lw_tbl := by decide +kernel
theorem w_5ce4c31b : Cond.static yX9_in ∈ lw_tbl := by decide +kernel
theorem w_eb378f0a : Cond.static yX9_isLane ∈ lw_tbl := by decide +kernel
theorem w_641a2513 : Cond.static yX9_isSheet ∈ lw_tbl := by decide +kernel
theorem w_53a482d1 : Cond.static yX9_peaOf ∈ lw_tbl := by decide +kernel
theorem w_42dd4467 : Cond.superclass RX1 RX0 ∈ lw_tbl := by decide +kernel
theorem w_285a0fe1 : Cond.superclass RX5 RX1 ∈ lw_tbl := by decide +kernel
theorem w_2c8f4261 : mcode mJ6_bitCount ∈ lw_tbl := by decide +kernel
theorem w_06c21966 : mcode mJ7_fill ∈ lw_tbl := by decide +kernel
theorem w_31897a26 : mcode mX0_forkTelling ∈ lw_tbl := by decide +kernel
theorem w_113957b0 : mcode mX0_init ∈ lw_tbl := by decide +kernel
theorem w_df9b72bd : mcode mX0_kindNumber ∈ lw_tbl := by decide +kernel
theorem w_6684b167 : mcode mX0_polished ∈ lw_tbl := by decide +kernel
theorem w_d3529f85 : mcode mX0_pushForce ∈ lw_tbl := by decide +kernel
theorem w_4d095e74 : mcode mX0_telling ∈ lw_tbl := by decide +kernel
theorem w_3bee27b8 : mcode mX1_init ∈ lw_tbl := by decide +kernel
theorem w_c204b43f : mcode mX1_kindNumber ∈ lw_tbl := by decide +kernel
theorem w_701d6c11 : mcode mX1_pushForce ∈ lw_tbl := by decide +kernel
theorem w_33d112fa : mcode mX1_telling ∈ lw_tbl := by decide +kernel
theorem w_72277c7a : mcode mX2_changeSign ∈ lw_tbl := by decide +kernel
theorem w_a8fb4145 : mcode mX2_eaterAt ∈ lw_tbl := by decide +kernel
theorem w_22b0767e : mcode mX2_eaterByLetter ∈ lw_tbl := by decide +kernel
theorem w_03e9add1 : mcode mX2_hasPea ∈ lw_tbl := by decide +kernel
theorem w_9608baab : mcode mX2_hasSquare ∈ lw_tbl := by decide +kernel
theorem w_86a6634f : mcode mX2_init ∈ lw_tbl := by decide +kernel
theorem w_e8e38bf3 : mcode mX2_isCode ∈ lw_tbl := by decide +kernel
theorem w_21672ade : mcode mX2_isLaid ∈ lw_tbl := by decide +kernel
theorem w_c50419d2 : mcode mX2_listCodes ∈ lw_tbl := by decide +kernel
theorem w_31848161 : mcode mX2_nextTo ∈ lw_tbl := by decide +kernel
theorem w_81b53ad0 : mcode mX2_readText ∈ lw_tbl := by decide +kernel
theorem w_38ef65f5 : mcode mX2_rowCodes ∈ lw_tbl := by decide +kernel
theorem w_33744da0 : mcode mX2_signAt ∈ lw_tbl := by decide +kernel
theorem w_1ba0068d : mcode mX2_signOf ∈ lw_tbl := by decide +kernel
theorem w_82f71473 : mcode mX2_startOf ∈ lw_tbl := by decide +kernel
theorem w_7adb75d6 : mcode mX2_startsOn ∈ lw_tbl := by decide +kernel
theorem w_e0ecd545 : mcode mX2_takes ∈ lw_tbl := by decide +kernel
theorem w_7c442112 : mcode mX2_takesBehindHead ∈ lw_tbl := by decide +kernel
theorem w_d0f323cb : mcode mX2_takesEater ∈ lw_tbl := by decide +kernel
theorem w_f8b6270a : mcode mX2_takesInRow ∈ lw_tbl := by decide +kernel
theorem w_a26b82eb : mcode mX2_takesStrength ∈ lw_tbl := by decide +kernel
theorem w_8800ddaf : mcode mX2_wipe ∈ lw_tbl := by decide +kernel
theorem w_1d6c0fe3 : mcode mX3_init ∈ lw_tbl := by decide +kernel
theorem w_5e9e3911 : mcode mX3_stepsOn ∈ lw_tbl := by decide +kernel
theorem w_6f7866ec : mcode mX4_begin ∈ lw_tbl := by decide +kernel
theorem w_eb23858a : mcode mX4_cut ∈ lw_tbl := by decide +kernel
theorem w_f1c6210f : mcode mX4_drop ∈ lw_tbl := by decide +kernel
theorem w_3a62140c : mcode mX4_faultOfCell ∈ lw_tbl := by decide +kernel
theorem w_25e7a78d : mcode mX4_faultOfCells ∈ lw_tbl := by decide +kernel
theorem w_3f0bc2fd : mcode mX4_faultOfLane ∈ lw_tbl := by decide +kernel
theorem w_aaaa85a5 : mcode mX4_hasCell ∈ lw_tbl := by decide +kernel
theorem w_8f53b6bb : mcode mX4_hasCells ∈ lw_tbl := by decide +kernel
theorem w_c4fa0fb0 : mcode mX4_init ∈ lw_tbl := by decide +kernel
theorem w_a1ccb2b8 : mcode mX4_isNothing ∈ lw_tbl := by decide +kernel
theorem w_85286c0e : mcode mX4_read ∈ lw_tbl := by decide +kernel
theorem w_fd356188 : mcode mX4_write ∈ lw_tbl := by decide +kernel
theorem w_158e76c9 : mcode mX5_init ∈ lw_tbl := by decide +kernel
theorem w_91b7a681 : mcode mX5_kindNumber ∈ lw_tbl := by decide +kernel
theorem w_18b33b95 : mcode mX5_polished ∈ lw_tbl := by decide +kernel
theorem w_b1efd180 : mcode mX5_pushForce ∈ lw_tbl := by decide +kernel
theorem w_2ab3e196 : mcode mX5_telling ∈ lw_tbl := by decide +kernel
theorem w_47a4991c : mcode mX6_beginOn ∈ lw_tbl := by decide +kernel
theorem w_0482751c : mcode mX6_behindLine ∈ lw_tbl := by decide +kernel
theorem w_9ec16432 : mcode mX6_comeToRim ∈ lw_tbl := by decide +kernel
theorem w_c07ed38b : mcode mX6_copyFrom ∈ lw_tbl := by decide +kernel
theorem w_b0123df9 : mcode mX6_countHad ∈ lw_tbl := by decide +kernel
theorem w_652479d7 : mcode mX6_countHolds ∈ lw_tbl := by decide +kernel
theorem w_533a7e9f : mcode mX6_elsewhereThan ∈ lw_tbl := by decide +kernel
theorem w_33a16cb7 : mcode mX6_firstHold ∈ lw_tbl := by decide +kernel
theorem w_c2a5860d : mcode mX6_heldSet ∈ lw_tbl := by decide +kernel
theorem w_d54b8706 : mcode mX6_holdsAny ∈ lw_tbl := by decide +kernel
theorem w_cb9baebc : mcode mX6_init ∈ lw_tbl := by decide +kernel
theorem w_7a1863dc : mcode mX6_isHad ∈ lw_tbl := by decide +kernel
theorem w_729baa71 : mcode mX6_isHeld ∈ lw_tbl := by decide +kernel
theorem w_6d0efb0e : mcode mX6_isOn ∈ lw_tbl := by decide +kernel
theorem w_deaef7c2 : mcode mX6_peaOn ∈ lw_tbl := by decide +kernel
theorem w_cb137179 : mcode mX6_pushByCode ∈ lw_tbl := by decide +kernel
theorem w_3f821e7b : mcode mX6_roll ∈ lw_tbl := by decide +kernel
theorem w_27d3a9b4 : mcode mX6_spotOf ∈ lw_tbl := by decide +kernel
theorem w_6a38a4e2 : mcode mX7_init ∈ lw_tbl := by decide +kernel
theorem w_5ae55cb4 : mcode mX7_leave ∈ lw_tbl := by decide +kernel
theorem w_3a1cd55d : mcode mX8_areCodes ∈ lw_tbl := by decide +kernel
theorem w_4579aa2f : mcode mX8_as ∈ lw_tbl := by decide +kernel
theorem w_9b637135 : mcode mX8_back ∈ lw_tbl := by decide +kernel
theorem w_a3d8c868 : mcode mX8_cell ∈ lw_tbl := by decide +kernel
theorem w_a4b0e994 : mcode mX8_codeOf ∈ lw_tbl := by decide +kernel
theorem w_8c97c44b : mcode mX8_copy ∈ lw_tbl := by decide +kernel
theorem w_37ff0be2 : mcode mX8_failed ∈ lw_tbl := by decide +kernel
theorem w_9c3269dc : mcode mX8_fault ∈ lw_tbl := by decide +kernel
theorem w_2d07635b : mcode mX8_fewest ∈ lw_tbl := by decide +kernel
theorem w_66f52bc3 : mcode mX8_findsRow ∈ lw_tbl := by decide +kernel
theorem w_01d2e06d : mcode mX8_hadByRow ∈ lw_tbl := by decide +kernel
theorem w_284b10de : mcode mX8_init ∈ lw_tbl := by decide +kernel
theorem w_0ad6fa7a : mcode mX8_isBelow ∈ lw_tbl := by decide +kernel
theorem w_813a0d32 : mcode mX8_isOfKind ∈ lw_tbl := by decide +kernel
theorem w_6148c8a4 : mcode mX8_last ∈ lw_tbl := by decide +kernel
theorem w_f61db1bf : mcode mX8_law ∈ lw_tbl := by decide +kernel
theorem w_cd3e44e3 : mcode mX8_laws ∈ lw_tbl := by decide +kernel
theorem w_00356ca3 : mcode mX8_lose ∈ lw_tbl := by decide +kernel
theorem w_7c1024ad : mcode mX8_many ∈ lw_tbl := by decide +kernel
theorem w_1327071e : mcode mX8_most ∈ lw_tbl := by decide +kernel
theorem w_937234f6 : mcode mX8_mostHad ∈ lw_tbl := by decide +kernel
theorem w_dca8343a : mcode mX8_never ∈ lw_tbl := by decide +kernel
theorem w_a4009c2f : mcode mX8_odds ∈ lw_tbl := by decide +kernel
theorem w_df6e45ec : mcode mX8_ofEater ∈ lw_tbl := by decide +kernel
theorem w_d05ca07e : mcode mX8_peaOf ∈ lw_tbl := by decide +kernel
theorem w_0377dca2 : mcode mX8_peas ∈ lw_tbl := by decide +kernel
theorem w_289bd0b1 : mcode mX8_plate ∈ lw_tbl := by decide +kernel
theorem w_5abd29d2 : mcode mX8_polish ∈ lw_tbl := by decide +kernel
theorem w_c0182a08 : mcode mX8_push ∈ lw_tbl := by decide +kernel
theorem w_c246fb65 : mcode mX8_put ∈ lw_tbl := by decide +kernel
theorem w_da414baf : mcode mX8_reading ∈ lw_tbl := by decide +kernel
theorem w_02c4a391 : mcode mX8_readingsAreSo ∈ lw_tbl := by decide +kernel
theorem w_5f0f55b8 : mcode mX8_refusalOfPush ∈ lw_tbl := by decide +kernel
theorem w_a83199d0 : mcode mX8_replay ∈ lw_tbl := by decide +kernel
theorem w_df0ac91a : mcode mX8_replayNow ∈ lw_tbl := by decide +kernel
theorem w_c7156879 : mcode mX8_row ∈ lw_tbl := by decide +kernel
theorem w_64c4251e : mcode mX8_set ∈ lw_tbl := by decide +kernel
theorem w_9efdad91 : mcode mX8_sheet ∈ lw_tbl := by decide +kernel
theorem w_00eb120b : mcode mX8_sheetAt ∈ lw_tbl := by decide +kernel
theorem w_fca8ca51 : mcode mX8_sign ∈ lw_tbl := by decide +kernel
theorem w_9cba3c28 : mcode mX8_takeDraft ∈ lw_tbl := by decide +kernel
theorem w_e9fd5f2a : mcode mX8_tell ∈ lw_tbl := by decide +kernel
theorem w_fe6081f9 : mcode mX8_trace ∈ lw_tbl := by decide +kernel
theorem w_74e578ef : mcode mX8_undo ∈ lw_tbl := by decide +kernel
theorem w_051d2f39 : mcode mX8_wall ∈ lw_tbl := by decide +kernel
theorem w_98623c36 : mcode mX8_where ∈ lw_tbl := by decide +kernel
theorem w_762f58b7 : mcode mX8_would ∈ lw_tbl := by decide +kernel
theorem w_86fed9e5 : mcode mX9_areCodes ∈ lw_tbl := by decide +kernel
theorem w_273da94a : mcode mX9_areSo ∈ lw_tbl := by decide +kernel
theorem w_df9c992e : mcode mX9_as ∈ lw_tbl := by decide +kernel
theorem w_d39b140c : mcode mX9_back ∈ lw_tbl := by decide +kernel
theorem w_e7fcd986 : mcode mX9_begin ∈ lw_tbl := by decide +kernel
theorem w_1cb8cc7b : mcode mX9_cell ∈ lw_tbl := by decide +kernel
theorem w_4becfae2 : mcode mX9_copy ∈ lw_tbl := by decide +kernel
theorem w_8579de7e : mcode mX9_cut ∈ lw_tbl := by decide +kernel
theorem w_5c3fafb8 : mcode mX9_divisor ∈ lw_tbl := by decide +kernel
theorem w_17231051 : mcode mX9_doPush ∈ lw_tbl := by decide +kernel
theorem w_5782e86d : mcode mX9_eaterOf ∈ lw_tbl := by decide +kernel
theorem w_c2e24625 : mcode mX9_fails ∈ lw_tbl := by decide +kernel
theorem w_4a99e7b8 : mcode mX9_fault ∈ lw_tbl := by decide +kernel
theorem w_c5927955 : mcode mX9_faultOf ∈ lw_tbl := by decide +kernel
theorem w_934ae702 : mcode mX9_fewest ∈ lw_tbl := by decide +kernel
theorem w_32782ffc : mcode mX9_findFewest ∈ lw_tbl := by decide +kernel
theorem w_baf57f77 : mcode mX9_findThree ∈ lw_tbl := by decide +kernel
theorem w_752a525f : mcode mX9_forceOf ∈ lw_tbl := by decide +kernel
theorem w_afa52cf9 : mcode mX9_forkTells ∈ lw_tbl := by decide +kernel
theorem w_df647254 : mcode mX9_goThrough ∈ lw_tbl := by decide +kernel
theorem w_64494912 : mcode mX9_hadNow ∈ lw_tbl := by decide +kernel
theorem w_e83b55c6 : mcode mX9_in ∈ lw_tbl := by decide +kernel
theorem w_62ebda4a : mcode mX9_init ∈ lw_tbl := by decide +kernel
theorem w_f8506253 : mcode mX9_isCode ∈ lw_tbl := by decide +kernel
theorem w_abed6a1a : mcode mX9_isEater ∈ lw_tbl := by decide +kernel
theorem w_c6ad98be : mcode mX9_isHeld ∈ lw_tbl := by decide +kernel
theorem w_1fa19161 : mcode mX9_isLane ∈ lw_tbl := by decide +kernel
theorem w_73ea68d6 : mcode mX9_isPea ∈ lw_tbl := by decide +kernel
theorem w_b3532e3c : mcode mX9_isPush ∈ lw_tbl := by decide +kernel
theorem w_763ecf4b : mcode mX9_isSheet ∈ lw_tbl := by decide +kernel
theorem w_42a4be99 : mcode mX9_isSquare ∈ lw_tbl := by decide +kernel
theorem w_dd648d74 : mcode mX9_knifeTells ∈ lw_tbl := by decide +kernel
theorem w_b9c9d380 : mcode mX9_last ∈ lw_tbl := by decide +kernel
theorem w_98fb2934 : mcode mX9_lastPush ∈ lw_tbl := by decide +kernel
theorem w_4beeeac0 : mcode mX9_law ∈ lw_tbl := by decide +kernel
theorem w_afdfc3ad : mcode mX9_laws ∈ lw_tbl := by decide +kernel
theorem w_4d5a5283 : mcode mX9_load ∈ lw_tbl := by decide +kernel
theorem w_7b2d0563 : mcode mX9_lose ∈ lw_tbl := by decide +kernel
theorem w_eabaefeb : mcode mX9_lost ∈ lw_tbl := by decide +kernel
theorem w_f8317002 : mcode mX9_many ∈ lw_tbl := by decide +kernel
theorem w_0532d7a9 : mcode mX9_most ∈ lw_tbl := by decide +kernel
theorem w_1cb5fe29 : mcode mX9_mostByOne ∈ lw_tbl := by decide +kernel
theorem w_7f50bcb6 : mcode mX9_mostByThree ∈ lw_tbl := by decide +kernel
theorem w_717d7a13 : mcode mX9_mostByTwo ∈ lw_tbl := by decide +kernel
theorem w_55347341 : mcode mX9_never ∈ lw_tbl := by decide +kernel
theorem w_e69b5a0d : mcode mX9_next ∈ lw_tbl := by decide +kernel
theorem w_be4a7f34 : mcode mX9_odds ∈ lw_tbl := by decide +kernel
theorem w_51a409a0 : mcode mX9_ofEater ∈ lw_tbl := by decide +kernel
theorem w_39f63401 : mcode mX9_peaAt ∈ lw_tbl := by decide +kernel
theorem w_5702c576 : mcode mX9_peaOf ∈ lw_tbl := by decide +kernel
theorem w_8beff006 : mcode mX9_peas ∈ lw_tbl := by decide +kernel
theorem w_b1626c8f : mcode mX9_plate ∈ lw_tbl := by decide +kernel
theorem w_9196540a : mcode mX9_polish ∈ lw_tbl := by decide +kernel
theorem w_61c85ded : mcode mX9_push ∈ lw_tbl := by decide +kernel
theorem w_3b565a15 : mcode mX9_put ∈ lw_tbl := by decide +kernel
theorem w_7063d60c : mcode mX9_reading ∈ lw_tbl := by decide +kernel
theorem w_ecf489a3 : mcode mX9_refused ∈ lw_tbl := by decide +kernel
theorem w_96f70465 : mcode mX9_roll ∈ lw_tbl := by decide +kernel
theorem w_f852307c : mcode mX9_row ∈ lw_tbl := by decide +kernel
theorem w_790de8f6 : mcode mX9_save ∈ lw_tbl := by decide +kernel
theorem w_cb4753f3 : mcode mX9_set ∈ lw_tbl := by decide +kernel
theorem w_d4e0142c : mcode mX9_setOf ∈ lw_tbl := by decide +kernel
theorem w_dd8516b5 : mcode mX9_sheet ∈ lw_tbl := by decide +kernel
theorem w_4c3683a3 : mcode mX9_sign ∈ lw_tbl := by decide +kernel
theorem w_13b414ab : mcode mX9_spoonTells ∈ lw_tbl := by decide +kernel
theorem w_2815cb20 : mcode mX9_startsAt ∈ lw_tbl := by decide +kernel
theorem w_55bc0b5c : mcode mX9_take ∈ lw_tbl := by decide +kernel
theorem w_3cc620b1 : mcode mX9_takeEater ∈ lw_tbl := by decide +kernel
theorem w_2626f95f : mcode mX9_takeSquare ∈ lw_tbl := by decide +kernel
theorem w_6632bf3e : mcode mX9_takeSquares ∈ lw_tbl := by decide +kernel
theorem w_d1c74736 : mcode mX9_takeText ∈ lw_tbl := by decide +kernel
theorem w_7110eb82 : mcode mX9_tell ∈ lw_tbl := by decide +kernel
theorem w_440f4751 : mcode mX9_trace ∈ lw_tbl := by decide +kernel
theorem w_0deb985c : mcode mX9_undo ∈ lw_tbl := by decide +kernel
theorem w_b310b6df : mcode mX9_wall ∈ lw_tbl := by decide +kernel
theorem w_6fee7bcc : mcode mX9_where ∈ lw_tbl := by decide +kernel
theorem w_f79cda01 : mcode mX9_would ∈ lw_tbl := by decide +kernel
end
section
/-! THE MINI MACHINE: values and stores whose addresses are (kind, instance); what a heap has to do with a store; M: from here the machine comes to its return. -/
abbrev MA : Type := Nat × Nat
abbrev MV : Type := Int32 ⊕ (Int64 ⊕ Option MA)
abbrev Sto : Type := (Nat → Nat → Nat → Int32) × (Nat → Nat → Nat → Option MA) × (Nat → Nat)
abbrev vi (x : Int32) : MV := Sum.inl x
abbrev vl (x : Int64) : MV := Sum.inr (Sum.inl x)
abbrev vq (r : Option MA) : MV := Sum.inr (Sum.inr r)
def gI (σ : Sto) (k i j : Nat) : Int32 := σ.1 k i j
def gR (σ : Sto) (k i j : Nat) : Option MA := σ.2.1 k i j
def gN (σ : Sto) (k : Nat) : Nat := σ.2.2 k
def sI (σ : Sto) (k i j : Nat) (v : Int32) : Sto := (fun a b c => if a = k ∧ b = i ∧ c = j then v else σ.1 a b c, σ.2.1, σ.2.2)
def sR (σ : Sto) (k i j : Nat) (v : Option MA) : Sto := (σ.1, fun a b c => if a = k ∧ b = i ∧ c = j then v else σ.2.1 a b c, σ.2.2)
def sN (σ : Sto) (k : Nat) : Sto := (fun a b c => if a = k ∧ b = σ.2.2 k then 0 else σ.1 a b c, fun a b c => if a = k ∧ b = σ.2.2 k then none else σ.2.1 a b c, fun a => if a = k then σ.2.2 k + 1 else σ.2.2 a)
/-- how many slots a cell of a kind has: kinds 0 to 9 are objects of the class of that number in vwCl, 10 to 41 arrays, 42 to 45 static arrays, 46 the script -/
def mlen (L k : Nat) : Nat := if k = 46 then L else ([2,2,12,2,3,2,5,1,14,33,40,30,5,2,2,2,5,3,3,60,30,8,8,4,30,5,2,2,30,8,8,4,4,240,60,30,5,2,2,5,15,3,4,4,5,5] : List Nat).getD k 0
def mobjR : List (List Bool) := [[false,false],[false,false],[false,false,false,false,false,true,true,true,true,true,true,false],[true,true],[true,false,false],[false,false],[true,false,false,false,true],[false],[true,true,false,true,false,true,true,false,true,true,true,true,true,false],
  [false,false,true,false,true,false,true,true,false,false,true,false,true,true,false,false,true,true,true,true,false,false,false,false,false,true,true,false,true,true,true,true,true]]
def mref (k j : Nat) : Bool := match mobjR[k]? with
  | some l => l.getD j false
  | none => Nat.beq k 13 || Nat.beq k 17 || Nat.beq k 23
def mety (k : Nat) : FieldType := if mref k 0 = true then .object (melc k) else .int
/-- references that never change once they are made: which cell they name -/
def mfinT : List (List (Option (Nat × Option Nat))) := [[], [], [none, none, none, none, none, some (10, none), some (11, none), some (12, none), some (13, none), some (14, none), some (15, none)], [some (17, none), some (18, none)], [some (19, none)], [], [none, none, none, none, some (16, none)], [],
  [none, none, none, some (20, none), none, some (21, none), some (22, none), none, some (6, some 0), some (6, some 1), some (3, none), some (23, none), some (7, none)],
  [none, none, some (24, none), none, some (25, none), none, some (26, none), some (27, none), none, none, some (28, none), none, some (29, none), some (30, none), none, none, some (31, none), some (32, none), some (33, none), some (34, none), none, none, none, none, none, some (35, none), some (36, none), none, some (37, none), some (38, none), some (39, none), some (40, none), some (41, none)]]
def mfin (k i j : Nat) : Option MA := match mfinT[k]? with
  | some l => match l[j]? with
    | some (some (a, some b)) => some (a, b)
    | some (some (a, none)) => some (a, i)
    | _ => none
  | none => if k = 17 then some (6, j + 2) else if k = 23 then some (4, j) else none
/-- a reference as it is read: in the phase 'true' (all is made) those that never change are known -/
def mrf (ph : Bool) (σ : Sto) (k i j : Nat) : Option MA := match ph with
  | false => gR σ k i j
  | true => match mfin k i j with
    | some a => some a
    | none => gR σ k i j
def sv (ph : Bool) (σ : Sto) (k i j : Nat) : MV := match mref k j with
  | true => vq (mrf ph σ k i j)
  | false => vi (gI σ k i j)
def mv (ad : MA → Option Nat) (v : MV) : Option Value := match v with
  | .inl x => some (.int x)
  | .inr (.inl x) => some (.long x)
  | .inr (.inr none) => some .null
  | .inr (.inr (some a)) => (ad a).map Value.ref
def mcat (v : MV) : Nat := match v with
  | .inr (.inl _) => 2
  | _ => 1
abbrev GG : Type := Nat × Nat × va_G
def mhdr (Γ : GG) (s : State) (k : Nat) (cell : Cell) : Prop :=
  if k < 10 then cell.cls = Γ.2.2.1 k ∧ cell.vm = .none
  else s.isArrayOf cell (mety k) ∧ cell.vm ≠ .unknown ∧ (mlen Γ.2.1 k ≤ cell.slots.size ∧ cell.slots.size.toInt32 = Int32.ofNat (mlen Γ.2.1 k)) ∧ (mref k 0 = true → ∃ (kA : Class) (comp : ClassId), s.vm.classes[cell.cls]? = some kA ∧ kA.kind = .array comp (mety k) ∧ s.vm.findClass (melc k) = some comp)
def mpl (Γ : GG) (k j : Nat) : Nat := if k < 10 then Γ.2.2.2 k j else j
def mcell (ph : Bool) (Γ : GG) (s : State) (ad : MA → Option Nat) (σ : Sto) (H : Heap) (k i q : Nat) : Prop :=
  ∃ cell : Cell, H[q]? = some cell ∧ mhdr Γ s k cell ∧ ∀ j, j < mlen Γ.2.1 k → ∃ v, mv ad (sv ph σ k i j) = some v ∧ cell.slots[mpl Γ k j]? = some v
def Rep (ph : Bool) (Γ : GG) (s : State) (ad : MA → Option Nat) (σ : Sto) (H : Heap) : Prop :=
  (∀ (a b : MA) q, a.1 < 42 → ad a = some q → ad b = some q → a = b) ∧ (∀ k i q, ad (k, i) = some q → mcell ph Γ s ad σ H k i q ∧ (k < 42 → Γ.1 ≤ q ∧ i < gN σ k)) ∧ Γ.1 ≤ H.size
def nestW (w : Cond) : Bool := match w with
  | .methodLinkNest .. => true
  | .fieldLinkNest .. => true
  | _ => false
/-- what the tables say, at any state of the run -/
def mG (Γ : GG) (s : State) : Prop :=
  (∀ w ∈ lw_tbl, goodWord w = true → ∀ a : Array Value, w.before a s = true) ∧ (∀ w ∈ lw_tbl, nestW w = true → va_Nw w s) ∧ (∀ (c : Nat) (q : vw_C), vwCl[c]? = some q → u_Kn s q.1 q.2.1 q.2.2 (Γ.2.2.1 c) (Γ.2.2.2 c)) ∧
  (va_AO "PlatePeas$Sheet" s ∧ va_AO "PlatePeas$Fork" s ∧ va_AO "PlatePeas$Spots" s) ∧ (va_Nw (.castable "PlatePeas$Knife" "PlatePeas$Fork") s ∧ va_Nw (.castable "PlatePeas$Spoon" "PlatePeas$Fork") s ∧ va_Nw (.castable "PlatePeas$Spoon" "PlatePeas$Knife") s) ∧
  (va_Nc "PlatePeas$Fork" "PlatePeas$Knife" s ∧ va_Nc "PlatePeas$Fork" "PlatePeas$Spoon" s ∧ va_Nc "PlatePeas$Knife" "PlatePeas$Spoon" s)
def mstats : List (Nat × String) := [(42, "DOWN"), (43, "ACROSS"), (44, "UPPER"), (45, "LOWER")]
def mst (Γ : GG) (s : State) (ad : MA → Option Nat) (H : Heap) : Prop := ∀ x ∈ mstats, ∃ q, ad (x.1, 0) = some q ∧ va_Z "PlatePeas" x.2 "[I" (.ref q) (fun a => Γ.1 ≤ a) s H
def mctx (y : Mth) (p : Program) (s : State) (m : MethodId) (meth : Method) (c : Code) : Prop :=
  p.tables.exec = Jvm.exec ∧ c.code = y.2.1 ∧ meth.sig.returnType = y.2.2.2 ∧ c.maxLocals = y.2.2.1 ∧ s.vm.findClass y.1.cls = some m.cls ∧ meth.locks = false ∧ meth.name = y.1.name
def mloc (ad : MA → Option Nat) (ls : Array Slot) (n : Nat) (L : List (Option MV)) : Prop := (ls.size = n ∧ L.length = n) ∧ lv_wf ls ∧ ∀ (k : Nat) (v : MV), L[k]? = some (some v) → ∃ rv, mv ad v = some rv ∧ ls[k]? = some (.val rv)
def mQ (ph : Bool) (Γ : GG) (Q : Option MV → Sto → Prop) (ad0 : MA → Option Nat) : Array Value → State → Outcome → State → Prop := fun _ st oc t =>
  ∃ (v : Option MV) (rv : Option Value) (σ : Sto) (ad : MA → Option Nat), oc = .returned rv ∧ v.map (mv ad) = rv.map some ∧ Q v σ ∧ (∀ a q, ad0 a = some q → ad a = some q) ∧ Rep ph Γ t ad σ t.heap ∧ st.heap.size ≤ t.heap.size ∧ ∀ q, q < Γ.1 → t.heap[q]? = st.heap[q]?
abbrev mRm (d mc ms : Nat) : Room := { frames := d, cells := mc, slots := ms, locals := 64 * d }
abbrev mA (Γ : GG) : Nat → Prop := fun q => Γ.1 ≤ q
/-- from this frame and store the machine comes to the method's return, with Q -/
def M (ph : Bool) (Γ : GG) (y : Mth) (d mc ms kc ks : Nat) (Q : Option MV → Sto → Prop) (pc : Nat) (L : List (Option MV)) (S : List MV) (σ : Sto) : Prop :=
  ∀ (p : Program) (l : Launch) (e : Env) (s : State) (m : MethodId) (args : Array Value) (below : List Frame) (meth : Method) (c : Code) (H : Heap) (locs : List Loc) (ad0 ad : MA → Option Nat) (ls : Array Slot) (st : List Value),
    mctx y p s m meth c → mG Γ s → mst Γ s ad0 s.heap → (∀ a q, ad0 a = some q → ad a = some q) → Rep ph Γ s ad σ H → va_S (mA Γ) s.heap H locs → Γ.1 ≤ s.heap.size → mloc ad ls y.2.2.1 L → S.map (mv ad) = st.map some →
    W p l e (mRm d mc ms) s m args below meth c H locs kc ks (MQ below (mQ ph Γ Q ad0) args s mc ms (mA Γ)) (F0 m pc ls st)
def mP (ph : Bool) (Γ : GG) (ad : MA → Option Nat) (σ : Sto) (ras : List Value) : Array Value → State → Prop := fun a U => a = ras.toArray ∧ mG Γ U ∧ mst Γ U ad U.heap ∧ Rep ph Γ U ad σ U.heap
/-- a method's contract: from this store and these arguments -/
def Ct (ph : Bool) (Γ : GG) (y : Mth) (d mc ms : Nat) (as : List MV) (σ : Sto) (Q : Option MV → Sto → Prop) : Prop :=
  ∀ (l : Launch) (ad : MA → Option Nat) (ras : List Value), as.map (mv ad) = ras.map some → Met l y.1 [mcode y] (mRm d mc ms) (mP ph Γ ad σ ras) (mQ ph Γ Q ad) mc ms (mA Γ)
/-! what doesn't change when the tables warm -/
theorem mG.warm {Γ : GG} {s U : State} (hW : s.WarmedH U.vm) (h : mG Γ s) : mG Γ U := by
  obtain ⟨h1, h2, h3, ⟨a1, a2, a3⟩, ⟨b1, b2, b3⟩, ⟨c1, c2, c3⟩⟩ := h
  have hal := hW.alike
  refine ⟨fun w hw hg a => word_at hW (good_of_word hg) (h1 w hw hg #[]), fun w hw hn => ?_, fun c q hq => u_Kn_moved hal (h3 c q hq), ⟨a1.moved hal, a2.moved hal, a3.moved hal⟩, ?_, ⟨c1.moved hal, c2.moved hal, c3.moved hal⟩⟩
  · have h := h2 w hw hn
    cases w <;> first | (simp [nestW] at hn; done) | exact va_Nw.warmM hW h | exact va_Nw.warmF hW h
  · exact ⟨b1.warmC hW, b2.warmC hW, b3.warmC hW⟩
theorem mst.warm {Γ : GG} {s U : State} {ad : MA → Option Nat} {H : Heap} (hal : s.vm.Alike U.vm) (h : mst Γ s ad H) : mst Γ U ad H := fun x hx => by
  obtain ⟨q, h1, h2⟩ := h x hx
  exact ⟨q, h1, h2.moved hal⟩
theorem mst.kept {Γ : GG} {s : State} {ad : MA → Option Nat} {H H1 : Heap} (h : mst Γ s ad H) (hk : ∀ q, q < Γ.1 → H1[q]? = H[q]?) : mst Γ s ad H1 := fun x hx => by
  obtain ⟨q, h1, h2⟩ := h x hx
  exact ⟨q, h1, h2.kept (fun a _ ha => hk a (Nat.not_le.mp ha))⟩
theorem mst.ext {Γ : GG} {s : State} {ad ad' : MA → Option Nat} {H : Heap} (h : mst Γ s ad H) (he : ∀ a q, ad a = some q → ad' a = some q) : mst Γ s ad' H := fun x hx => by
  obtain ⟨q, h1, h2⟩ := h x hx
  exact ⟨q, he _ _ h1, h2⟩
theorem mhdr.warm {Γ : GG} {s U : State} {k : Nat} {cell : Cell} (hal : s.vm.Alike U.vm) (h : mhdr Γ s k cell) : mhdr Γ U k cell := by
  unfold mhdr at h ⊢
  split
  · rw [if_pos (by assumption)] at h; exact h
  · rw [if_neg (by assumption)] at h
    obtain ⟨h1, h2, h3, h4⟩ := h
    refine ⟨State.isArrayOf_alike hal h1, h2, h3, fun hr => ?_⟩
    obtain ⟨kA, comp, g1, g2, g3⟩ := h4 hr
    obtain ⟨k', hk', he⟩ := hal.2.2 _ _ g1
    exact ⟨k', comp, hk', by rw [he]; exact g2, by rw [hal.findClass]; exact g3⟩
theorem Rep.warm {ph : Bool} {Γ : GG} {s U : State} {ad : MA → Option Nat} {σ : Sto} {H : Heap} (hal : s.vm.Alike U.vm) (h : Rep ph Γ s ad σ H) : Rep ph Γ U ad σ H := by
  refine ⟨h.1, fun k i q hq => ?_, h.2.2⟩
  obtain ⟨⟨cell, h1, h2, h3⟩, h4⟩ := h.2.1 k i q hq
  exact ⟨⟨cell, h1, h2.warm hal, h3⟩, h4⟩
theorem mv_ext {ad ad' : MA → Option Nat} (he : ∀ a q, ad a = some q → ad' a = some q) {v : MV} {rv : Value} (h : mv ad v = some rv) : mv ad' v = some rv := by
  rcases v with x | x | (_ | a)
  · exact h
  · exact h
  · exact h
  · simp only [mv, Option.map_eq_some_iff] at h ⊢
    obtain ⟨q, h1, h2⟩ := h
    exact ⟨q, he _ _ h1, h2⟩
theorem mv_exts {ad ad' : MA → Option Nat} (he : ∀ a q, ad a = some q → ad' a = some q) : ∀ {S : List MV} {st : List Value}, S.map (mv ad) = st.map some → S.map (mv ad') = st.map some
  | [], [], _ => rfl
  | [], _ :: _, h => by simp at h
  | _ :: _, [], h => by simp at h
  | v :: S, r :: st, h => by
    simp only [List.map_cons, List.cons.injEq] at h ⊢
    exact ⟨mv_ext he h.1, mv_exts he h.2⟩
theorem mloc.ext {ad ad' : MA → Option Nat} (he : ∀ a q, ad a = some q → ad' a = some q) {ls : Array Slot} {n : Nat} {L : List (Option MV)} (h : mloc ad ls n L) : mloc ad' ls n L :=
  ⟨h.1, h.2.1, fun k v hk => by obtain ⟨rv, h1, h2⟩ := h.2.2 k v hk; exact ⟨rv, mv_ext he h1, h2⟩⟩
end
section
/-! THE STEPS, one instruction a row -/
theorem mk_top {ad : MA → Option Nat} {v : MV} {S : List MV} {st : List Value} (h : (v :: S).map (mv ad) = st.map some) : ∃ (r : Value) (st' : List Value), st = r :: st' ∧ mv ad v = some r ∧ S.map (mv ad) = st'.map some := by
  cases st with
  | nil => simp at h
  | cons r st' =>
    simp only [List.map_cons, List.cons.injEq] at h
    exact ⟨r, st', rfl, h.1, h.2⟩
theorem mk_i {ad : MA → Option Nat} {x : Int32} {S : List MV} {st : List Value} (h : (vi x :: S).map (mv ad) = st.map some) : ∃ st' : List Value, st = .int x :: st' ∧ S.map (mv ad) = st'.map some := by
  obtain ⟨r, st', rfl, h1, h2⟩ := mk_top h
  cases h1
  exact ⟨st', rfl, h2⟩
theorem mk_l {ad : MA → Option Nat} {x : Int64} {S : List MV} {st : List Value} (h : (vl x :: S).map (mv ad) = st.map some) : ∃ st' : List Value, st = .long x :: st' ∧ S.map (mv ad) = st'.map some := by
  obtain ⟨r, st', rfl, h1, h2⟩ := mk_top h
  cases h1
  exact ⟨st', rfl, h2⟩
theorem mk_q {ad : MA → Option Nat} {x : Option MA} {r : Value} (h : mv ad (vq x) = some r) : (x = none ∧ r = .null) ∨ ∃ a q, x = some a ∧ ad a = some q ∧ r = .ref q := by
  cases x with
  | none => cases h; exact Or.inl ⟨rfl, rfl⟩
  | some a =>
    simp only [mv, Option.map_eq_some_iff] at h
    obtain ⟨q, h1, h2⟩ := h
    exact Or.inr ⟨a, q, rfl, h1, h2.symm⟩
theorem mk_r {ad : MA → Option Nat} {a : MA} {S : List MV} {st : List Value} (h : (vq (some a) :: S).map (mv ad) = st.map some) : ∃ (q : Nat) (st' : List Value), st = .ref q :: st' ∧ ad a = some q ∧ S.map (mv ad) = st'.map some := by
  obtain ⟨r, st', rfl, h1, h2⟩ := mk_top h
  rcases mk_q h1 with ⟨e, -⟩ | ⟨a', q, e, h3, rfl⟩
  · cases e
  · cases e; exact ⟨q, st', rfl, h3, h2⟩
section Steps1
variable {ph : Bool} {Γ : GG} {y : Mth} {d mc ms kc ks : Nat} {Q : Option MV → Sto → Prop} {pc : Nat} {L : List (Option MV)} {S : List MV} {σ : Sto}
theorem M_iconst {n : Int} (hd : decode y.2.1 pc = .ok (.iconst n, 1)) (k : M ph Γ y d mc ms kc ks Q (pc + 1) L (vi (Int32.ofInt n) :: S) σ) : M ph Γ y d mc ms kc ks Q pc L S σ := by
  intro p l e s m args below meth c H locs ad0 ad ls st hc hG hst he hR hS hB hl hk
  exact lv_iconst hc.1 hc.2.1 hd rfl (k p l e s m args below meth c H locs ad0 ad ls _ hc hG hst he hR hS hB hl (by simp [mv, hk]))
theorem M_bipush {n : Int} (hd : decode y.2.1 pc = .ok (.bipush n, 2)) (k : M ph Γ y d mc ms kc ks Q (pc + 2) L (vi (Int8.ofInt n).toInt32 :: S) σ) : M ph Γ y d mc ms kc ks Q pc L S σ := by
  intro p l e s m args below meth c H locs ad0 ad ls st hc hG hst he hR hS hB hl hk
  exact lv_bipush hc.1 hc.2.1 hd rfl (k p l e s m args below meth c H locs ad0 ad ls _ hc hG hst he hR hS hB hl (by simp [mv, hk]))
theorem M_sipush {n : Int} (hd : decode y.2.1 pc = .ok (.sipush n, 3)) (k : M ph Γ y d mc ms kc ks Q (pc + 3) L (vi (Int16.ofInt n).toInt32 :: S) σ) : M ph Γ y d mc ms kc ks Q pc L S σ := by
  intro p l e s m args below meth c H locs ad0 ad ls st hc hG hst he hR hS hB hl hk
  exact lv_sipush hc.1 hc.2.1 hd rfl (k p l e s m args below meth c H locs ad0 ad ls _ hc hG hst he hR hS hB hl (by simp [mv, hk]))
theorem M_lconst {n : Fin 2} (hd : decode y.2.1 pc = .ok (.lconst n, 1)) (k : M ph Γ y d mc ms kc ks Q (pc + 1) L (vl (Int64.ofNat n) :: S) σ) : M ph Γ y d mc ms kc ks Q pc L S σ := by
  intro p l e s m args below meth c H locs ad0 ad ls st hc hG hst he hR hS hB hl hk
  exact lv_lconst hc.1 hc.2.1 hd rfl (k p l e s m args below meth c H locs ad0 ad ls _ hc hG hst he hR hS hB hl (by simp [mv, hk]))
theorem M_null (hd : decode y.2.1 pc = .ok (.aconst_null, 1)) (k : M ph Γ y d mc ms kc ks Q (pc + 1) L (vq none :: S) σ) : M ph Γ y d mc ms kc ks Q pc L S σ := by
  intro p l e s m args below meth c H locs ad0 ad ls st hc hG hst he hR hS hB hl hk
  exact lv_null hc.1 hc.2.1 hd (k p l e s m args below meth c H locs ad0 ad ls _ hc hG hst he hR hS hB hl (by simp [mv, hk]))
theorem M_iload_n {n : Fin 4} {x : Int32} (hd : decode y.2.1 pc = .ok (.iload_n n, 1)) (hL : L[(n : Nat)]? = some (some (vi x))) (k : M ph Γ y d mc ms kc ks Q (pc + 1) L (vi x :: S) σ) : M ph Γ y d mc ms kc ks Q pc L S σ := by
  intro p l e s m args below meth c H locs ad0 ad ls st hc hG hst he hR hS hB hl hk
  obtain ⟨rv, h1, h2⟩ := hl.2.2 _ _ hL
  cases h1
  exact lv_iload_n hc.1 hc.2.1 hd rfl h2 (k p l e s m args below meth c H locs ad0 ad ls _ hc hG hst he hR hS hB hl (by simp [mv, hk]))
theorem M_iload {n : Nat} {x : Int32} (hd : decode y.2.1 pc = .ok (.iload n, 2)) (hL : L[n]? = some (some (vi x))) (k : M ph Γ y d mc ms kc ks Q (pc + 2) L (vi x :: S) σ) : M ph Γ y d mc ms kc ks Q pc L S σ := by
  intro p l e s m args below meth c H locs ad0 ad ls st hc hG hst he hR hS hB hl hk
  obtain ⟨rv, h1, h2⟩ := hl.2.2 _ _ hL
  cases h1
  exact lv_iload hc.1 hc.2.1 hd h2 (k p l e s m args below meth c H locs ad0 ad ls _ hc hG hst he hR hS hB hl (by simp [mv, hk]))
theorem M_lload_n {n : Fin 4} {x : Int64} (hd : decode y.2.1 pc = .ok (.lload_n n, 1)) (hL : L[(n : Nat)]? = some (some (vl x))) (k : M ph Γ y d mc ms kc ks Q (pc + 1) L (vl x :: S) σ) : M ph Γ y d mc ms kc ks Q pc L S σ := by
  intro p l e s m args below meth c H locs ad0 ad ls st hc hG hst he hR hS hB hl hk
  obtain ⟨rv, h1, h2⟩ := hl.2.2 _ _ hL
  cases h1
  exact lv_lload_n hc.1 hc.2.1 hd rfl h2 (k p l e s m args below meth c H locs ad0 ad ls _ hc hG hst he hR hS hB hl (by simp [mv, hk]))
theorem M_lload {n : Nat} {x : Int64} (hd : decode y.2.1 pc = .ok (.lload n, 2)) (hL : L[n]? = some (some (vl x))) (k : M ph Γ y d mc ms kc ks Q (pc + 2) L (vl x :: S) σ) : M ph Γ y d mc ms kc ks Q pc L S σ := by
  intro p l e s m args below meth c H locs ad0 ad ls st hc hG hst he hR hS hB hl hk
  obtain ⟨rv, h1, h2⟩ := hl.2.2 _ _ hL
  cases h1
  exact lv_lload hc.1 hc.2.1 hd h2 (k p l e s m args below meth c H locs ad0 ad ls _ hc hG hst he hR hS hB hl (by simp [mv, hk]))
theorem M_aload_n {n : Fin 4} {x : Option MA} (hd : decode y.2.1 pc = .ok (.aload_n n, 1)) (hL : L[(n : Nat)]? = some (some (vq x))) (k : M ph Γ y d mc ms kc ks Q (pc + 1) L (vq x :: S) σ) : M ph Γ y d mc ms kc ks Q pc L S σ := by
  intro p l e s m args below meth c H locs ad0 ad ls st hc hG hst he hR hS hB hl hk
  obtain ⟨rv, h1, h2⟩ := hl.2.2 _ _ hL
  have hk' : (vq x :: S).map (mv ad) = (rv :: st).map some := by simp only [List.map_cons, h1, hk]
  rcases mk_q h1 with ⟨-, rfl⟩ | ⟨a, q, -, -, rfl⟩
  · exact lv_aload_nN hc.1 hc.2.1 hd rfl h2 (k p l e s m args below meth c H locs ad0 ad ls _ hc hG hst he hR hS hB hl hk')
  · exact lv_aload_n hc.1 hc.2.1 hd rfl h2 (k p l e s m args below meth c H locs ad0 ad ls _ hc hG hst he hR hS hB hl hk')
theorem M_aload {n : Nat} {x : Option MA} (hd : decode y.2.1 pc = .ok (.aload n, 2)) (hL : L[n]? = some (some (vq x))) (k : M ph Γ y d mc ms kc ks Q (pc + 2) L (vq x :: S) σ) : M ph Γ y d mc ms kc ks Q pc L S σ := by
  intro p l e s m args below meth c H locs ad0 ad ls st hc hG hst he hR hS hB hl hk
  obtain ⟨rv, h1, h2⟩ := hl.2.2 _ _ hL
  have hk' : (vq x :: S).map (mv ad) = (rv :: st).map some := by simp only [List.map_cons, h1, hk]
  rcases mk_q h1 with ⟨-, rfl⟩ | ⟨a, q, -, -, rfl⟩
  · exact lv_aloadN hc.1 hc.2.1 hd h2 (k p l e s m args below meth c H locs ad0 ad ls _ hc hG hst he hR hS hB hl hk')
  · exact lv_aload hc.1 hc.2.1 hd h2 (k p l e s m args below meth c H locs ad0 ad ls _ hc hG hst he hR hS hB hl hk')
/-- the locals as the kit's list -/
def lvs (ad : MA → Option Nat) (L : List (Option MV)) : List (Nat × Value) := L.zipIdx.filterMap (fun q => (q.1.bind (mv ad)).map (fun r => (q.2, r)))
theorem lvs_mem {ad : MA → Option Nat} {L : List (Option MV)} {k : Nat} {r : Value} : (k, r) ∈ lvs ad L ↔ ∃ v, L[k]? = some (some v) ∧ mv ad v = some r := by
  unfold lvs
  rw [List.mem_filterMap]
  constructor
  · rintro ⟨⟨o, j⟩, h1, h2⟩
    rw [List.mem_zipIdx_iff_getElem?] at h1
    simp only [Option.map_eq_some_iff, Option.bind_eq_some_iff, Prod.mk.injEq] at h2
    obtain ⟨r', ⟨v, h3, h4⟩, h5, h6⟩ := h2
    subst h3 h5 h6
    exact ⟨v, h1, h4⟩
  · rintro ⟨v, h1, h2⟩
    exact ⟨(some v, k), List.mem_zipIdx_iff_getElem?.mpr h1, by simp [h2]⟩
theorem mloc.has {ad : MA → Option Nat} {ls : Array Slot} {n : Nat} {L : List (Option MV)} (h : mloc ad ls n L) : lv_has ls n (lvs ad L) := by
  refine ⟨h.1.1, h.2.1, fun q hq => ?_⟩
  obtain ⟨v, h1, h2⟩ := lvs_mem.mp (show (q.1, q.2) ∈ _ from hq)
  obtain ⟨rv, h3, h4⟩ := h.2.2 _ _ h1
  cases h2.symm.trans h3
  exact h4
/-- a value of one slot may be stored at i: no long stands just ahead of it -/
def mfree (L : List (Option MV)) (i : Nat) : Bool := Nat.blt i L.length && (match i with
  | 0 => true
  | j + 1 => match L[j]? with
    | some (some (.inr (.inl _))) => false
    | _ => true)
theorem mv_cat1 {ad : MA → Option Nat} {v : MV} {r : Value} (h : mv ad v = some r) : r.category = mcat v := by
  rcases v with x | x | (_ | a)
  · cases h; rfl
  · cases h; rfl
  · cases h; rfl
  · simp only [mv, Option.map_eq_some_iff] at h
    obtain ⟨q, h1, rfl⟩ := h
    rfl
theorem mloc.set {ad : MA → Option Nat} {ls' : Array Slot} {n i : Nat} {L : List (Option MV)} {v : MV} {r : Value} (hv : mv ad v = some r) (hi : mfree L i = true) (hn : L.length = n)
    (h : lv_has ls' n ((i, r) :: (lvs ad L).filter (fun q => !(q.1 == i) && !(q.1 + 1 == i && q.2.category == 2)))) (hm : ∀ (k : Nat) (w : MV), L[k]? = some (some w) → ∃ rw, mv ad w = some rw) : mloc ad ls' n (L.set i (some v)) := by
  have hi1 : i < L.length := by
    have := (Bool.and_eq_true _ _ ▸ hi).1
    exact Nat.blt_eq.mp this
  refine ⟨⟨h.1, by rw [List.length_set]; exact hn⟩, h.2.1, fun k w hk => ?_⟩
  by_cases hki : k = i
  · subst hki
    rw [List.getElem?_set_self hi1] at hk
    cases hk
    exact ⟨r, hv, h.2.2 (k, r) List.mem_cons_self⟩
  · rw [List.getElem?_set_ne (Ne.symm hki)] at hk
    obtain ⟨rw, hrw⟩ := hm k w hk
    refine ⟨rw, hrw, h.2.2 (k, rw) (List.mem_cons_of_mem _ (List.mem_filter.mpr ⟨lvs_mem.mpr ⟨w, hk, hrw⟩, ?_⟩))⟩
    simp only [Bool.and_eq_true, Bool.not_eq_true', beq_eq_false_iff_ne, ne_eq, Bool.and_eq_false_iff]
    refine ⟨hki, ?_⟩
    by_cases hj : k + 1 = i
    · right
      subst hj
      have h2 := (Bool.and_eq_true _ _ ▸ hi).2
      rw [mv_cat1 hrw]
      rcases w with x | x | x
      · simp [mcat]
      · simp [hk] at h2
      · simp [mcat]
    · exact Or.inl hj
theorem mloc.val {ad : MA → Option Nat} {ls : Array Slot} {n : Nat} {L : List (Option MV)} (h : mloc ad ls n L) : ∀ (k : Nat) (w : MV), L[k]? = some (some w) → ∃ rw, mv ad w = some rw := fun k w hk => by
  obtain ⟨rv, h1, -⟩ := h.2.2 k w hk
  exact ⟨rv, h1⟩
theorem mfree.lt {L : List (Option MV)} {i n : Nat} (hi : mfree L i = true) (hn : L.length = n) : i < n := by
  have := (Bool.and_eq_true _ _ ▸ hi).1
  rw [← hn]; exact Nat.blt_eq.mp this
theorem M_istore_n {n : Fin 4} {x : Int32} (hd : decode y.2.1 pc = .ok (.istore_n n, 1)) (hL : mfree L n = true) (k : M ph Γ y d mc ms kc ks Q (pc + 1) (L.set n (some (vi x))) S σ) : M ph Γ y d mc ms kc ks Q pc L (vi x :: S) σ := by
  intro p l e s m args below meth c H locs ad0 ad ls st hc hG hst he hR hS hB hl hk
  obtain ⟨st', rfl, hk'⟩ := mk_i hk
  exact lv_istore_n hc.1 hc.2.1 hd rfl hl.has (mfree.lt hL hl.1.2) rfl (fun ls' h' => k p l e s m args below meth c H locs ad0 ad ls' _ hc hG hst he hR hS hB (mloc.set rfl hL hl.1.2 h' hl.val) hk')
theorem M_istore {n : Nat} {x : Int32} (hd : decode y.2.1 pc = .ok (.istore n, 2)) (hL : mfree L n = true) (k : M ph Γ y d mc ms kc ks Q (pc + 2) (L.set n (some (vi x))) S σ) : M ph Γ y d mc ms kc ks Q pc L (vi x :: S) σ := by
  intro p l e s m args below meth c H locs ad0 ad ls st hc hG hst he hR hS hB hl hk
  obtain ⟨st', rfl, hk'⟩ := mk_i hk
  exact lv_istore hc.1 hc.2.1 hd hl.has (mfree.lt hL hl.1.2) rfl (fun ls' h' => k p l e s m args below meth c H locs ad0 ad ls' _ hc hG hst he hR hS hB (mloc.set rfl hL hl.1.2 h' hl.val) hk')
theorem M_astore_n {n : Fin 4} {x : Option MA} (hd : decode y.2.1 pc = .ok (.astore_n n, 1)) (hL : mfree L n = true) (k : M ph Γ y d mc ms kc ks Q (pc + 1) (L.set n (some (vq x))) S σ) : M ph Γ y d mc ms kc ks Q pc L (vq x :: S) σ := by
  intro p l e s m args below meth c H locs ad0 ad ls st hc hG hst he hR hS hB hl hk
  obtain ⟨r, st', rfl, h1, hk'⟩ := mk_top hk
  rcases mk_q h1 with ⟨-, rfl⟩ | ⟨a, q, -, -, rfl⟩
  · exact lv_astore_nN hc.1 hc.2.1 hd rfl hl.has (mfree.lt hL hl.1.2) rfl (fun ls' h' => k p l e s m args below meth c H locs ad0 ad ls' _ hc hG hst he hR hS hB (mloc.set h1 hL hl.1.2 h' hl.val) hk')
  · exact lv_astore_n hc.1 hc.2.1 hd rfl hl.has (mfree.lt hL hl.1.2) rfl (fun ls' h' => k p l e s m args below meth c H locs ad0 ad ls' _ hc hG hst he hR hS hB (mloc.set h1 hL hl.1.2 h' hl.val) hk')
theorem M_astore {n : Nat} {x : Option MA} (hd : decode y.2.1 pc = .ok (.astore n, 2)) (hL : mfree L n = true) (k : M ph Γ y d mc ms kc ks Q (pc + 2) (L.set n (some (vq x))) S σ) : M ph Γ y d mc ms kc ks Q pc L (vq x :: S) σ := by
  intro p l e s m args below meth c H locs ad0 ad ls st hc hG hst he hR hS hB hl hk
  obtain ⟨r, st', rfl, h1, hk'⟩ := mk_top hk
  rcases mk_q h1 with ⟨-, rfl⟩ | ⟨a, q, -, -, rfl⟩
  · exact lv_astoreN hc.1 hc.2.1 hd hl.has (mfree.lt hL hl.1.2) rfl (fun ls' h' => k p l e s m args below meth c H locs ad0 ad ls' _ hc hG hst he hR hS hB (mloc.set h1 hL hl.1.2 h' hl.val) hk')
  · exact lv_astore hc.1 hc.2.1 hd hl.has (mfree.lt hL hl.1.2) rfl (fun ls' h' => k p l e s m args below meth c H locs ad0 ad ls' _ hc hG hst he hR hS hB (mloc.set h1 hL hl.1.2 h' hl.val) hk')
theorem M_iinc {n : Nat} {z : Int} {x : Int32} (hd : decode y.2.1 pc = .ok (.iinc n z, 3)) (hL : mfree L n = true) (hx : L[n]? = some (some (vi x))) (k : M ph Γ y d mc ms kc ks Q (pc + 3) (L.set n (some (vi (x + Int32.ofInt z)))) S σ) : M ph Γ y d mc ms kc ks Q pc L S σ := by
  intro p l e s m args below meth c H locs ad0 ad ls st hc hG hst he hR hS hB hl hk
  obtain ⟨j, hj⟩ := List.getElem?_of_mem (lvs_mem.mpr ⟨vi x, hx, (rfl : mv ad (vi x) = some (.int x))⟩)
  exact lv_iinc hc.1 hc.2.1 hd hl.has hj rfl (mfree.lt hL hl.1.2) rfl (fun ls' h' => k p l e s m args below meth c H locs ad0 ad ls' _ hc hG hst he hR hS hB (mloc.set rfl hL hl.1.2 h' hl.val) hk)
end Steps1
end
section
/-! THE STEPS: arithmetic, stack, branches -/
section Steps2
variable {ph : Bool} {Γ : GG} {y : Mth} {d mc ms kc ks : Nat} {Q : Option MV → Sto → Prop} {pc : Nat} {L : List (Option MV)} {S : List MV} {σ : Sto}
theorem M_iadd {a b : Int32} (hd : decode y.2.1 pc = .ok (.iadd, 1)) (k : M ph Γ y d mc ms kc ks Q (pc + 1) L (vi (a + b) :: S) σ) : M ph Γ y d mc ms kc ks Q pc L (vi b :: vi a :: S) σ := by
  intro p l e s m args below meth c H locs ad0 ad ls st hc hG hst he hR hS hB hl hk
  obtain ⟨st1, rfl, hk1⟩ := mk_i hk
  obtain ⟨st2, rfl, hk2⟩ := mk_i hk1
  exact lv_iadd hc.1 hc.2.1 hd (k p l e s m args below meth c H locs ad0 ad ls _ hc hG hst he hR hS hB hl (by simp [mv, hk2]))
theorem M_isub {a b : Int32} (hd : decode y.2.1 pc = .ok (.isub, 1)) (k : M ph Γ y d mc ms kc ks Q (pc + 1) L (vi (a - b) :: S) σ) : M ph Γ y d mc ms kc ks Q pc L (vi b :: vi a :: S) σ := by
  intro p l e s m args below meth c H locs ad0 ad ls st hc hG hst he hR hS hB hl hk
  obtain ⟨st1, rfl, hk1⟩ := mk_i hk
  obtain ⟨st2, rfl, hk2⟩ := mk_i hk1
  exact lv_isub hc.1 hc.2.1 hd (k p l e s m args below meth c H locs ad0 ad ls _ hc hG hst he hR hS hB hl (by simp [mv, hk2]))
theorem M_imul {a b : Int32} (hd : decode y.2.1 pc = .ok (.imul, 1)) (k : M ph Γ y d mc ms kc ks Q (pc + 1) L (vi (a * b) :: S) σ) : M ph Γ y d mc ms kc ks Q pc L (vi b :: vi a :: S) σ := by
  intro p l e s m args below meth c H locs ad0 ad ls st hc hG hst he hR hS hB hl hk
  obtain ⟨st1, rfl, hk1⟩ := mk_i hk
  obtain ⟨st2, rfl, hk2⟩ := mk_i hk1
  exact lv_imul hc.1 hc.2.1 hd (k p l e s m args below meth c H locs ad0 ad ls _ hc hG hst he hR hS hB hl (by simp [mv, hk2]))
theorem M_iand {a b : Int32} (hd : decode y.2.1 pc = .ok (.iand, 1)) (k : M ph Γ y d mc ms kc ks Q (pc + 1) L (vi (a &&& b) :: S) σ) : M ph Γ y d mc ms kc ks Q pc L (vi b :: vi a :: S) σ := by
  intro p l e s m args below meth c H locs ad0 ad ls st hc hG hst he hR hS hB hl hk
  obtain ⟨st1, rfl, hk1⟩ := mk_i hk
  obtain ⟨st2, rfl, hk2⟩ := mk_i hk1
  exact lv_iand hc.1 hc.2.1 hd (k p l e s m args below meth c H locs ad0 ad ls _ hc hG hst he hR hS hB hl (by simp [mv, hk2]))
theorem M_ior {a b : Int32} (hd : decode y.2.1 pc = .ok (.ior, 1)) (k : M ph Γ y d mc ms kc ks Q (pc + 1) L (vi (a ||| b) :: S) σ) : M ph Γ y d mc ms kc ks Q pc L (vi b :: vi a :: S) σ := by
  intro p l e s m args below meth c H locs ad0 ad ls st hc hG hst he hR hS hB hl hk
  obtain ⟨st1, rfl, hk1⟩ := mk_i hk
  obtain ⟨st2, rfl, hk2⟩ := mk_i hk1
  exact lv_ior hc.1 hc.2.1 hd (k p l e s m args below meth c H locs ad0 ad ls _ hc hG hst he hR hS hB hl (by simp [mv, hk2]))
theorem M_ishl {a b : Int32} (hd : decode y.2.1 pc = .ok (.ishl, 1)) (k : M ph Γ y d mc ms kc ks Q (pc + 1) L (vi (a <<< (b &&& 31)) :: S) σ) : M ph Γ y d mc ms kc ks Q pc L (vi b :: vi a :: S) σ := by
  intro p l e s m args below meth c H locs ad0 ad ls st hc hG hst he hR hS hB hl hk
  obtain ⟨st1, rfl, hk1⟩ := mk_i hk
  obtain ⟨st2, rfl, hk2⟩ := mk_i hk1
  exact lv_ishl hc.1 hc.2.1 hd (k p l e s m args below meth c H locs ad0 ad ls _ hc hG hst he hR hS hB hl (by simp [mv, hk2]))
theorem M_ishr {a b : Int32} (hd : decode y.2.1 pc = .ok (.ishr, 1)) (k : M ph Γ y d mc ms kc ks Q (pc + 1) L (vi (a >>> (b &&& 31)) :: S) σ) : M ph Γ y d mc ms kc ks Q pc L (vi b :: vi a :: S) σ := by
  intro p l e s m args below meth c H locs ad0 ad ls st hc hG hst he hR hS hB hl hk
  obtain ⟨st1, rfl, hk1⟩ := mk_i hk
  obtain ⟨st2, rfl, hk2⟩ := mk_i hk1
  exact lv_ishr hc.1 hc.2.1 hd (k p l e s m args below meth c H locs ad0 ad ls _ hc hG hst he hR hS hB hl (by simp [mv, hk2]))
theorem M_iushr {a b : Int32} (hd : decode y.2.1 pc = .ok (.iushr, 1)) (k : M ph Γ y d mc ms kc ks Q (pc + 1) L (vi (a.toUInt32 >>> (b.toUInt32 &&& Int32.toUInt32 31)).toInt32 :: S) σ) : M ph Γ y d mc ms kc ks Q pc L (vi b :: vi a :: S) σ := by
  intro p l e s m args below meth c H locs ad0 ad ls st hc hG hst he hR hS hB hl hk
  obtain ⟨st1, rfl, hk1⟩ := mk_i hk
  obtain ⟨st2, rfl, hk2⟩ := mk_i hk1
  exact lv_iushr hc.1 hc.2.1 hd rfl (k p l e s m args below meth c H locs ad0 ad ls _ hc hG hst he hR hS hB hl (by simp [mv, hk2]))
theorem M_idiv {a b : Int32} (hd : decode y.2.1 pc = .ok (.idiv, 1)) (hb0 : ¬ b = 0) (k : M ph Γ y d mc ms kc ks Q (pc + 1) L (vi (a / b) :: S) σ) : M ph Γ y d mc ms kc ks Q pc L (vi b :: vi a :: S) σ := by
  intro p l e s m args below meth c H locs ad0 ad ls st hc hG hst he hR hS hB hl hk
  obtain ⟨st1, rfl, hk1⟩ := mk_i hk
  obtain ⟨st2, rfl, hk2⟩ := mk_i hk1
  exact lv_idiv hc.1 hc.2.1 hd hb0 (k p l e s m args below meth c H locs ad0 ad ls _ hc hG hst he hR hS hB hl (by simp [mv, hk2]))
theorem M_irem {a b : Int32} (hd : decode y.2.1 pc = .ok (.irem, 1)) (hb0 : ¬ b = 0) (k : M ph Γ y d mc ms kc ks Q (pc + 1) L (vi (a - a / b * b) :: S) σ) : M ph Γ y d mc ms kc ks Q pc L (vi b :: vi a :: S) σ := by
  intro p l e s m args below meth c H locs ad0 ad ls st hc hG hst he hR hS hB hl hk
  obtain ⟨st1, rfl, hk1⟩ := mk_i hk
  obtain ⟨st2, rfl, hk2⟩ := mk_i hk1
  exact lv_irem hc.1 hc.2.1 hd hb0 (k p l e s m args below meth c H locs ad0 ad ls _ hc hG hst he hR hS hB hl (by simp [mv, hk2]))
theorem M_ineg {a : Int32} (hd : decode y.2.1 pc = .ok (.ineg, 1)) (k : M ph Γ y d mc ms kc ks Q (pc + 1) L (vi (-a) :: S) σ) : M ph Γ y d mc ms kc ks Q pc L (vi a :: S) σ := by
  intro p l e s m args below meth c H locs ad0 ad ls st hc hG hst he hR hS hB hl hk
  obtain ⟨st1, rfl, hk1⟩ := mk_i hk
  exact lv_ineg hc.1 hc.2.1 hd (k p l e s m args below meth c H locs ad0 ad ls _ hc hG hst he hR hS hB hl (by simp [mv, hk1]))
theorem M_i2l {a : Int32} (hd : decode y.2.1 pc = .ok (.i2l, 1)) (k : M ph Γ y d mc ms kc ks Q (pc + 1) L (vl a.toInt64 :: S) σ) : M ph Γ y d mc ms kc ks Q pc L (vi a :: S) σ := by
  intro p l e s m args below meth c H locs ad0 ad ls st hc hG hst he hR hS hB hl hk
  obtain ⟨st1, rfl, hk1⟩ := mk_i hk
  exact lv_i2l hc.1 hc.2.1 hd rfl (k p l e s m args below meth c H locs ad0 ad ls _ hc hG hst he hR hS hB hl (by simp [mv, hk1]))
theorem M_i2b {a : Int32} (hd : decode y.2.1 pc = .ok (.i2b, 1)) (k : M ph Γ y d mc ms kc ks Q (pc + 1) L (vi a.toInt8.toInt32 :: S) σ) : M ph Γ y d mc ms kc ks Q pc L (vi a :: S) σ := by
  intro p l e s m args below meth c H locs ad0 ad ls st hc hG hst he hR hS hB hl hk
  obtain ⟨st1, rfl, hk1⟩ := mk_i hk
  exact lv_i2b hc.1 hc.2.1 hd rfl (k p l e s m args below meth c H locs ad0 ad ls _ hc hG hst he hR hS hB hl (by simp [mv, hk1]))
theorem M_i2s {a : Int32} (hd : decode y.2.1 pc = .ok (.i2s, 1)) (k : M ph Γ y d mc ms kc ks Q (pc + 1) L (vi a.toInt16.toInt32 :: S) σ) : M ph Γ y d mc ms kc ks Q pc L (vi a :: S) σ := by
  intro p l e s m args below meth c H locs ad0 ad ls st hc hG hst he hR hS hB hl hk
  obtain ⟨st1, rfl, hk1⟩ := mk_i hk
  exact lv_i2s hc.1 hc.2.1 hd rfl (k p l e s m args below meth c H locs ad0 ad ls _ hc hG hst he hR hS hB hl (by simp [mv, hk1]))
theorem M_lcmp {a b : Int64} (hd : decode y.2.1 pc = .ok (.lcmp, 1)) (k : M ph Γ y d mc ms kc ks Q (pc + 1) L (vi (lg_cmp a b) :: S) σ) : M ph Γ y d mc ms kc ks Q pc L (vl b :: vl a :: S) σ := by
  intro p l e s m args below meth c H locs ad0 ad ls st hc hG hst he hR hS hB hl hk
  obtain ⟨st1, rfl, hk1⟩ := mk_l hk
  obtain ⟨st2, rfl, hk2⟩ := mk_l hk1
  exact W.lcmp hc.1 hc.2.1 hd (k p l e s m args below meth c H locs ad0 ad ls _ hc hG hst he hR hS hB hl (by simp [mv, hk2]))
theorem M_dup {v : MV} (hd : decode y.2.1 pc = .ok (.dup, 1)) (hv : mcat v = 1) (k : M ph Γ y d mc ms kc ks Q (pc + 1) L (v :: v :: S) σ) : M ph Γ y d mc ms kc ks Q pc L (v :: S) σ := by
  intro p l e s m args below meth c H locs ad0 ad ls st hc hG hst he hR hS hB hl hk
  obtain ⟨r, st1, rfl, h1, hk1⟩ := mk_top hk
  exact lv_dup hc.1 hc.2.1 hd ((mv_cat1 h1).trans hv) (k p l e s m args below meth c H locs ad0 ad ls _ hc hG hst he hR hS hB hl (by simp only [List.map_cons, h1, hk1]))
theorem M_dup_x1 {v w : MV} (hd : decode y.2.1 pc = .ok (.dup_x1, 1)) (hv : mcat v = 1) (hw : mcat w = 1) (k : M ph Γ y d mc ms kc ks Q (pc + 1) L (v :: w :: v :: S) σ) : M ph Γ y d mc ms kc ks Q pc L (v :: w :: S) σ := by
  intro p l e s m args below meth c H locs ad0 ad ls st hc hG hst he hR hS hB hl hk
  obtain ⟨r, st1, rfl, h1, hk1⟩ := mk_top hk
  obtain ⟨r2, st2, rfl, h2, hk2⟩ := mk_top hk1
  exact lv_dup_x1 hc.1 hc.2.1 hd ((mv_cat1 h1).trans hv) ((mv_cat1 h2).trans hw) (k p l e s m args below meth c H locs ad0 ad ls _ hc hG hst he hR hS hB hl (by simp only [List.map_cons, h1, h2, hk2]))
theorem M_pop {v : MV} (hd : decode y.2.1 pc = .ok (.pop, 1)) (hv : mcat v = 1) (k : M ph Γ y d mc ms kc ks Q (pc + 1) L S σ) : M ph Γ y d mc ms kc ks Q pc L (v :: S) σ := by
  intro p l e s m args below meth c H locs ad0 ad ls st hc hG hst he hR hS hB hl hk
  obtain ⟨r, st1, rfl, h1, hk1⟩ := mk_top hk
  exact lv_pop hc.1 hc.2.1 hd ((mv_cat1 h1).trans hv) (k p l e s m args below meth c H locs ad0 ad ls _ hc hG hst he hR hS hB hl hk1)
theorem M_goto {off : Int} {t : Nat} (hd : decode y.2.1 pc = .ok (.goto off, 3)) (ht : (pc : Int) + off = (t : Int)) (k : M ph Γ y d mc ms kc ks Q t L S σ) : M ph Γ y d mc ms kc ks Q pc L S σ := by
  intro p l e s m args below meth c H locs ad0 ad ls st hc hG hst he hR hS hB hl hk
  exact lv_goto hc.1 hc.2.1 hd ht (k p l e s m args below meth c H locs ad0 ad ls _ hc hG hst he hR hS hB hl hk)
theorem M_if_eq {a : Int32} {off : Int} {t : Nat} (hd : decode y.2.1 pc = .ok (.ifCond .eq off, 3)) (ht : (pc : Int) + off = (t : Int)) (kt : a = 0 → M ph Γ y d mc ms kc ks Q t L S σ) (kf : ¬ (a = 0) → M ph Γ y d mc ms kc ks Q (pc + 3) L S σ) : M ph Γ y d mc ms kc ks Q pc L (vi a :: S) σ := by
  intro p l e s m args below meth c H locs ad0 ad ls st hc hG hst he hR hS hB hl hk
  obtain ⟨st1, rfl, hk1⟩ := mk_i hk
  exact lv_if_eq hc.1 hc.2.1 hd ht (fun h => kt (by first | exact h | simpa using h) p l e s m args below meth c H locs ad0 ad ls _ hc hG hst he hR hS hB hl hk1) (fun h => kf (by first | exact h | simpa using h) p l e s m args below meth c H locs ad0 ad ls _ hc hG hst he hR hS hB hl hk1)
theorem M_icmp_eq {a b : Int32} {off : Int} {t : Nat} (hd : decode y.2.1 pc = .ok (.if_icmp .eq off, 3)) (ht : (pc : Int) + off = (t : Int)) (kt : a = b → M ph Γ y d mc ms kc ks Q t L S σ) (kf : ¬ (a = b) → M ph Γ y d mc ms kc ks Q (pc + 3) L S σ) : M ph Γ y d mc ms kc ks Q pc L (vi b :: vi a :: S) σ := by
  intro p l e s m args below meth c H locs ad0 ad ls st hc hG hst he hR hS hB hl hk
  obtain ⟨st1, rfl, hk1⟩ := mk_i hk
  obtain ⟨st2, rfl, hk2⟩ := mk_i hk1
  exact lv_icmp_eq hc.1 hc.2.1 hd ht (fun h => kt (by first | exact h | simpa using h) p l e s m args below meth c H locs ad0 ad ls _ hc hG hst he hR hS hB hl hk2) (fun h => kf (by first | exact h | simpa using h) p l e s m args below meth c H locs ad0 ad ls _ hc hG hst he hR hS hB hl hk2)
theorem M_if_ne {a : Int32} {off : Int} {t : Nat} (hd : decode y.2.1 pc = .ok (.ifCond .ne off, 3)) (ht : (pc : Int) + off = (t : Int)) (kt : ¬ a = 0 → M ph Γ y d mc ms kc ks Q t L S σ) (kf : ¬ (¬ a = 0) → M ph Γ y d mc ms kc ks Q (pc + 3) L S σ) : M ph Γ y d mc ms kc ks Q pc L (vi a :: S) σ := by
  intro p l e s m args below meth c H locs ad0 ad ls st hc hG hst he hR hS hB hl hk
  obtain ⟨st1, rfl, hk1⟩ := mk_i hk
  exact lv_if_ne hc.1 hc.2.1 hd ht (fun h => kt (by first | exact h | simpa using h) p l e s m args below meth c H locs ad0 ad ls _ hc hG hst he hR hS hB hl hk1) (fun h => kf (by first | exact h | simpa using h) p l e s m args below meth c H locs ad0 ad ls _ hc hG hst he hR hS hB hl hk1)
theorem M_icmp_ne {a b : Int32} {off : Int} {t : Nat} (hd : decode y.2.1 pc = .ok (.if_icmp .ne off, 3)) (ht : (pc : Int) + off = (t : Int)) (kt : ¬ a = b → M ph Γ y d mc ms kc ks Q t L S σ) (kf : ¬ (¬ a = b) → M ph Γ y d mc ms kc ks Q (pc + 3) L S σ) : M ph Γ y d mc ms kc ks Q pc L (vi b :: vi a :: S) σ := by
  intro p l e s m args below meth c H locs ad0 ad ls st hc hG hst he hR hS hB hl hk
  obtain ⟨st1, rfl, hk1⟩ := mk_i hk
  obtain ⟨st2, rfl, hk2⟩ := mk_i hk1
  exact lv_icmp_ne hc.1 hc.2.1 hd ht (fun h => kt (by first | exact h | simpa using h) p l e s m args below meth c H locs ad0 ad ls _ hc hG hst he hR hS hB hl hk2) (fun h => kf (by first | exact h | simpa using h) p l e s m args below meth c H locs ad0 ad ls _ hc hG hst he hR hS hB hl hk2)
theorem M_if_lt {a : Int32} {off : Int} {t : Nat} (hd : decode y.2.1 pc = .ok (.ifCond .lt off, 3)) (ht : (pc : Int) + off = (t : Int)) (kt : a < 0 → M ph Γ y d mc ms kc ks Q t L S σ) (kf : ¬ (a < 0) → M ph Γ y d mc ms kc ks Q (pc + 3) L S σ) : M ph Γ y d mc ms kc ks Q pc L (vi a :: S) σ := by
  intro p l e s m args below meth c H locs ad0 ad ls st hc hG hst he hR hS hB hl hk
  obtain ⟨st1, rfl, hk1⟩ := mk_i hk
  exact lv_if_lt hc.1 hc.2.1 hd ht (fun h => kt (by first | exact h | simpa using h) p l e s m args below meth c H locs ad0 ad ls _ hc hG hst he hR hS hB hl hk1) (fun h => kf (by first | exact h | simpa using h) p l e s m args below meth c H locs ad0 ad ls _ hc hG hst he hR hS hB hl hk1)
theorem M_icmp_lt {a b : Int32} {off : Int} {t : Nat} (hd : decode y.2.1 pc = .ok (.if_icmp .lt off, 3)) (ht : (pc : Int) + off = (t : Int)) (kt : a < b → M ph Γ y d mc ms kc ks Q t L S σ) (kf : ¬ (a < b) → M ph Γ y d mc ms kc ks Q (pc + 3) L S σ) : M ph Γ y d mc ms kc ks Q pc L (vi b :: vi a :: S) σ := by
  intro p l e s m args below meth c H locs ad0 ad ls st hc hG hst he hR hS hB hl hk
  obtain ⟨st1, rfl, hk1⟩ := mk_i hk
  obtain ⟨st2, rfl, hk2⟩ := mk_i hk1
  exact lv_icmp_lt hc.1 hc.2.1 hd ht (fun h => kt (by first | exact h | simpa using h) p l e s m args below meth c H locs ad0 ad ls _ hc hG hst he hR hS hB hl hk2) (fun h => kf (by first | exact h | simpa using h) p l e s m args below meth c H locs ad0 ad ls _ hc hG hst he hR hS hB hl hk2)
theorem M_if_ge {a : Int32} {off : Int} {t : Nat} (hd : decode y.2.1 pc = .ok (.ifCond .ge off, 3)) (ht : (pc : Int) + off = (t : Int)) (kt : 0 ≤ a → M ph Γ y d mc ms kc ks Q t L S σ) (kf : ¬ (0 ≤ a) → M ph Γ y d mc ms kc ks Q (pc + 3) L S σ) : M ph Γ y d mc ms kc ks Q pc L (vi a :: S) σ := by
  intro p l e s m args below meth c H locs ad0 ad ls st hc hG hst he hR hS hB hl hk
  obtain ⟨st1, rfl, hk1⟩ := mk_i hk
  exact lv_if_ge hc.1 hc.2.1 hd ht (fun h => kt (by first | exact h | simpa using h) p l e s m args below meth c H locs ad0 ad ls _ hc hG hst he hR hS hB hl hk1) (fun h => kf (by first | exact h | simpa using h) p l e s m args below meth c H locs ad0 ad ls _ hc hG hst he hR hS hB hl hk1)
theorem M_icmp_ge {a b : Int32} {off : Int} {t : Nat} (hd : decode y.2.1 pc = .ok (.if_icmp .ge off, 3)) (ht : (pc : Int) + off = (t : Int)) (kt : b ≤ a → M ph Γ y d mc ms kc ks Q t L S σ) (kf : ¬ (b ≤ a) → M ph Γ y d mc ms kc ks Q (pc + 3) L S σ) : M ph Γ y d mc ms kc ks Q pc L (vi b :: vi a :: S) σ := by
  intro p l e s m args below meth c H locs ad0 ad ls st hc hG hst he hR hS hB hl hk
  obtain ⟨st1, rfl, hk1⟩ := mk_i hk
  obtain ⟨st2, rfl, hk2⟩ := mk_i hk1
  exact lv_icmp_ge hc.1 hc.2.1 hd ht (fun h => kt (by first | exact h | simpa using h) p l e s m args below meth c H locs ad0 ad ls _ hc hG hst he hR hS hB hl hk2) (fun h => kf (by first | exact h | simpa using h) p l e s m args below meth c H locs ad0 ad ls _ hc hG hst he hR hS hB hl hk2)
theorem M_if_gt {a : Int32} {off : Int} {t : Nat} (hd : decode y.2.1 pc = .ok (.ifCond .gt off, 3)) (ht : (pc : Int) + off = (t : Int)) (kt : 0 < a → M ph Γ y d mc ms kc ks Q t L S σ) (kf : ¬ (0 < a) → M ph Γ y d mc ms kc ks Q (pc + 3) L S σ) : M ph Γ y d mc ms kc ks Q pc L (vi a :: S) σ := by
  intro p l e s m args below meth c H locs ad0 ad ls st hc hG hst he hR hS hB hl hk
  obtain ⟨st1, rfl, hk1⟩ := mk_i hk
  exact lv_if_gt hc.1 hc.2.1 hd ht (fun h => kt (by first | exact h | simpa using h) p l e s m args below meth c H locs ad0 ad ls _ hc hG hst he hR hS hB hl hk1) (fun h => kf (by first | exact h | simpa using h) p l e s m args below meth c H locs ad0 ad ls _ hc hG hst he hR hS hB hl hk1)
theorem M_icmp_gt {a b : Int32} {off : Int} {t : Nat} (hd : decode y.2.1 pc = .ok (.if_icmp .gt off, 3)) (ht : (pc : Int) + off = (t : Int)) (kt : b < a → M ph Γ y d mc ms kc ks Q t L S σ) (kf : ¬ (b < a) → M ph Γ y d mc ms kc ks Q (pc + 3) L S σ) : M ph Γ y d mc ms kc ks Q pc L (vi b :: vi a :: S) σ := by
  intro p l e s m args below meth c H locs ad0 ad ls st hc hG hst he hR hS hB hl hk
  obtain ⟨st1, rfl, hk1⟩ := mk_i hk
  obtain ⟨st2, rfl, hk2⟩ := mk_i hk1
  exact lv_icmp_gt hc.1 hc.2.1 hd ht (fun h => kt (by first | exact h | simpa using h) p l e s m args below meth c H locs ad0 ad ls _ hc hG hst he hR hS hB hl hk2) (fun h => kf (by first | exact h | simpa using h) p l e s m args below meth c H locs ad0 ad ls _ hc hG hst he hR hS hB hl hk2)
theorem M_if_le {a : Int32} {off : Int} {t : Nat} (hd : decode y.2.1 pc = .ok (.ifCond .le off, 3)) (ht : (pc : Int) + off = (t : Int)) (kt : a ≤ 0 → M ph Γ y d mc ms kc ks Q t L S σ) (kf : ¬ (a ≤ 0) → M ph Γ y d mc ms kc ks Q (pc + 3) L S σ) : M ph Γ y d mc ms kc ks Q pc L (vi a :: S) σ := by
  intro p l e s m args below meth c H locs ad0 ad ls st hc hG hst he hR hS hB hl hk
  obtain ⟨st1, rfl, hk1⟩ := mk_i hk
  exact lv_if_le hc.1 hc.2.1 hd ht (fun h => kt (by first | exact h | simpa using h) p l e s m args below meth c H locs ad0 ad ls _ hc hG hst he hR hS hB hl hk1) (fun h => kf (by first | exact h | simpa using h) p l e s m args below meth c H locs ad0 ad ls _ hc hG hst he hR hS hB hl hk1)
theorem M_icmp_le {a b : Int32} {off : Int} {t : Nat} (hd : decode y.2.1 pc = .ok (.if_icmp .le off, 3)) (ht : (pc : Int) + off = (t : Int)) (kt : a ≤ b → M ph Γ y d mc ms kc ks Q t L S σ) (kf : ¬ (a ≤ b) → M ph Γ y d mc ms kc ks Q (pc + 3) L S σ) : M ph Γ y d mc ms kc ks Q pc L (vi b :: vi a :: S) σ := by
  intro p l e s m args below meth c H locs ad0 ad ls st hc hG hst he hR hS hB hl hk
  obtain ⟨st1, rfl, hk1⟩ := mk_i hk
  obtain ⟨st2, rfl, hk2⟩ := mk_i hk1
  exact lv_icmp_le hc.1 hc.2.1 hd ht (fun h => kt (by first | exact h | simpa using h) p l e s m args below meth c H locs ad0 ad ls _ hc hG hst he hR hS hB hl hk2) (fun h => kf (by first | exact h | simpa using h) p l e s m args below meth c H locs ad0 ad ls _ hc hG hst he hR hS hB hl hk2)
theorem M_ifnull {x : Option MA} {off : Int} {t : Nat} (hd : decode y.2.1 pc = .ok (.ifnull off, 3)) (ht : (pc : Int) + off = (t : Int)) (kt : x = none → M ph Γ y d mc ms kc ks Q t L S σ) (kf : ¬ x = none → M ph Γ y d mc ms kc ks Q (pc + 3) L S σ) : M ph Γ y d mc ms kc ks Q pc L (vq x :: S) σ := by
  intro p l e s m args below meth c H locs ad0 ad ls st hc hG hst he hR hS hB hl hk
  obtain ⟨r, st1, rfl, h1, hk1⟩ := mk_top hk
  rcases mk_q h1 with ⟨hx, rfl⟩ | ⟨a, q, hx, -, rfl⟩
  · exact lv_ifnullN hc.1 hc.2.1 hd ht (kt hx p l e s m args below meth c H locs ad0 ad ls _ hc hG hst he hR hS hB hl hk1)
  · exact lv_ifnull hc.1 hc.2.1 hd (kf (by rw [hx]; simp) p l e s m args below meth c H locs ad0 ad ls _ hc hG hst he hR hS hB hl hk1)
theorem M_ifnonnull {x : Option MA} {off : Int} {t : Nat} (hd : decode y.2.1 pc = .ok (.ifnonnull off, 3)) (ht : (pc : Int) + off = (t : Int)) (kt : ¬ x = none → M ph Γ y d mc ms kc ks Q t L S σ) (kf : x = none → M ph Γ y d mc ms kc ks Q (pc + 3) L S σ) : M ph Γ y d mc ms kc ks Q pc L (vq x :: S) σ := by
  intro p l e s m args below meth c H locs ad0 ad ls st hc hG hst he hR hS hB hl hk
  obtain ⟨r, st1, rfl, h1, hk1⟩ := mk_top hk
  rcases mk_q h1 with ⟨hx, rfl⟩ | ⟨a, q, hx, -, rfl⟩
  · exact lv_ifnonnullN hc.1 hc.2.1 hd (kf hx p l e s m args below meth c H locs ad0 ad ls _ hc hG hst he hR hS hB hl hk1)
  · exact lv_ifnonnull hc.1 hc.2.1 hd ht (kt (by rw [hx]; simp) p l e s m args below meth c H locs ad0 ad ls _ hc hG hst he hR hS hB hl hk1)
theorem M_tableIn {dflt lo hi : Int} {offs : Array Int} {len : Nat} {x : Int32} {off : Int} {t : Nat} (hd : decode y.2.1 pc = .ok (.tableswitch dflt lo hi offs, len)) (h1 : ¬ x.toInt < lo) (h2 : ¬ hi < x.toInt) (ho : offs[(x.toInt - lo).toNat]? = some off) (ht : (pc : Int) + off = (t : Int)) (k : M ph Γ y d mc ms kc ks Q t L S σ) : M ph Γ y d mc ms kc ks Q pc L (vi x :: S) σ := by
  intro p l e s m args below meth c H locs ad0 ad ls st hc hG hst he hR hS hB hl hk
  obtain ⟨st1, rfl, hk1⟩ := mk_i hk
  exact lv_tableIn hc.1 hc.2.1 hd h1 h2 ho ht (k p l e s m args below meth c H locs ad0 ad ls _ hc hG hst he hR hS hB hl hk1)
theorem M_tableOut {dflt lo hi : Int} {offs : Array Int} {len : Nat} {x : Int32} {t : Nat} (hd : decode y.2.1 pc = .ok (.tableswitch dflt lo hi offs, len)) (h : x.toInt < lo ∨ hi < x.toInt) (ht : (pc : Int) + dflt = (t : Int)) (k : M ph Γ y d mc ms kc ks Q t L S σ) : M ph Γ y d mc ms kc ks Q pc L (vi x :: S) σ := by
  intro p l e s m args below meth c H locs ad0 ad ls st hc hG hst he hR hS hB hl hk
  obtain ⟨st1, rfl, hk1⟩ := mk_i hk
  exact lv_tableOut hc.1 hc.2.1 hd h ht (k p l e s m args below meth c H locs ad0 ad ls _ hc hG hst he hR hS hB hl hk1)
theorem M_lookup {dflt : Int} {ps : Array (Int × Int)} {len : Nat} {x : Int32} {off : Int} {t : Nat} (hd : decode y.2.1 pc = .ok (.lookupswitch dflt ps, len)) (hp : (ps.toList.zip (ps.toList.drop 1)).all (fun (a, next) => a.1 < next.1) = true) (ho : Op.lookupswitch.offset ps.toList dflt x.toInt = off) (ht : (pc : Int) + off = (t : Int)) (k : M ph Γ y d mc ms kc ks Q t L S σ) : M ph Γ y d mc ms kc ks Q pc L (vi x :: S) σ := by
  intro p l e s m args below meth c H locs ad0 ad ls st hc hG hst he hR hS hB hl hk
  obtain ⟨st1, rfl, hk1⟩ := mk_i hk
  exact lv_lookup hc.1 hc.2.1 hd hp ho ht (k p l e s m args below meth c H locs ad0 ad ls _ hc hG hst he hR hS hB hl hk1)
/-! returns -/
theorem mRet {v : MV} {s t : State} {H : Heap} {locs : List Loc} {ad0 ad : MA → Option Nat} {r : Value} {args : Array Value} (hq : Q (some v) σ) (he : ∀ a q, ad0 a = some q → ad a = some q) (hR : Rep ph Γ s ad σ H) (hS : va_S (mA Γ) s.heap H locs) (hB : Γ.1 ≤ s.heap.size) (hv : mv ad v = some r) (ht : t.heap = H) (hW : s.WarmedH t.vm) : mQ ph Γ Q ad0 args s (.returned (some r)) t :=
  ⟨some v, some r, σ, ad, rfl, by simp [hv], hq, he, by rw [ht]; exact hR.warm hW.alike, by rw [ht]; exact hS.1, fun q hq' => by rw [ht]; exact hS.2.1 q (Nat.lt_of_lt_of_le hq' hB) (Nat.not_le.mpr hq')⟩
theorem M_ireturn {x : Int32} (hret : y.2.2.2 = some .int) (hd : decode y.2.1 pc = .ok (.ireturn, 1)) (h1 : kc ≤ mc) (h2 : ks ≤ ms) (hq : Q (some (vi x)) σ) : M ph Γ y d mc ms kc ks Q pc L [vi x] σ := by
  intro p l e s m args below meth c H locs ad0 ad ls st hc hG hst he hR hS hB hl hk
  obtain ⟨st1, rfl, hk1⟩ := mk_i hk
  cases st1 with
  | cons a b => simp at hk1
  | nil =>
    refine W.widen h1 h2 ?_
    exact W.iret hc.1 hc.2.1 (hc.2.2.1.trans hret) (fun t ht hW => mRet hq he hR hS hB rfl ht hW) hS.2.2 hd (hlocks := hc.2.2.2.2.2.1)
theorem M_zreturn {x : Int32} (hret : y.2.2.2 = some .boolean) (hd : decode y.2.1 pc = .ok (.ireturn, 1)) (hx : x = 0 ∨ x = 1) (h1 : kc ≤ mc) (h2 : ks ≤ ms) (hq : Q (some (vi x)) σ) : M ph Γ y d mc ms kc ks Q pc L [vi x] σ := by
  intro p l e s m args below meth c H locs ad0 ad ls st hc hG hst he hR hS hB hl hk
  obtain ⟨st1, rfl, hk1⟩ := mk_i hk
  cases st1 with
  | cons a b => simp at hk1
  | nil =>
    refine W.widen h1 h2 ?_
    exact W.zret hc.1 hc.2.1 (hc.2.2.1.trans hret) (by rcases hx with rfl | rfl <;> rfl) (fun t ht hW => mRet hq he hR hS hB rfl ht hW) hS.2.2 hd (hlocks := hc.2.2.2.2.2.1)
theorem M_lreturn {x : Int64} (hret : y.2.2.2 = some .long) (hd : decode y.2.1 pc = .ok (.lreturn, 1)) (h1 : kc ≤ mc) (h2 : ks ≤ ms) (hq : Q (some (vl x)) σ) : M ph Γ y d mc ms kc ks Q pc L [vl x] σ := by
  intro p l e s m args below meth c H locs ad0 ad ls st hc hG hst he hR hS hB hl hk
  obtain ⟨st1, rfl, hk1⟩ := mk_l hk
  cases st1 with
  | cons a b => simp at hk1
  | nil =>
    refine W.widen h1 h2 ?_
    exact W.lret hc.1 hc.2.1 (hc.2.2.1.trans hret) (fun t ht hW => mRet hq he hR hS hB rfl ht hW) hS.2.2 hd (hlocks := hc.2.2.2.2.2.1)
theorem M_areturn {x : Option MA} {C : String} (hret : y.2.2.2 = some (.object C)) (hd : decode y.2.1 pc = .ok (.areturn, 1)) (h1 : kc ≤ mc) (h2 : ks ≤ ms) (hq : Q (some (vq x)) σ) : M ph Γ y d mc ms kc ks Q pc L [vq x] σ := by
  intro p l e s m args below meth c H locs ad0 ad ls st hc hG hst he hR hS hB hl hk
  obtain ⟨r, st1, rfl, hr, hk1⟩ := mk_top hk
  cases st1 with
  | cons a b => simp at hk1
  | nil =>
    refine W.widen h1 h2 ?_
    refine W.aret hc.1 hc.2.1 (hc.2.2.1.trans hret) (Or.inl ⟨C, rfl⟩) ?_ (fun t ht hW => mRet hq he hR hS hB hr ht hW) hS.2.2 hd (hlocks := hc.2.2.2.2.2.1)
    rcases mk_q hr with ⟨-, rfl⟩ | ⟨a, q, -, -, rfl⟩
    · exact Or.inl rfl
    · exact Or.inr ⟨q, rfl⟩
theorem M_return (hret : y.2.2.2 = none) (hd : decode y.2.1 pc = .ok (.return_, 1)) (h1 : kc ≤ mc) (h2 : ks ≤ ms) (hq : Q none σ) : M ph Γ y d mc ms kc ks Q pc L [] σ := by
  intro p l e s m args below meth c H locs ad0 ad ls st hc hG hst he hR hS hB hl hk
  cases st with
  | cons a b => simp at hk
  | nil =>
    refine W.widen h1 h2 ?_
    exact W.vret hc.1 hc.2.1 (hc.2.2.1.trans hret) (fun t ht hW => ⟨none, none, σ, ad, rfl, rfl, hq, he, by rw [ht]; exact hR.warm hW.alike, by rw [ht]; exact hS.1, fun q hq' => by rw [ht]; exact hS.2.1 q (Nat.lt_of_lt_of_le hq' hB) (Nat.not_le.mpr hq')⟩) hS.2.2 hd (hlocks := hc.2.2.2.2.2.1)
end Steps2
end
section
/-! THE STEPS: fields and arrays -/
theorem mref_arr {k : Nat} (hk : 10 ≤ k) (j : Nat) : mref k j = mref k 0 := by
  have h : mobjR[k]? = none := List.getElem?_eq_none hk
  simp only [mref, h]
theorem mcls_lt {k : Nat} {q : vw_C} (h : vwCl[k]? = some q) : k < 10 := (List.getElem?_eq_some_iff.mp h).1
theorem mlen_obj {k Ln : Nat} {q : vw_C} (h : vwCl[k]? = some q) : mlen Ln k = q.2.2 := by
  match k, h with
  | 0, h => cases h; rfl
  | 1, h => cases h; rfl
  | 2, h => cases h; rfl
  | 3, h => cases h; rfl
  | 4, h => cases h; rfl
  | 5, h => cases h; rfl
  | 6, h => cases h; rfl
  | 7, h => cases h; rfl
  | 8, h => cases h; rfl
  | 9, h => cases h; rfl
  | k + 10, h => exact absurd (mcls_lt h) (by omega)
theorem good_lay (C : String) (T : u_T) (k : Nat) : goodWord (u_lay C T k) = true := by
  unfold u_lay
  split <;> rfl
theorem mlays {Γ : GG} {s : State} (hG : mG Γ s) {k : Nat} {q : vw_C} (h : vwCl[k]? = some q) (a : Array Value) : ∀ w ∈ u_ws q.1 q.2.1 q.2.2, w.before a s = true := by
  have key : ∀ w ∈ u_ws q.1 q.2.1 q.2.2, w ∈ lw_tbl := by
    match k, h with
    | 0, h => cases h; exact inX0
    | 1, h => cases h; exact inX1
    | 2, h => cases h; exact inX2
    | 3, h => cases h; exact inX3
    | 4, h => cases h; exact inX4
    | 5, h => cases h; exact inX5
    | 6, h => cases h; exact inX6
    | 7, h => cases h; exact inX7
    | 8, h => cases h; exact inX8
    | 9, h => cases h; exact inX9
    | k + 10, h => exact absurd (mcls_lt h) (by omega)
  intro w hw
  refine hG.1 w (key w hw) ?_ a
  obtain ⟨j, -, rfl⟩ := List.mem_map.mp hw
  exact good_lay _ _ _
/-- the types of the fields: int where mref says so, else of references -/
def mtyck (k : Nat) (q : vw_C) : Bool := (List.range q.2.2).all (fun j => match parseFieldDescriptor (q.2.1 j).2.2.1 with
  | some .int => !(mref k j)
  | some (.object _) => mref k j
  | some (.array _) => mref k j
  | _ => false)
theorem mty_all : (List.range 10).all (fun k => match vwCl[k]? with | some q => mtyck k q | none => false) = true := by decide +kernel
theorem mty {k : Nat} {q : vw_C} (h : vwCl[k]? = some q) {j : Nat} (hj : j < q.2.2) : ∃ ty, parseFieldDescriptor (q.2.1 j).2.2.1 = some ty ∧ ((mref k j = false ∧ ty = .int) ∨ (mref k j = true ∧ ((∃ n, ty = .object n) ∨ ∃ t, ty = .array t))) := by
  have h1 := List.all_eq_true.mp mty_all k (List.mem_range.mpr (mcls_lt h))
  rw [h] at h1
  have h2 := List.all_eq_true.mp h1 j (List.mem_range.mpr hj)
  split at h2
  · rename_i e; exact ⟨.int, e, Or.inl ⟨by simpa using h2, rfl⟩⟩
  · rename_i n e; exact ⟨_, e, Or.inr ⟨h2, Or.inl ⟨n, rfl⟩⟩⟩
  · rename_i n e; exact ⟨_, e, Or.inr ⟨h2, Or.inr ⟨n, rfl⟩⟩⟩
  · cases h2
def mnmck (q : vw_C) : Bool := (List.range q.2.2).all (fun a => (List.range q.2.2).all (fun b => decide (a = b) || decide ((q.2.1 a).2.1 ≠ (q.2.1 b).2.1)))
theorem mnm_all : vwCl.all mnmck = true := by decide +kernel
theorem mnm {k : Nat} {q : vw_C} (h : vwCl[k]? = some q) : ∀ a, a < q.2.2 → ∀ b, b < q.2.2 → a ≠ b → (q.2.1 a).2.1 ≠ (q.2.1 b).2.1 := by
  intro a ha b hb hab
  have h1 := List.all_eq_true.mp mnm_all q (List.mem_of_getElem? h)
  have h2 := List.all_eq_true.mp (List.all_eq_true.mp h1 a (List.mem_range.mpr ha)) b (List.mem_range.mpr hb)
  simp only [Bool.or_eq_true, decide_eq_true_eq] at h2
  exact h2.resolve_left hab
theorem mapart {Γ : GG} {s : State} (hG : mG Γ s) {k : Nat} {q : vw_C} (h : vwCl[k]? = some q) : ∀ a b, a < q.2.2 → b < q.2.2 → a ≠ b → Γ.2.2.2 k a ≠ Γ.2.2.2 k b := by
  intro a b ha hb hne
  obtain ⟨hS, -⟩ := hG.2.2.1 k q h
  obtain ⟨_, _, _, fa, hia, ea⟩ := hS a ha
  obtain ⟨_, _, _, fb, hib, eb⟩ := hS b hb
  obtain ⟨ta, hta, -⟩ := mty h ha
  obtain ⟨tb, htb, -⟩ := mty h hb
  rw [← ea, ← eb]
  refine u_apart (u_lays (mlays hG h #[]) (fun w hw => hw) ha) (u_lays (mlays hG h #[]) (fun w hw => hw) hb) hia hib ?_
  rw [(State.fieldFound?_type hia hta).1, (State.fieldFound?_type hib htb).1]
  exact mnm h a ha b hb hne
/-! one slot changes -/
theorem mpl_ne {Γ : GG} {s : State} (hG : mG Γ s) {k a b : Nat} (ha : a < mlen Γ.2.1 k) (hb : b < mlen Γ.2.1 k) (hne : a ≠ b) : mpl Γ k a ≠ mpl Γ k b := by
  unfold mpl
  by_cases hk : k < 10
  · rw [if_pos hk, if_pos hk]
    obtain ⟨q, hq⟩ : ∃ q, vwCl[k]? = some q := ⟨_, List.getElem?_eq_getElem hk⟩
    rw [mlen_obj hq] at ha hb
    exact mapart hG hq a b ha hb hne
  · rw [if_neg hk, if_neg hk]; exact hne
theorem mhdr.set {Γ : GG} {s : State} {k n : Nat} {cell : Cell} {v : Value} (h : mhdr Γ s k cell) : mhdr Γ s k (cell.setSlot n v) := by
  unfold mhdr at h ⊢
  split
  · rw [if_pos (by assumption)] at h; exact h
  · rw [if_neg (by assumption)] at h
    obtain ⟨h1, h2, h3, h4⟩ := h
    exact ⟨h1, h2, by show _ ≤ (cell.slots.setIfInBounds n v).size ∧ (cell.slots.setIfInBounds n v).size.toInt32 = _; rw [Array.size_setIfInBounds]; exact h3, h4⟩
theorem Rep.put {ph : Bool} {Γ : GG} {s : State} {ad : MA → Option Nat} {σ σ' : Sto} {H H' : Heap} {k i j q : Nat} {cell : Cell} {w : MV} {v : Value} (h : Rep ph Γ s ad σ H) (hG : mG Γ s) (hk42 : k < 42) (hq : ad (k, i) = some q) (hc : H[q]? = some cell) (hj : j < mlen Γ.2.1 k)
    (hw : mv ad w = some v) (hs : sv ph σ' k i j = w) (ho : ∀ k' i' j', ¬ (k' = k ∧ i' = i ∧ j' = j) → sv ph σ' k' i' j' = sv ph σ k' i' j') (hN : ∀ k', gN σ' k' = gN σ k')
    (e1 : H'[q]? = some (cell.setSlot (mpl Γ k j) v)) (e2 : H'.size = H.size) (e3 : ∀ x, x ≠ q → H'[x]? = H[x]?) : Rep ph Γ s ad σ' H' := by
  refine ⟨h.1, fun k' i' q' hq' => ?_, by rw [e2]; exact h.2.2⟩
  obtain ⟨⟨cell', c1, c2, c3⟩, c4⟩ := h.2.1 k' i' q' hq'
  refine ⟨?_, fun hk => by rw [hN]; exact c4 hk⟩
  by_cases hqq : q' = q
  · subst hqq
    have hki := h.1 _ _ _ hk42 hq hq'
    simp only [Prod.mk.injEq] at hki
    obtain ⟨rfl, rfl⟩ := hki
    cases c1.symm.trans hc
    refine ⟨_, e1, c2.set, fun j' hj' => ?_⟩
    by_cases hjj : j' = j
    · subst hjj
      obtain ⟨v0, -, hv0⟩ := c3 j' hj'
      exact ⟨v, by rw [hs]; exact hw, Cell.slots_setSlot_self _ (k2_hasslot hv0)⟩
    · obtain ⟨v0, g1, g2⟩ := c3 j' hj'
      exact ⟨v0, by rw [ho _ _ _ (fun z => hjj z.2.2)]; exact g1, by rw [slot_ne _ _ (mpl_ne hG hj hj' (Ne.symm hjj))]; exact g2⟩
  · have hne : ¬ (k' = k ∧ i' = i) := fun z => hqq (Option.some.inj (hq'.symm.trans (by rw [z.1, z.2]; exact hq)))
    exact ⟨cell', (e3 q' hqq).trans c1, c2, fun j' hj' => by rw [ho _ _ _ (fun z => hne ⟨z.1, z.2.1⟩)]; exact c3 j' hj'⟩
theorem sv_sI {ph : Bool} {σ : Sto} {k i j : Nat} {x : Int32} (h : mref k j = false) : sv ph (sI σ k i j x) k i j = vi x := by simp [sv, h, gI, sI]
theorem sv_sI_ne {ph : Bool} {σ : Sto} {k i j k' i' j' : Nat} {x : Int32} (h : ¬ (k' = k ∧ i' = i ∧ j' = j)) : sv ph (sI σ k i j x) k' i' j' = sv ph σ k' i' j' := by
  unfold sv
  split
  · rfl
  · simp [gI, sI, h]
theorem sv_sR {ph : Bool} {σ : Sto} {k i j : Nat} {x : Option MA} (h : mref k j = true) (hf : ph = false ∨ mfin k i j = none) : sv ph (sR σ k i j x) k i j = vq x := by
  unfold sv
  rw [h]
  rcases hf with rfl | hf
  · simp [mrf, gR, sR]
  · cases ph <;> simp [mrf, hf, gR, sR]
theorem sv_sR_ne {ph : Bool} {σ : Sto} {k i j k' i' j' : Nat} {x : Option MA} (h : ¬ (k' = k ∧ i' = i ∧ j' = j)) : sv ph (sR σ k i j x) k' i' j' = sv ph σ k' i' j' := by
  unfold sv
  split
  · congr 1
    unfold mrf
    cases ph <;> simp [gR, sR, h]
  · rfl
/-- the fields that a class names: pool index, slot, classes of the object, the name's class, how it may be written (0: always, 1: in a constructor, 2: never) -/
abbrev mFT : Type := List (Nat × Nat × List Nat × String × Nat)
def mFck (own : String) (x : Nat × Nat × List Nat × String × Nat) (q : vw_C) : Bool :=
  decide (x.2.1 < q.2.2) && decide (Cond.fieldLink own x.1 x.2.2.2.1 (q.2.1 x.2.1).2.1 (q.2.1 x.2.1).2.2.1 ∈ lw_tbl) && (decide (x.2.2.2.1 = (q.2.1 x.2.1).1) || decide (Cond.sameField x.2.2.2.1 (q.2.1 x.2.1).1 (q.2.1 x.2.1).2.1 (q.2.1 x.2.1).2.2.1 ∈ lw_tbl)) &&
  (match x.2.2.2.2 with | 0 => !((q.2.1 x.2.1).2.2.2) | 1 => (q.2.1 x.2.1).2.2.2 && decide ((q.2.1 x.2.1).1 = own) | _ => true)
def mFchk (own : String) (F : mFT) : Bool := F.all (fun x => x.2.2.1.all (fun ci => match vwCl[ci]? with | some q => mFck own x q | none => false))
theorem mFget {own : String} {F : mFT} (h : mFchk own F = true) {x : Nat × Nat × List Nat × String × Nat} (hx : x ∈ F) {ci : Nat} (hc : ci ∈ x.2.2.1) : ∃ q, vwCl[ci]? = some q ∧ x.2.1 < q.2.2 ∧ Cond.fieldLink own x.1 x.2.2.2.1 (q.2.1 x.2.1).2.1 (q.2.1 x.2.1).2.2.1 ∈ lw_tbl ∧
    (x.2.2.2.1 = (q.2.1 x.2.1).1 ∨ Cond.sameField x.2.2.2.1 (q.2.1 x.2.1).1 (q.2.1 x.2.1).2.1 (q.2.1 x.2.1).2.2.1 ∈ lw_tbl) ∧ (x.2.2.2.2 = 0 → (q.2.1 x.2.1).2.2.2 = false) ∧ (x.2.2.2.2 = 1 → (q.2.1 x.2.1).2.2.2 = true ∧ (q.2.1 x.2.1).1 = own) := by
  have h1 := List.all_eq_true.mp (List.all_eq_true.mp h x hx) ci hc
  cases hq : vwCl[ci]? with
  | none => rw [hq] at h1; cases h1
  | some q =>
    rw [hq] at h1
    simp only [mFck, Bool.and_eq_true, Bool.or_eq_true, decide_eq_true_eq] at h1
    obtain ⟨⟨⟨a1, a2⟩, a3⟩, a4⟩ := h1
    refine ⟨q, rfl, a1, a2, a3, fun e => ?_, fun e => ?_⟩
    · rw [e] at a4; simpa using a4
    · rw [e] at a4; simpa using a4
theorem msame {Γ : GG} {s : State} (hG : mG Γ s) {ref : String} {t : String × String × String × Bool} (h : ref = t.1 ∨ Cond.sameField ref t.1 t.2.1 t.2.2.1 ∈ lw_tbl) (z : ClassId × Class × Nat × Field) (hz : s.fieldFound? t.1 t.2.1 t.2.2.1 = some z) : s.fieldFound? ref t.2.1 t.2.2.1 = some z := by
  rcases h with rfl | h
  · exact hz
  · exact u_same (hG.1 _ h rfl #[]) z hz
section Heap1
variable {ph : Bool} {Γ : GG} {y : Mth} {d mc ms kc ks : Nat} {Q : Option MV → Sto → Prop} {pc : Nat} {L : List (Option MV)} {S : List MV} {σ : Sto}
theorem M_getfield {F : mFT} (hF : mFchk y.1.cls F = true) {x : Nat × Nat × List Nat × String × Nat} {k i : Nat} (hx : x ∈ F) (hk : k ∈ x.2.2.1) (hd : decode y.2.1 pc = .ok (.getfield x.1, 3)) (kk : M ph Γ y d mc ms kc ks Q (pc + 3) L (sv ph σ k i x.2.1 :: S) σ) : M ph Γ y d mc ms kc ks Q pc L (vq (some (k, i)) :: S) σ := by
  intro p l e s m args below meth c H locs ad0 ad ls st hc hG hst he hR hS hB hl hkk
  obtain ⟨q, st', rfl, hq, hk'⟩ := mk_r hkk
  obtain ⟨w, hw, hj, hlink, hsm, -, -⟩ := mFget hF hx hk
  obtain ⟨⟨cell, c1, c2, c3⟩, -⟩ := hR.2.1 k i q hq
  obtain ⟨v, v1, v2⟩ := c3 x.2.1 (by rw [mlen_obj hw]; exact hj)
  have hk10 := mcls_lt hw
  unfold mhdr at c2
  rw [if_pos hk10] at c2
  unfold mpl at v2
  rw [if_pos hk10] at v2
  obtain ⟨hSl, hfc, kC, hkC, hkind⟩ := hG.2.2.1 k w hw
  obtain ⟨cf, kf, fi, f, hi, hsl⟩ := hSl x.2.1 hj
  have hst0 := (u_facts hfc hkC (u_lays (mlays hG hw args) (fun w hw => hw) hj) hi).1
  refine W.getf hc.1 hc.2.1 hc.2.2.2.2.1 (hG.1 _ hlink rfl args) (msame hG hsm _ hi) hst0 c1 (by rw [c2.2]; exact fun h => by cases h) (v := v) (by rw [hsl]; exact v2) rfl rfl hd ?_
  exact kk p l e s m args below meth c H locs ad0 ad ls _ hc hG hst he hR hS hB hl (by simp only [List.map_cons, v1, hk'])
/-- the word that a field's write rests on -/
theorem M_putraw {F : mFT} (hF : mFchk y.1.cls F = true) {x : Nat × Nat × List Nat × String × Nat} {k i : Nat} {w : MV} {σ' : Sto} (hx : x ∈ F) (hk : k ∈ x.2.2.1) (hp : x.2.2.2.2 = 0 ∨ (x.2.2.2.2 = 1 ∧ y.1.name = "<init>")) (hd : decode y.2.1 pc = .ok (.putfield x.1, 3))
    (hty : (mref k x.2.1 = false ∧ ∃ z, w = vi z) ∨ (mref k x.2.1 = true ∧ ∃ z, w = vq z)) (hs : sv ph σ' k i x.2.1 = w) (ho : ∀ k' i' j', ¬ (k' = k ∧ i' = i ∧ j' = x.2.1) → sv ph σ' k' i' j' = sv ph σ k' i' j') (hN : ∀ k', gN σ' k' = gN σ k')
    (kk : M ph Γ y d mc ms kc ks Q (pc + 3) L S σ') : M ph Γ y d mc ms kc ks Q pc L (w :: vq (some (k, i)) :: S) σ := by
  intro p l e s m args below meth c H locs ad0 ad ls st hc hG hst he hR hS hB hl hkk
  obtain ⟨v, st1, rfl, hv, hk1⟩ := mk_top hkk
  obtain ⟨q, st', rfl, hq, hk'⟩ := mk_r hk1
  obtain ⟨r, hr, hj, hlink, hsm, hp0, hp1⟩ := mFget hF hx hk
  obtain ⟨⟨cell, c1, c2, c3⟩, c4⟩ := hR.2.1 k i q hq
  have hk10 := mcls_lt hr
  have hjl : x.2.1 < mlen Γ.2.1 k := by rw [mlen_obj hr]; exact hj
  obtain ⟨v0, -, v2⟩ := c3 x.2.1 hjl
  have c2' := c2
  unfold mhdr at c2
  rw [if_pos hk10] at c2
  have hpl : mpl Γ k x.2.1 = Γ.2.2.2 k x.2.1 := by unfold mpl; rw [if_pos hk10]
  rw [hpl] at v2
  obtain ⟨hSl, hfc, kC, hkC, hkind⟩ := hG.2.2.1 k r hr
  obtain ⟨cf, kf, fi, f, hi, hsl⟩ := hSl x.2.1 hj
  have hst0 := (u_facts hfc hkC (u_lays (mlays hG hr args) (fun w hw => hw) hj) hi).1
  obtain ⟨ty, hpd, hty'⟩ := mty hr hj
  have hnf : narrow ty v = v ∧ fits ty v = true := by
    rcases hty with ⟨m0, z, rfl⟩ | ⟨m1, z, rfl⟩
    · cases hv
      rcases hty' with ⟨-, rfl⟩ | ⟨m2, -⟩
      · exact ⟨rfl, rfl⟩
      · rw [m0] at m2; cases m2
    · rcases hty' with ⟨m2, -⟩ | ⟨-, ⟨n, rfl⟩ | ⟨n, rfl⟩⟩
      · rw [m1] at m2; cases m2
      · rcases mk_q hv with ⟨-, rfl⟩ | ⟨a, q2, -, -, rfl⟩ <;> exact ⟨rfl, rfl⟩
      · rcases mk_q hv with ⟨-, rfl⟩ | ⟨a, q2, -, -, rfl⟩ <;> exact ⟨rfl, rfl⟩
  have hlay := mlays hG hr args _ (u_in_lay hj)
  have fin : ∀ H' : Heap, H'[q]? = some (cell.setSlot f.slot v) → H'.size = H.size → (∀ z, z ≠ q → H'[z]? = H[z]?) → W p l e (mRm d mc ms) s m args below meth c H' (locs ++ [⟨q, f.slot⟩]) kc ks (MQ below (mQ ph Γ Q ad0) args s mc ms (mA Γ)) (F0 m (pc + 3) ls st') := by
    intro H' e1 e2 e3
    rw [hsl] at e1
    exact kk p l e s m args below meth c H' _ ad0 ad ls _ hc hG hst he (hR.put hG (by omega) hq c1 hjl hv hs ho hN (by rw [hpl]; exact e1) e2 e3) (hS.put e2 e3 (c4 (by omega)).1) hB hl hk'
  rcases hp with hp | ⟨hp, hini⟩
  · unfold u_lay at hlay
    rw [if_neg (by rw [hp0 hp]; decide)] at hlay
    have h6 := u_store hfc hkC hkind hlay hi hpd hnf.1 hnf.2
    exact W.putK hc.1 hc.2.1 (f := f) ⟨hc.2.2.2.2.1, hG.1 _ hlink rfl args, ⟨_, _, _, msame hG hsm _ hi⟩, hst0⟩ (by rw [c2.1]; exact h6) c1 c2.2 (by rw [hsl]; exact k2_hasslot v2) rfl rfl hd fin
  · unfold u_lay at hlay
    rw [if_pos (hp1 hp).1] at hlay
    have hcf : m.cls = cf := by
      obtain ⟨_, _, c', _, _, _, -, -, hf', -, -, -, hown2, -⟩ := Cond.laysFinal_spec hlay
      have e1 : c' = cf := by have := hi.symm.trans hf'; simp at this; exact this.1.symm
      rw [(hp1 hp).2] at hown2
      rw [← e1]; exact Option.some.inj (hc.2.2.2.2.1.symm.trans hown2)
    have h6 := u_fits hfc hkC hkind (Or.inr hlay) hi hpd hnf.1 hnf.2
    exact W.putFinK hc.1 hc.2.1 hc.2.2.2.2.1 (hG.1 _ hlink rfl args) (msame hG hsm _ hi) hst0 hcf (hc.2.2.2.2.2.2.trans hini) (by rw [c2.1]; exact h6) c1 c2.2 (by rw [hsl]; exact k2_hasslot v2) rfl rfl hd fin
theorem M_putI {F : mFT} (hF : mFchk y.1.cls F = true) {x : Nat × Nat × List Nat × String × Nat} {k i : Nat} {z : Int32} (hx : x ∈ F) (hk : k ∈ x.2.2.1) (hp : x.2.2.2.2 = 0 ∨ (x.2.2.2.2 = 1 ∧ y.1.name = "<init>")) (hm : mref k x.2.1 = false) (hd : decode y.2.1 pc = .ok (.putfield x.1, 3))
    (kk : M ph Γ y d mc ms kc ks Q (pc + 3) L S (sI σ k i x.2.1 z)) : M ph Γ y d mc ms kc ks Q pc L (vi z :: vq (some (k, i)) :: S) σ :=
  M_putraw hF hx hk hp hd (Or.inl ⟨hm, z, rfl⟩) (sv_sI hm) (fun _ _ _ h => sv_sI_ne h) (fun _ => rfl) kk
theorem M_putR {F : mFT} (hF : mFchk y.1.cls F = true) {x : Nat × Nat × List Nat × String × Nat} {k i : Nat} {z : Option MA} (hx : x ∈ F) (hk : k ∈ x.2.2.1) (hp : x.2.2.2.2 = 0 ∨ (x.2.2.2.2 = 1 ∧ y.1.name = "<init>")) (hm : mref k x.2.1 = true) (hf : ph = false ∨ mfin k i x.2.1 = none) (hd : decode y.2.1 pc = .ok (.putfield x.1, 3))
    (kk : M ph Γ y d mc ms kc ks Q (pc + 3) L S (sR σ k i x.2.1 z)) : M ph Γ y d mc ms kc ks Q pc L (vq z :: vq (some (k, i)) :: S) σ :=
  M_putraw hF hx hk hp hd (Or.inr ⟨hm, z, rfl⟩) (sv_sR hm hf) (fun _ _ _ h => sv_sR_ne h) (fun _ => rfl) kk
abbrev Ix (x : Int32) (n : Nat) : Prop := ¬ x < 0 ∧ x.toNatClampNeg < n
theorem Ix.not {x : Int32} {n : Nat} (h : Ix x n) : ¬ (x < 0 ∨ n ≤ x.toNatClampNeg) := fun z => z.elim h.1 (Nat.not_le.mpr h.2)
theorem mety_int {k : Nat} (h : mref k 0 = false) : mety k = .int := by simp [mety, h]
theorem mety_ref {k : Nat} (h : mref k 0 = true) : mety k = .object (melc k) := by simp [mety, h]
theorem M_iaload {k i : Nat} {x : Int32} (hk : 10 ≤ k) (hm : mref k 0 = false) (hx : Ix x (mlen Γ.2.1 k)) (hd : decode y.2.1 pc = .ok (.iaload, 1)) (kk : M ph Γ y d mc ms kc ks Q (pc + 1) L (vi (gI σ k i x.toNatClampNeg) :: S) σ) : M ph Γ y d mc ms kc ks Q pc L (vi x :: vq (some (k, i)) :: S) σ := by
  intro p l e s m args below meth c H locs ad0 ad ls st hc hG hst he hR hS hB hl hkk
  obtain ⟨st1, rfl, hk1⟩ := mk_i hkk
  obtain ⟨q, st', rfl, hq, hk'⟩ := mk_r hk1
  obtain ⟨⟨cell, c1, c2, c3⟩, -⟩ := hR.2.1 k i q hq
  obtain ⟨v, v1, v2⟩ := c3 x.toNatClampNeg hx.2
  unfold mhdr at c2
  rw [if_neg (by omega)] at c2
  unfold mpl at v2
  rw [if_neg (by omega)] at v2
  have hsv : sv ph σ k i x.toNatClampNeg = vi (gI σ k i x.toNatClampNeg) := by unfold sv; rw [mref_arr hk, hm]
  rw [hsv] at v1
  cases v1
  refine W.iald hc.1 hc.2.1 c1 (by rw [← mety_int hm]; exact c2.1) c2.2.1 (fun z => z.elim hx.1 (fun w => Nat.not_le.mpr hx.2 (Nat.le_trans c2.2.2.1.1 w))) v2 rfl rfl hd ?_
  exact kk p l e s m args below meth c H locs ad0 ad ls _ hc hG hst he hR hS hB hl (by simp [mv, hk'])
theorem M_iastore {k i : Nat} {x z : Int32} (hk : 10 ≤ k) (hk2 : k < 42) (hm : mref k 0 = false) (hx : Ix x (mlen Γ.2.1 k)) (hd : decode y.2.1 pc = .ok (.iastore, 1)) (kk : M ph Γ y d mc ms kc ks Q (pc + 1) L S (sI σ k i x.toNatClampNeg z)) : M ph Γ y d mc ms kc ks Q pc L (vi z :: vi x :: vq (some (k, i)) :: S) σ := by
  intro p l e s m args below meth c H locs ad0 ad ls st hc hG hst he hR hS hB hl hkk
  obtain ⟨st1, rfl, hk1⟩ := mk_i hkk
  obtain ⟨st2, rfl, hk2'⟩ := mk_i hk1
  obtain ⟨q, st', rfl, hq, hk'⟩ := mk_r hk2'
  obtain ⟨⟨cell, c1, c2, c3⟩, c4⟩ := hR.2.1 k i q hq
  unfold mhdr at c2
  rw [if_neg (by omega)] at c2
  have hpl : mpl Γ k x.toNatClampNeg = x.toNatClampNeg := by unfold mpl; rw [if_neg (by omega)]
  refine W.iast hc.1 hc.2.1 c1 (by rw [← mety_int hm]; exact c2.1) c2.2.1 (fun z => z.elim hx.1 (fun w => Nat.not_le.mpr hx.2 (Nat.le_trans c2.2.2.1.1 w))) rfl rfl hd fun H' e1 e2 e3 => ?_
  exact kk p l e s m args below meth c H' _ ad0 ad ls _ hc hG hst he (hR.put hG hk2 hq c1 hx.2 (w := vi z) rfl (sv_sI (by rw [mref_arr hk]; exact hm)) (fun _ _ _ h => sv_sI_ne h) (fun _ => rfl) (by rw [hpl]; exact e1) e2 e3) (hS.put e2 e3 (c4 hk2).1) hB hl hk'
theorem M_aaload {k i : Nat} {x : Int32} (hk : 10 ≤ k) (hm : mref k 0 = true) (hx : Ix x (mlen Γ.2.1 k)) (hd : decode y.2.1 pc = .ok (.aaload, 1)) (kk : M ph Γ y d mc ms kc ks Q (pc + 1) L (vq (mrf ph σ k i x.toNatClampNeg) :: S) σ) : M ph Γ y d mc ms kc ks Q pc L (vi x :: vq (some (k, i)) :: S) σ := by
  intro p l e s m args below meth c H locs ad0 ad ls st hc hG hst he hR hS hB hl hkk
  obtain ⟨st1, rfl, hk1⟩ := mk_i hkk
  obtain ⟨q, st', rfl, hq, hk'⟩ := mk_r hk1
  obtain ⟨⟨cell, c1, c2, c3⟩, -⟩ := hR.2.1 k i q hq
  obtain ⟨v, v1, v2⟩ := c3 x.toNatClampNeg hx.2
  unfold mhdr at c2
  rw [if_neg (by omega)] at c2
  unfold mpl at v2
  rw [if_neg (by omega)] at v2
  have hsv : sv ph σ k i x.toNatClampNeg = vq (mrf ph σ k i x.toNatClampNeg) := by unfold sv; rw [mref_arr hk, hm]
  rw [hsv] at v1
  refine W.aald (ty := .object (melc k)) hc.1 hc.2.1 c1 (by rw [← mety_ref hm]; exact c2.1) rfl c2.2.1 (fun z => z.elim hx.1 (fun w => Nat.not_le.mpr hx.2 (Nat.le_trans c2.2.2.1.1 w))) v2 rfl rfl hd ?_
  exact kk p l e s m args below meth c H locs ad0 ad ls _ hc hG hst he hR hS hB hl (by simp only [List.map_cons, v1, hk'])
theorem M_alen {k i : Nat} (hk : 10 ≤ k) (hd : decode y.2.1 pc = .ok (.arraylength, 1)) (kk : M ph Γ y d mc ms kc ks Q (pc + 1) L (vi (Int32.ofNat (mlen Γ.2.1 k)) :: S) σ) : M ph Γ y d mc ms kc ks Q pc L (vq (some (k, i)) :: S) σ := by
  intro p l e s m args below meth c H locs ad0 ad ls st hc hG hst he hR hS hB hl hkk
  obtain ⟨q, st', rfl, hq, hk'⟩ := mk_r hkk
  obtain ⟨⟨cell, c1, c2, c3⟩, -⟩ := hR.2.1 k i q hq
  unfold mhdr at c2
  rw [if_neg (by omega)] at c2
  refine W.alen (n := Int32.ofNat (mlen Γ.2.1 k)) hc.1 hc.2.1 c1 c2.1 c2.2.2.1.2 rfl rfl hd ?_
  exact kk p l e s m args below meth c H locs ad0 ad ls _ hc hG hst he hR hS hB hl (by simp [mv, hk'])
theorem M_ldc2 {idx : Nat} {v : Int64} (hw : Cond.constantLong y.1.cls idx v ∈ lw_tbl) (hd : decode y.2.1 pc = .ok (.ldc2_w idx, 3)) (kk : M ph Γ y d mc ms kc ks Q (pc + 3) L (vl v :: S) σ) : M ph Γ y d mc ms kc ks Q pc L S σ := by
  intro p l e s m args below meth c H locs ad0 ad ls st hc hG hst he hR hS hB hl hk
  exact lv_ldc2 hc.1 hc.2.1 hc.2.2.2.2.1 (hG.1 _ hw rfl args) hd (kk p l e s m args below meth c H locs ad0 ad ls _ hc hG hst he hR hS hB hl (by simp [mv, hk]))
theorem M_ldcw {idx : Nat} {v : Int32} (hw : Cond.constant y.1.cls idx v ∈ lw_tbl) (hd : decode y.2.1 pc = .ok (.ldc_w idx, 3)) (kk : M ph Γ y d mc ms kc ks Q (pc + 3) L (vi v :: S) σ) : M ph Γ y d mc ms kc ks Q pc L S σ := by
  intro p l e s m args below meth c H locs ad0 ad ls st hc hG hst he hR hS hB hl hk
  exact lv_ldcw hc.1 hc.2.1 hc.2.2.2.2.1 (hG.1 _ hw rfl args) hd (kk p l e s m args below meth c H locs ad0 ad ls _ hc hG hst he hR hS hB hl (by simp [mv, hk]))
theorem M_gets {k idx : Nat} {nm : String} (hk : (k, nm) ∈ mstats) (hw : Cond.fieldLink y.1.cls idx "PlatePeas" nm "[I" ∈ lw_tbl) (hd : decode y.2.1 pc = .ok (.getstatic idx, 3)) (kk : M ph Γ y d mc ms kc ks Q (pc + 3) L (vq (some (k, 0)) :: S) σ) : M ph Γ y d mc ms kc ks Q pc L S σ := by
  intro p l e s m args below meth c H locs ad0 ad ls st hc hG hst he hR hS hB hl hkk
  obtain ⟨q, h1, h2⟩ := hst _ hk
  exact va_gets hc.1 hc.2.1 h2 hS hc.2.2.2.2.1 (hG.1 _ hw rfl args) (fun _ h => h) hd (kk p l e s m args below meth c H locs ad0 ad ls _ hc hG hst he hR hS hB hl (by simp [mv, he _ _ h1, hkk]))
theorem M_getsN {k idx : Nat} {nm host : String} (hk : (k, nm) ∈ mstats) (hw : Cond.fieldLinkNest y.1.cls idx "PlatePeas" nm "[I" host ∈ lw_tbl) (hd : decode y.2.1 pc = .ok (.getstatic idx, 3)) (kk : M ph Γ y d mc ms kc ks Q (pc + 3) L (vq (some (k, 0)) :: S) σ) : M ph Γ y d mc ms kc ks Q pc L S σ := by
  intro p l e s m args below meth c H locs ad0 ad ls st hc hG hst he hR hS hB hl hkk
  obtain ⟨q, h1, h2⟩ := hst _ hk
  exact va_getsN hc.1 hc.2.1 h2 hS hc.2.2.2.2.1 (va_Nw.use rfl (hG.2.1 _ hw rfl)) (fun _ h => h) hd (kk p l e s m args below meth c H locs ad0 ad ls _ hc hG hst he hR hS hB hl (by simp [mv, he _ _ h1, hkk]))
end Heap1
end
section
/-! CALLS: a method's entry, and the ways a method is called -/
def mLa : List MV → List (Option MV)
  | [] => []
  | v :: vs => match mcat v with
    | 2 => some v :: none :: mLa vs
    | _ => some v :: mLa vs
theorem mcat_12 (v : MV) : mcat v = 1 ∨ mcat v = 2 := by
  rcases v with x | x | x
  · exact Or.inl rfl
  · exact Or.inr rfl
  · exact Or.inl rfl
theorem mLa_cons1 {v : MV} {vs : List MV} (h : mcat v = 1) : mLa (v :: vs) = some v :: mLa vs := by simp [mLa, h]
theorem mLa_cons2 {v : MV} {vs : List MV} (h : mcat v = 2) : mLa (v :: vs) = some v :: none :: mLa vs := by simp [mLa, h]
theorem mLa_ok {ad : MA → Option Nat} : ∀ {as : List MV} {ras : List Value}, as.map (mv ad) = ras.map some → (mLa as).length = (lg_sl ras).length ∧ ∀ (off k : Nat) (v : MV), (mLa as)[k]? = some (some v) → ∃ rv, mv ad v = some rv ∧ (off + k, rv) ∈ lv_args off ras
  | [], [], _ => ⟨rfl, fun off k v h => by simp [mLa] at h⟩
  | [], _ :: _, h => by simp at h
  | _ :: _, [], h => by simp at h
  | a :: as, r :: ras, h => by
    simp only [List.map_cons, List.cons.injEq] at h
    obtain ⟨ih1, ih2⟩ := mLa_ok h.2
    have hc := mv_cat1 h.1
    rcases mcat_12 a with e | e
    · have e' : ¬ r.category = 2 := by rw [hc, e]; decide
      rw [mLa_cons1 e]
      refine ⟨by simp only [List.length_cons, ih1, lg_sl, List.flatMap_cons, if_neg e', List.length_append, List.length_nil]; omega, fun off k v hk => ?_⟩
      cases k with
      | zero =>
        simp only [List.getElem?_cons_zero, Option.some.injEq] at hk
        subst hk
        exact ⟨r, h.1, List.mem_cons_self⟩
      | succ k =>
        rw [List.getElem?_cons_succ] at hk
        obtain ⟨rv, g1, g2⟩ := ih2 (off + 1) k v hk
        refine ⟨rv, g1, List.mem_cons_of_mem _ ?_⟩
        rw [if_neg e', show off + (k + 1) = off + 1 + k by omega]
        exact g2
    · have e' : r.category = 2 := by rw [hc, e]
      rw [mLa_cons2 e]
      refine ⟨by simp only [List.length_cons, ih1, lg_sl, List.flatMap_cons, if_pos e', List.length_append, List.length_nil]; omega, fun off k v hk => ?_⟩
      cases k with
      | zero =>
        simp only [List.getElem?_cons_zero, Option.some.injEq] at hk
        subst hk
        exact ⟨r, h.1, List.mem_cons_self⟩
      | succ k =>
        cases k with
        | zero => simp at hk
        | succ k =>
          rw [List.getElem?_cons_succ, List.getElem?_cons_succ] at hk
          obtain ⟨rv, g1, g2⟩ := ih2 (off + 2) k v hk
          refine ⟨rv, g1, List.mem_cons_of_mem _ ?_⟩
          rw [if_pos e', show off + (k + 1 + 1) = off + 2 + k by omega]
          exact g2
/-- the locals at a method's entry -/
def mL0 (as : List MV) (n : Nat) : List (Option MV) := mLa as ++ List.replicate (n - (mLa as).length) none
theorem Ct_intro {ph : Bool} {Γ : GG} {y : Mth} {d mc ms : Nat} {Q : Option MV → Sto → Prop} {as : List MV} {σ : Sto} (hpl : plainName y.1.cls = true) (hn : Nat.ble (mLa as).length y.2.2.1 = true) (h : M ph Γ y d mc ms 0 0 Q 0 (mL0 as y.2.2.1) [] σ) : Ct ph Γ y d mc ms as σ Q := by
  intro l ad ras hras
  have hn' : (mLa as).length ≤ y.2.2.1 := Nat.le_of_ble_eq_true hn
  refine Met.ofW (cc := y.2.1) (maxL := y.2.2.1) (ret := y.2.2.2) hpl rfl ?_
  intro p e s m args below meth c s₁ B hml hv
  obtain ⟨rfl, hG, hst, hR⟩ := hv
  obtain ⟨q1, q2⟩ := mLa_ok hras
  have hl := lv_entry ras (n := y.2.2.1) (by rw [← q1]; exact hn')
  rw [lg_entry_eq]
  refine h p l e s m _ below meth c s.heap [] ad ad _ [] ⟨B.exec, B.bytes, B.returns, hml, findClass_of_methodNamed B.named, B.notSynchronized, (name_of_methodNamed B.named B.method).1⟩ hG hst (fun _ _ h => h) hR va_S.rf hR.2.2 ⟨⟨hl.1, ?_⟩, hl.2.1, fun k v hk => ?_⟩ rfl
  · simp only [mL0, List.length_append, List.length_replicate]; omega
  · unfold mL0 at hk
    rcases Nat.lt_or_ge k (mLa as).length with hlt | hge
    · rw [List.getElem?_append_left hlt] at hk
      obtain ⟨rv, g1, g2⟩ := q2 0 k v hk
      exact ⟨rv, g1, by simpa using hl.2.2 _ g2⟩
    · rw [List.getElem?_append_right hge] at hk
      have := List.mem_of_getElem? hk
      simp at this
/-- how a call site runs the method y' (C: the receiver's class, or nothing) -/
def mRun (y : Mth) (pc : Nat) (y' : Mth) (C : String) (np : Nat) : Prop := ∀ (Γ : GG) (d mc ms kc ks d' mc' ms' : Nat) (p : Program) (l : Launch) (e : Env) (s : State) (m : MethodId) (args : Array Value) (below : List Frame) (meth : Method) (c : Code) (H : Heap) (locs : List Loc) (ls : Array Slot) (ras rest : List Value)
  (Pc : Array Value → State → Prop) (Qc : Array Value → State → Outcome → State → Prop) (free : Addr → Prop), mctx y p s m meth c → mG Γ s → Met l y'.1 [mcode y'] (mRm d' mc' ms') Pc Qc mc' ms' free → FrameBlind Pc → (∀ U : State, U.heap = H → s.WarmedH U.vm → Pc ras.toArray U) →
  (C = "" ∨ ∃ (b : Nat) (cellB : Cell) (cC : ClassId), ras.head? = some (.ref b) ∧ H[b]? = some cellB ∧ cellB.vm.isStatics = false ∧ s.vm.findClass C = some cellB.cls ∧ ClassAt s C cC) → d' + 1 ≤ d → ras.length = np → ls.size = y.2.2.1 → (rest.map fun v => v.category).sum ≤ 8 → kc + mc' ≤ mc → ks + ms' ≤ ms →
  va_Run p l e (mRm d mc ms) s m args below meth c H locs kc ks mc' ms' (F0 m pc ls (ras.reverse ++ rest)) rest (Qc ras.toArray) free
theorem mP_blind {ph : Bool} {Γ : GG} {ad : MA → Option Nat} {σ : Sto} {ras : List Value} : FrameBlind (mP ph Γ ad σ ras) := by
  intro a U g mk h
  obtain ⟨h1, h2, h3, h4⟩ := h
  have hal : U.vm.Alike (U.calling g mk a).vm := Vm.Alike.refl U.vm
  refine ⟨h1, ?_, h3.warm hal, h4.warm hal⟩
  obtain ⟨a1, a2, a3, ⟨b1, b2, b3⟩, ⟨c1, c2, c3⟩, ⟨d1, d2, d3⟩⟩ := h2
  have hvm : U.vm = (U.calling g mk a).vm := rfl
  refine ⟨fun w hw hg z => ?_, fun w hw hn => ?_, fun c q hq => u_Kn_moved hal (a3 c q hq), ⟨b1.moved hal, b2.moved hal, b3.moved hal⟩, ⟨va_Nw.same rfl hvm c1, va_Nw.same rfl hvm c2, va_Nw.same rfl hvm c3⟩, ⟨d1.moved hal, d2.moved hal, d3.moved hal⟩⟩
  · have h := a1 w hw hg z
    rcases good_of_word hg with hg' | ⟨ty, rfl⟩
    · simp only [Bool.and_eq_true] at hg'
      exact va_tabs hg'.1 hvm h
    · exact h
  · have h := a2 w hw hn
    cases w <;> first | (simp [nestW] at hn; done) | exact va_Nw.same rfl hvm h
section Calls1
variable {ph : Bool} {Γ : GG} {y : Mth} {d mc ms kc ks : Nat} {Q : Option MV → Sto → Prop} {pc : Nat} {L : List (Option MV)} {S : List MV} {σ : Sto}
/-- the receiver's kind and its class -/
def mrecv (C : String) (as : List MV) : Bool := decide (C = "") || (match as with
  | .inr (.inr (some (k, _))) :: _ => (match vwCl[k]? with | some q => decide (q.1 = C) | none => false)
  | _ => false)
theorem mcatS {ad : MA → Option Nat} : ∀ {S : List MV} {st : List Value}, S.map (mv ad) = st.map some → (st.map fun v => v.category).sum = (S.map mcat).sum
  | [], [], _ => rfl
  | [], _ :: _, h => by simp at h
  | _ :: _, [], h => by simp at h
  | v :: S, r :: st, h => by
    simp only [List.map_cons, List.cons.injEq] at h
    simp only [List.map_cons, List.sum_cons, mv_cat1 h.1, mcatS h.2]
theorem mapp_split {ad : MA → Option Nat} : ∀ {A B : List MV} {st : List Value}, (A ++ B).map (mv ad) = st.map some → ∃ a b, st = a ++ b ∧ A.map (mv ad) = a.map some ∧ B.map (mv ad) = b.map some
  | [], B, st, h => ⟨[], st, rfl, rfl, h⟩
  | v :: A, B, [], h => by simp at h
  | v :: A, B, r :: st, h => by
    simp only [List.cons_append, List.map_cons, List.cons.injEq] at h
    obtain ⟨a, b, rfl, h1, h2⟩ := mapp_split h.2
    exact ⟨r :: a, b, rfl, by simp only [List.map_cons, h.1, h1], h2⟩
theorem M_call {y' : Mth} {C : String} {np d' mc' ms' : Nat} {Q' : Option MV → Sto → Prop} {as rest : List MV} (hrun : mRun y pc y' C np) (hC : Ct ph Γ y' d' mc' ms' as σ Q') (hS : S = as.reverse ++ rest) (hlen : as.length = np) (hrec : mrecv C as = true) (hcat : (rest.map mcat).sum ≤ 8) (hd : d' + 1 ≤ d) (hkc : kc + mc' ≤ mc) (hks : ks + ms' ≤ ms)
    (kk : ∀ v σ', Q' v σ' → M ph Γ y d mc ms (kc + mc') (ks + ms') Q (pc + 3) L (v.toList ++ rest) σ') : M ph Γ y d mc ms kc ks Q pc L S σ := by
  subst hS
  intro p l e s m args below meth c H locs ad0 ad ls st hc hG hst he hR hS hB hl hk
  obtain ⟨ra, rrest, rfl, hra, hrr⟩ := mapp_split hk
  have hras : as.map (mv ad) = ra.reverse.map some := by
    have h := congrArg List.reverse hra
    simpa only [← List.map_reverse, List.reverse_reverse] using h
  have hk1 : ∀ q, q < Γ.1 → H[q]? = s.heap[q]? := fun q hq => hS.2.1 q (Nat.lt_of_lt_of_le hq hB) (Nat.not_le.mpr hq)
  have hrc : C = "" ∨ ∃ (b : Nat) (cellB : Cell) (cC : ClassId), ra.reverse.head? = some (.ref b) ∧ H[b]? = some cellB ∧ cellB.vm.isStatics = false ∧ s.vm.findClass C = some cellB.cls ∧ ClassAt s C cC := by
    simp only [mrecv, Bool.or_eq_true, decide_eq_true_eq] at hrec
    rcases hrec with h | h
    · exact Or.inl h
    · right
      split at h
      · rename_i k i tl
        cases hq : vwCl[k]? with
        | none => rw [hq] at h; cases h
        | some q =>
          rw [hq] at h
          simp only [decide_eq_true_eq] at h
          cases hrr2 : ra.reverse with
          | nil => rw [hrr2] at hras; simp at hras
          | cons r0 rt =>
            rw [hrr2] at hras
            simp only [List.map_cons, List.cons.injEq] at hras
            rcases mk_q hras.1 with ⟨e0, -⟩ | ⟨a, b, e0, hb, rfl⟩
            · cases e0
            · cases e0
              obtain ⟨⟨cell, c1, c2, -⟩, -⟩ := hR.2.1 k i b hb
              unfold mhdr at c2
              rw [if_pos (mcls_lt hq)] at c2
              have hkn := hG.2.2.1 k q hq
              exact ⟨b, cell, _, rfl, c1, by rw [c2.2]; rfl, by rw [← h, c2.1]; exact hkn.2.1, by rw [← h]; exact hkn.2⟩
      · cases h
  have hr := hrun Γ d mc ms kc ks d' mc' ms' p l e s m args below meth c H locs ls ra.reverse rrest (mP ph Γ ad σ ra.reverse) (mQ ph Γ Q' ad) (mA Γ) hc hG (hC l ad _ hras) mP_blind
    (fun U hU hW => ⟨rfl, hG.warm hW, ((hst.warm hW.alike).ext he).kept (by rw [hU]; exact hk1), by rw [hU]; exact hR.warm hW.alike⟩) hrc hd
    (by rw [← hlen, ← List.length_map (f := mv ad), hras, List.length_map]) hl.1.1 (by rw [mcatS hrr]; exact hcat) hkc hks
  rw [List.reverse_reverse] at hr
  intro T hT X
  obtain ⟨v, st₀, t, T', L', h0, X', hL', e1, e2, ⟨mvv, rv, σ', ad', hv, hm, hQ', hext, hR', hz, hfr⟩, stp⟩ := hr T hT X
  cases hv
  rw [h0] at hz hfr
  have hS' : va_S (mA Γ) s.heap t.heap (locs ++ L') := by
    refine ⟨Nat.le_trans hS.1 hz, fun q h1 h2 => ?_, fun q hq => ?_⟩
    · rw [hfr q (Nat.not_le.mp h2)]; exact hS.2.1 q h1 h2
    · rcases List.mem_append.mp hq with h | h
      · exact hS.2.2 q h
      · exact hL' q h
  have hal : t.vm.Alike s.vm := by rw [← e2]; exact X'.warmed.alike.symm
  obtain ⟨t2, a1, b1⟩ := kk mvv σ' hQ' p l e s m args below meth c t.heap (locs ++ L') ad0 ad' ls (v.toList ++ rrest) hc hG hst (fun a q h => hext a q (he a q h)) (hR'.warm hal) hS' hB (hl.ext hext) (by
    cases mvv with
    | none => cases v with
      | none => exact mv_exts hext hrr
      | some _ => simp at hm
    | some w => cases v with
      | none => simp at hm
      | some r =>
        simp only [Option.map_some, Option.some.injEq] at hm
        simp only [Option.toList, List.cons_append, List.nil_append, List.map_cons, hm, mv_exts hext hrr]) T' e1 X'
  exact ⟨t2, stp t2 a1, b1⟩
end Calls1
/-! the flavours -/
def mlensig (y : MethodName) (n : Nat) : Bool := decide ((parseMethodDescriptor y.desc).map (fun d => d.parameters.length) = some n)
theorem mlensig_spec {y : MethodName} {n : Nat} (h : mlensig y n = true) : ∀ sig, parseMethodDescriptor y.desc = some sig → n = sig.parameters.length := by
  intro sig hs
  have h2 := of_decide_eq_true h
  rw [hs] at h2
  exact (Option.some.inj h2).symm
def mnoMH (c : String) : Bool := decide (c ≠ "java/lang/invoke/MethodHandle") && decide (c ≠ "java/lang/invoke/VarHandle")
theorem mnoMH_spec {c : String} (h : mnoMH c = true) : c ≠ "java/lang/invoke/MethodHandle" ∧ c ≠ "java/lang/invoke/VarHandle" := by
  simpa [mnoMH] using h
theorem mws {Γ : GG} {s : State} (hG : mG Γ s) {y' : Mth} (hw : mcode y' ∈ lw_tbl) : ∀ w ∈ [mcode y'], ∀ (a' : Array Value) (U : State), s.WarmedH U.vm → w.before a' U = true := by
  intro w h a' U hW
  rw [List.mem_singleton.mp h]
  exact (hG.warm hW).1 _ hw rfl a'
theorem run_S {y y' : Mth} {pc idx np : Nat} (hd : decode y.2.1 pc = .ok (.invokestatic idx, 3)) (h1 : Cond.methodLink y.1.cls idx y'.1 ∈ lw_tbl) (h2 : Cond.static y'.1 ∈ lw_tbl) (h3 : Cond.initialized y'.1.cls ∈ lw_tbl) (h4 : mcode y' ∈ lw_tbl) (h5 : mlensig y'.1 np = true) (h6 : mnoMH y'.1.cls = true) (h7 : y'.2.2.1 ≤ 45) : mRun y pc y' "" np := by
  intro Γ d mc ms kc ks d' mc' ms' p l e s m args below meth c H locs ls ras rest Pc Qc free hc hG hM hbl hPc hrec hdd hlen hls hcat hkc hks
  exact va_runS (Ts := []) ⟨hc.1, hc.2.1, hc.2.2.2.1, hc.2.2.2.2.1, fun w h => by cases h⟩ hM ⟨⟨rfl, rfl, hdd, by show 8 + (y'.2.2.1 + 11) + 64 * d' ≤ 64 * d; omega, mws hG h4, List.mem_singleton.mpr rfl, hG.1 _ h4 rfl args, hG.1 _ h3 rfl args, mnoMH_spec h6, mlensig_spec h5, hG.1 _ h1 rfl args⟩, hG.1 _ h2 rfl args⟩ ⟨hbl, hPc⟩ rfl hlen hls rfl (by show 2 * 0 + _ ≤ 8; omega) hd ⟨hkc, hks⟩
theorem run_SN {y y' : Mth} {pc idx np : Nat} {host : String} (hd : decode y.2.1 pc = .ok (.invokestatic idx, 3)) (h1 : Cond.methodLinkNest y.1.cls idx y'.1 host ∈ lw_tbl) (h2 : Cond.static y'.1 ∈ lw_tbl) (h3 : Cond.initialized y'.1.cls ∈ lw_tbl) (h4 : mcode y' ∈ lw_tbl) (h5 : mlensig y'.1 np = true) (h6 : mnoMH y'.1.cls = true) (h7 : y'.2.2.1 ≤ 45) : mRun y pc y' "" np := by
  intro Γ d mc ms kc ks d' mc' ms' p l e s m args below meth c H locs ls ras rest Pc Qc free hc hG hM hbl hPc hrec hdd hlen hls hcat hkc hks
  exact va_runSN (Ts := []) ⟨hc.1, hc.2.1, hc.2.2.2.1, hc.2.2.2.2.1, fun w h => by cases h⟩ hM ⟨⟨⟨rfl, rfl, hdd, by show 8 + (y'.2.2.1 + 11) + 64 * d' ≤ 64 * d; omega, mws hG h4, List.mem_singleton.mpr rfl⟩, hG.1 _ h4 rfl args, hG.1 _ h3 rfl args, mnoMH_spec h6, mlensig_spec h5, va_Nw.use rfl (hG.2.1 _ h1 rfl)⟩, hG.1 _ h2 rfl args, trivial⟩ ⟨hbl, hPc⟩ rfl hlen hls rfl (by show 2 * 0 + _ ≤ 8; omega) hd ⟨hkc, hks⟩
theorem ras_cons {ras : List Value} {b : Nat} (h : ras.head? = some (.ref b)) : ∃ As, ras = .ref b :: As := by
  cases ras with
  | nil => cases h
  | cons r As => simp only [List.head?_cons, Option.some.injEq] at h; exact ⟨As, by rw [h]⟩
theorem run_V {y y' : Mth} {pc idx np : Nat} {C : String} (hd : decode y.2.1 pc = .ok (.invokevirtual idx, 3)) (hC : C ≠ "") (h1 : Cond.methodLink y.1.cls idx y'.1 ∈ lw_tbl) (h2 : Cond.instanceMethod y'.1 ∈ lw_tbl) (h2s : Cond.selects C y'.1 y'.1 ∈ lw_tbl) (h3 : Cond.initialized y'.1.cls ∈ lw_tbl) (h4 : mcode y' ∈ lw_tbl) (h5 : mlensig y'.1 np = true) (h6 : mnoMH y'.1.cls = true) (h7 : y'.2.2.1 ≤ 45) : mRun y pc y' C (np + 1) := by
  intro Γ d mc ms kc ks d' mc' ms' p l e s m args below meth c H locs ls ras rest Pc Qc free hc hG hM hbl hPc hrec hdd hlen hls hcat hkc hks
  obtain ⟨b, cellB, cC, r1, r2, r3, r4, r5⟩ := hrec.resolve_left hC
  obtain ⟨As, rfl⟩ := ras_cons r1
  exact va_runV (Ts := []) (As := As) ⟨hc.1, hc.2.1, hc.2.2.2.1, hc.2.2.2.2.1, fun w h => by cases h⟩ hM ⟨⟨rfl, rfl, hdd, by show 8 + (y'.2.2.1 + 11) + 64 * d' ≤ 64 * d; omega, mws hG h4, List.mem_singleton.mpr rfl, hG.1 _ h4 rfl args, hG.1 _ h3 rfl args, mnoMH_spec h6, mlensig_spec h5, hG.1 _ h1 rfl args⟩, hG.1 _ h2 rfl args, hG.1 _ h2s rfl args⟩ ⟨hbl, ⟨cellB, r2, r3, r4⟩, hPc⟩ rfl (by simpa using hlen) hls (by simp) (by show 2 * 0 + _ ≤ 8; omega) hd ⟨hkc, hks⟩
theorem run_U {y y' : Mth} {pc idx np : Nat} {C owner : String} {xm : MethodName} {b0 : ByteArray} {m0 : Nat} {r0 : Option FieldType} (hd : decode y.2.1 pc = .ok (.invokevirtual idx, 3)) (hC : C ≠ "") (h1 : Cond.methodLink y.1.cls idx xm ∈ lw_tbl) (hsm : Cond.sameMethod xm.cls owner xm.name xm.desc ∈ lw_tbl) (hi0 : Cond.instanceMethod ⟨owner, xm.name, xm.desc⟩ ∈ lw_tbl) (hc0 : Cond.code ⟨owner, xm.name, xm.desc⟩ b0 m0 r0 ∈ lw_tbl) (h2 : Cond.instanceMethod y'.1 ∈ lw_tbl) (h2s : Cond.selects C xm y'.1 ∈ lw_tbl) (h3 : Cond.initialized y'.1.cls ∈ lw_tbl) (h4 : mcode y' ∈ lw_tbl) (h5 : mlensig xm np = true) (h6 : mnoMH owner = true) (h7 : y'.2.2.1 ≤ 45) : mRun y pc y' C (np + 1) := by
  intro Γ d mc ms kc ks d' mc' ms' p l e s m args below meth c H locs ls ras rest Pc Qc free hc hG hM hbl hPc hrec hdd hlen hls hcat hkc hks
  obtain ⟨b, cellB, cC, r1, r2, r3, r4, r5⟩ := hrec.resolve_left hC
  obtain ⟨As, rfl⟩ := ras_cons r1
  exact va_runU (Ts := []) (As := As) ⟨hc.1, hc.2.1, hc.2.2.2.1, hc.2.2.2.2.1, fun w h => by cases h⟩ hM ⟨⟨rfl, rfl, hdd, by show 8 + (y'.2.2.1 + 11) + 64 * d' ≤ 64 * d; omega, mws hG h4, List.mem_singleton.mpr rfl⟩, hG.1 _ h4 rfl args, hG.1 _ h3 rfl args, mnoMH_spec h6, mlensig_spec h5, hG.1 _ h1 rfl args, hG.1 _ hsm rfl args, va_Decl.of (hG.1 _ hi0 rfl args) (hG.1 _ hc0 rfl args), hG.1 _ h2s rfl args, hG.1 _ h2 rfl args⟩ ⟨hbl, ⟨cellB, r2, r3, r4⟩, hPc⟩ rfl (by simpa using hlen) hls (by simp) (by show 2 * 0 + _ ≤ 8; omega) hd ⟨hkc, hks⟩
theorem run_SU {y y' : Mth} {pc idx np : Nat} {C : String} (hd : decode y.2.1 pc = .ok (.invokespecial idx, 3)) (hC : C ≠ "") (h1 : Cond.methodLink y.1.cls idx y'.1 ∈ lw_tbl) (hsm : Cond.sameMethod y'.1.cls y'.1.cls y'.1.name y'.1.desc ∈ lw_tbl) (hsup : Cond.superclass y.1.cls y'.1.cls ∈ lw_tbl) (h2 : Cond.instanceMethod y'.1 ∈ lw_tbl) (h3 : Cond.initialized y'.1.cls ∈ lw_tbl) (h4 : mcode y' ∈ lw_tbl) (h5 : mlensig y'.1 np = true) (h6 : y'.1.name ≠ "<init>") (h7 : y'.2.2.1 ≤ 45) : mRun y pc y' C (np + 1) := by
  intro Γ d mc ms kc ks d' mc' ms' p l e s m args below meth c H locs ls ras rest Pc Qc free hc hG hM hbl hPc hrec hdd hlen hls hcat hkc hks
  obtain ⟨b, cellB, cC, r1, r2, r3, r4, r5⟩ := hrec.resolve_left hC
  obtain ⟨As, rfl⟩ := ras_cons r1
  exact va_runSU (Ts := []) (As := As) r5 ⟨hc.1, hc.2.1, hc.2.2.2.1, hc.2.2.2.2.1, fun w h => by cases h⟩ hM ⟨⟨rfl, rfl, hdd, by show 8 + (y'.2.2.1 + 11) + 64 * d' ≤ 64 * d; omega, mws hG h4, List.mem_singleton.mpr rfl⟩, hG.1 _ h1 rfl args, hG.1 _ hsm rfl args, hG.1 _ hsup rfl args, hG.1 _ h2 rfl args, hG.1 _ h3 rfl args, hG.1 _ h4 rfl args, h6, mlensig_spec h5⟩ ⟨hbl, ⟨cellB, r2, r3, r4⟩, hPc⟩ rfl (by simpa using hlen) hls (by simp) (by show 2 * 0 + _ ≤ 8; omega) hd ⟨hkc, hks⟩
theorem run_I {y y' : Mth} {pc idx np : Nat} {C : String} (hd : decode y.2.1 pc = .ok (.invokespecial idx, 3)) (hC : C ≠ "") (hret : y'.2.2.2 = none) (hy : y'.1.name = "<init>") (h1 : Cond.methodLink y.1.cls idx y'.1 ∈ lw_tbl) (h2 : Cond.instanceMethod y'.1 ∈ lw_tbl) (h3 : Cond.initialized y'.1.cls ∈ lw_tbl) (h4 : mcode y' ∈ lw_tbl) (h5 : mlensig y'.1 np = true) (h6 : mnoMH y'.1.cls = true) (h7 : y'.2.2.1 ≤ 45) : mRun y pc y' C (np + 1) := by
  intro Γ d mc ms kc ks d' mc' ms' p l e s m args below meth c H locs ls ras rest Pc Qc free hc hG hM hbl hPc hrec hdd hlen hls hcat hkc hks
  obtain ⟨b, cellB, cC, r1, r2, r3, r4, r5⟩ := hrec.resolve_left hC
  obtain ⟨As, rfl⟩ := ras_cons r1
  obtain ⟨n', c', l', rt'⟩ := y'
  dsimp only at hret; subst hret
  exact va_runI (Ts := []) (As := As) ⟨hc.1, hc.2.1, hc.2.2.2.1, hc.2.2.2.2.1, fun w h => by cases h⟩ hM ⟨⟨rfl, rfl, hdd, by show 8 + (l' + 11) + 64 * d' ≤ 64 * d; dsimp only at h7; omega, mws hG h4, List.mem_singleton.mpr rfl, hG.1 _ h4 rfl args, hG.1 _ h3 rfl args, mnoMH_spec h6, mlensig_spec h5, hG.1 _ h1 rfl args⟩, hy, hG.1 _ h2 rfl args⟩ ⟨hbl, hPc⟩ rfl (by simpa using hlen) hls (by simp) (by show 2 * 0 + _ ≤ 8; omega) hd ⟨hkc, hks⟩
theorem run_IN {y y' : Mth} {pc idx np : Nat} {C host : String} (hd : decode y.2.1 pc = .ok (.invokespecial idx, 3)) (hC : C ≠ "") (hret : y'.2.2.2 = none) (hy : y'.1.name = "<init>") (h1 : Cond.methodLinkNest y.1.cls idx y'.1 host ∈ lw_tbl) (h2 : Cond.instanceMethod y'.1 ∈ lw_tbl) (h3 : Cond.initialized y'.1.cls ∈ lw_tbl) (h4 : mcode y' ∈ lw_tbl) (h5 : mlensig y'.1 np = true) (h6 : mnoMH y'.1.cls = true) (h7 : y'.2.2.1 ≤ 45) : mRun y pc y' C (np + 1) := by
  intro Γ d mc ms kc ks d' mc' ms' p l e s m args below meth c H locs ls ras rest Pc Qc free hc hG hM hbl hPc hrec hdd hlen hls hcat hkc hks
  obtain ⟨b, cellB, cC, r1, r2, r3, r4, r5⟩ := hrec.resolve_left hC
  obtain ⟨As, rfl⟩ := ras_cons r1
  obtain ⟨n', c', l', rt'⟩ := y'
  dsimp only at hret; subst hret
  exact va_runIN (Ts := []) (As := As) ⟨hc.1, hc.2.1, hc.2.2.2.1, hc.2.2.2.2.1, fun w h => by cases h⟩ hM ⟨⟨⟨rfl, rfl, hdd, by show 8 + (l' + 11) + 64 * d' ≤ 64 * d; dsimp only at h7; omega, mws hG h4, List.mem_singleton.mpr rfl⟩, hG.1 _ h4 rfl args, hG.1 _ h3 rfl args, mnoMH_spec h6, mlensig_spec h5, va_Nw.use rfl (hG.2.1 _ h1 rfl)⟩, hy, hG.1 _ h2 rfl args⟩ ⟨hbl, hPc⟩ rfl (by simpa using hlen) hls (by simp) (by show 2 * 0 + _ ≤ 8; omega) hd ⟨hkc, hks⟩
end
section
/-! NEW CELLS, references stored, instanceof, the JDK's own calls -/
theorem gN_sN_self (σ : Sto) (k : Nat) : gN (sN σ k) k = gN σ k + 1 := by simp [gN, sN]
theorem gN_sN_ne (σ : Sto) {k k' : Nat} (h : k' ≠ k) : gN (sN σ k) k' = gN σ k' := by simp [gN, sN, h]
theorem sv_sN_ne {ph : Bool} {σ : Sto} {k k' i' j' : Nat} (h : ¬ (k' = k ∧ i' = gN σ k)) : sv ph (sN σ k) k' i' j' = sv ph σ k' i' j' := by
  unfold sv
  have h' : ¬ (k' = k ∧ i' = σ.2.2 k) := h
  split
  · congr 1
    unfold mrf
    cases ph <;> simp [gR, sN, h']
  · simp [gI, sN, h']
/-- no reference of that kind is known ahead -/
def mplain (ph : Bool) (k : Nat) : Prop := ph = false ∨ ∀ j, mref k j = false
theorem sv_sN {ph : Bool} {σ : Sto} {k j : Nat} (h : mplain ph k) : sv ph (sN σ k) k (gN σ k) j = match mref k j with | true => vq none | false => vi 0 := by
  unfold sv
  cases hm : mref k j with
  | true =>
    rcases h with rfl | h
    · simp [mrf, gR, sN, gN]
    · rw [h j] at hm; cases hm
  | false => simp [gI, sN, gN]
theorem Rep.new {ph : Bool} {Γ : GG} {s : State} {ad : MA → Option Nat} {σ : Sto} {H H' : Heap} {k : Nat} {cell : Cell} (h : Rep ph Γ s ad σ H) (hk : k < 42) (e1 : H'[H.size]? = some cell) (e2 : H'.size = H.size + 1) (e3 : ∀ q, q < H.size → H'[q]? = H[q]?) (hh : mhdr Γ s k cell)
    (hp : mplain ph k) (hsl : ∀ j, j < mlen Γ.2.1 k → cell.slots[mpl Γ k j]? = some (match mref k j with | true => .null | false => .int 0)) :
    ∃ ad', ad' (k, gN σ k) = some H.size ∧ (∀ a q, ad a = some q → ad' a = some q) ∧ Rep ph Γ s ad' (sN σ k) H' := by
  have hfresh : ad (k, gN σ k) = none := by
    cases hq : ad (k, gN σ k) with
    | none => rfl
    | some q => exact absurd ((h.2.1 _ _ _ hq).2 hk).2 (Nat.lt_irrefl _)
  have hold : ∀ a q, ad a = some q → q < H.size := fun a q hq => by
    obtain ⟨⟨c0, c1, -⟩, -⟩ := h.2.1 a.1 a.2 q hq
    exact (Array.getElem?_eq_some_iff.mp c1).1
  have hext : ∀ a q, ad a = some q → (fun a => if a = (k, gN σ k) then some H.size else ad a) a = some q := fun a q hq => by
    have hne : a ≠ (k, gN σ k) := fun z => by rw [z, hfresh] at hq; cases hq
    simp only [if_neg hne, hq]
  refine ⟨fun a => if a = (k, gN σ k) then some H.size else ad a, by simp, hext, fun a b q ha42 ha hb => ?_, fun k' i' q hq => ?_, by rw [e2]; exact Nat.le_trans h.2.2 (Nat.le_succ _)⟩
  · by_cases ea : a = (k, gN σ k) <;> by_cases eb : b = (k, gN σ k)
    · rw [ea, eb]
    · simp only [if_pos ea, if_neg eb, Option.some.injEq] at ha hb
      exact absurd (hold _ _ hb) (by omega)
    · simp only [if_neg ea, if_pos eb, Option.some.injEq] at ha hb
      exact absurd (hold _ _ ha) (by omega)
    · simp only [if_neg ea, if_neg eb] at ha hb
      exact h.1 a b q ha42 ha hb
  · by_cases ea : (k', i') = (k, gN σ k)
    · simp only [if_pos ea, Option.some.injEq] at hq
      simp only [Prod.mk.injEq] at ea
      obtain ⟨rfl, rfl⟩ := ea
      subst hq
      refine ⟨⟨cell, e1, hh, fun j hj => ⟨_, ?_, hsl j hj⟩⟩, fun _ => ⟨h.2.2, by rw [gN_sN_self]; exact Nat.lt_succ_self _⟩⟩
      rw [sv_sN hp]
      cases mref k' j <;> rfl
    · simp only [if_neg ea] at hq
      obtain ⟨⟨c0, c1, c2, c3⟩, c4⟩ := h.2.1 k' i' q hq
      have hne : ¬ (k' = k ∧ i' = gN σ k) := fun z => ea (by rw [z.1, z.2])
      refine ⟨⟨c0, (e3 q (hold _ _ hq)).trans c1, c2, fun j hj => ?_⟩, fun hk' => ⟨(c4 hk').1, ?_⟩⟩
      · obtain ⟨v, v1, v2⟩ := c3 j hj
        exact ⟨v, by rw [sv_sN_ne hne]; exact mv_ext hext v1, v2⟩
      · have := (c4 hk').2
        by_cases hkk : k' = k
        · subst hkk; rw [gN_sN_self]; omega
        · rw [gN_sN_ne _ hkk]; exact this
theorem va_S.grow {A : Nat → Prop} {H0 H H1 : Heap} {locs : List Loc} (h : va_S A H0 H locs) (z : H1.size = H.size + 1) (oq : ∀ q : Nat, q < H.size → H1[q]? = H[q]?) : va_S A H0 H1 locs :=
  ⟨Nat.le_trans h.1 (by omega), fun x h1 h2 => (oq x (Nat.lt_of_lt_of_le h1 h.1)).trans (h.2.1 x h1 h2), h.2.2⟩
section Alloc1
variable {ph : Bool} {Γ : GG} {y : Mth} {d mc ms kc ks : Nat} {Q : Option MV → Sto → Prop} {pc : Nat} {L : List (Option MV)} {S : List MV} {σ : Sto}
theorem M_new {k idx : Nat} {r : vw_C} (hr : vwCl[k]? = some r) (hp : mplain ph k) (h1 : Cond.classLink y.1.cls idx r.1 ∈ lw_tbl) (h2 : Cond.instantiable r.1 r.2.2 ∈ lw_tbl) (h3 : Cond.initialized r.1 ∈ lw_tbl) (hd : decode y.2.1 pc = .ok (.new idx, 3)) (hkc : kc + 1 ≤ mc) (hks : ks + r.2.2 ≤ ms)
    (kk : M ph Γ y d mc ms (kc + 1) (ks + r.2.2) Q (pc + 3) L (vq (some (k, gN σ k)) :: S) (sN σ k)) : M ph Γ y d mc ms kc ks Q pc L S σ := by
  intro p l e s m args below meth c H locs ad0 ad ls st hc hG hst he hR hS hB hl hk
  have hKn := hG.2.2.1 k r hr
  have hk10 := mcls_lt hr
  refine W.newcK hc.1 hc.2.1 hc.2.2.2.2.1 (hG.1 _ h1 rfl args) (hG.1 _ h2 rfl args) (hG.1 _ h3 rfl args) rfl hd hkc hks hKn.2.1 rfl fun H1 kC hkC e1 z1 o1 => ?_
  obtain ⟨cell, b1, b2, b3, b4⟩ := u_born (fun j => (parseFieldDescriptor (r.2.1 j).2.2.1).getD .int) (mlays hG hr args) (fun w hw => hw) hKn hkC e1 (fun j hj => by obtain ⟨ty, ht, -⟩ := mty hr hj; rw [ht]; rfl)
  obtain ⟨ad', a1, a2, a3⟩ := hR.new (k := k) (by omega) b1 z1 o1 (by unfold mhdr; rw [if_pos hk10]; exact ⟨b2, b3⟩) hp (fun j hj => by
    rw [mlen_obj hr] at hj
    unfold mpl
    rw [if_pos hk10, b4 j hj]
    dsimp only
    obtain ⟨ty, ht, ⟨m0, rfl⟩ | ⟨m1, ⟨n, rfl⟩ | ⟨n, rfl⟩⟩⟩ := mty hr hj
    · rw [ht, m0]; rfl
    · rw [ht, m1]; rfl
    · rw [ht, m1]; rfl)
  exact kk p l e s m args below meth c H1 locs ad0 ad' ls _ hc hG hst (fun a q h => a2 a q (he a q h)) a3 (hS.grow z1 o1) hB (hl.ext a2) (by simp only [List.map_cons, mv, a1, Option.map_some, mv_exts a2 hk])
theorem M_newarr {k : Nat} {n : Int32} {N : Nat} (hk : 10 ≤ k) (hk2 : k < 42) (hm : mref k 0 = false) (hw : Cond.arrayClass .int ∈ lw_tbl) (hn : ¬ n < 0) (hN : n.toNatClampNeg = N) (hlen : mlen Γ.2.1 k = N) (hb4 : N * 4 ≤ 536870912) (hd : decode y.2.1 pc = .ok (.newarray .int, 2)) (hkc : kc + 1 ≤ mc) (hks : ks + N ≤ ms)
    (kk : M ph Γ y d mc ms (kc + 1) (ks + N) Q (pc + 2) L (vq (some (k, gN σ k)) :: S) (sN σ k)) : M ph Γ y d mc ms kc ks Q pc L (vi n :: S) σ := by
  intro p l e s m args below meth c H locs ad0 ad ls st hc hG hst he hR hS hB hl hkk
  obtain ⟨st', rfl, hk'⟩ := mk_i hkk
  refine va_newaK (atype := .int) hc.1 hc.2.1 (hG.1 _ hw rfl args) rfl hd rfl hn hN hb4 hkc hks rfl fun H1 cA e1 z1 o1 hAr hNm => ?_
  obtain ⟨ad', a1, a2, a3⟩ := hR.new (k := k) hk2 e1 z1 o1 (by
      unfold mhdr
      rw [if_neg (by omega)]
      exact ⟨by rw [mety_int hm]; exact hAr _ _, (fun h => by cases h), (by rw [arrV_size, hlen]; exact ⟨Nat.le_refl _, rfl⟩), (fun h => by rw [hm] at h; cases h)⟩) (Or.inr (fun j => by rw [mref_arr hk]; exact hm)) (fun j hj => by
      unfold mpl
      rw [if_neg (by omega), mref_arr hk, hm, arrV_read _ _ (by rw [← hlen]; exact hj)]
      rfl)
  exact kk p l e s m args below meth c H1 locs ad0 ad' ls _ hc hG hst (fun a q h => a2 a q (he a q h)) a3 (hS.grow z1 o1) hB (hl.ext a2) (by simp only [List.map_cons, mv, a1, Option.map_some, mv_exts a2 hk'])
theorem M_anew {k idx : Nat} {n : Int32} {N : Nat} (hph : ph = false) (hk : 10 ≤ k) (hk2 : k < 42) (hm : mref k 0 = true) (h1 : Cond.classLink y.1.cls idx (melc k) ∈ lw_tbl) (hn : ¬ n < 0) (hN : n.toNatClampNeg = N) (hlen : mlen Γ.2.1 k = N) (hb4 : N * 4 ≤ 536870912) (hd : decode y.2.1 pc = .ok (.anewarray idx, 3)) (hkc : kc + 1 ≤ mc) (hks : ks + N ≤ ms)
    (kk : M ph Γ y d mc ms (kc + 1) (ks + N) Q (pc + 3) L (vq (some (k, gN σ k)) :: S) (sN σ k)) : M ph Γ y d mc ms kc ks Q pc L (vi n :: S) σ := by
  intro p l e s m args below meth c H locs ad0 ad ls st hc hG hst he hR hS hB hl hkk
  obtain ⟨st', rfl, hk'⟩ := mk_i hkk
  subst hN
  have hAO : va_AO (melc k) s := by
    obtain ⟨a1, a2, a3⟩ := hG.2.2.2.1
    unfold melc
    split
    · exact a2
    · split
      · exact a3
      · exact a1
  refine W.anew hc.1 hc.2.1 hc.2.2.2.2.1 (hG.1 _ h1 rfl args) hAO.use rfl hd rfl hn hb4 hkc hks fun cA kA comp f1 f2 f3 f4 => ?_
  have z1 : (H.push ({ cls := cA, slots := Array.replicate n.toNatClampNeg .null, vm := .none } : Cell)).size = H.size + 1 := by simp
  have o1 : ∀ q, q < H.size → (H.push ({ cls := cA, slots := Array.replicate n.toNatClampNeg .null, vm := .none } : Cell))[q]? = H[q]? := fun q hq => by rw [Array.getElem?_push, if_neg (Nat.ne_of_lt hq)]
  obtain ⟨ad', a1, a2, a3⟩ := hR.new (k := k) (cell := ({ cls := cA, slots := Array.replicate n.toNatClampNeg .null, vm := .none } : Cell)) hk2 (by simp) z1 o1 (by
      unfold mhdr
      rw [if_neg (by omega)]
      exact ⟨⟨(fun z h => by cases h), kA, f2, comp, (by rw [mety_ref hm]; exact f3)⟩, (fun h => by cases h), (by rw [hlen]; simp), fun _ => ⟨kA, comp, f2, (by rw [mety_ref hm]; exact f3), f4⟩⟩) (Or.inl hph) (fun j hj => by
      unfold mpl
      rw [if_neg (by omega), mref_arr hk, hm]
      rw [hlen] at hj
      simp [hj])
  exact kk p l e s m args below meth c _ locs ad0 ad' ls _ hc hG hst (fun a q h => a2 a q (he a q h)) a3 (hS.grow z1 o1) hB (hl.ext a2) (by simp only [List.map_cons, mv, a1, Option.map_some, mv_exts a2 hk'])
/-- objects of kind k' may stand in an array of kind k -/
def mmay (k k' : Nat) : Bool := (Nat.beq k 13 && (Nat.beq k' 0 || Nat.beq k' 1 || Nat.beq k' 5)) || (Nat.beq k 17 && Nat.beq k' 6) || (Nat.beq k 23 && Nat.beq k' 4)
theorem mmay_spec {Γ : GG} {s : State} (hG : mG Γ s) {k k' : Nat} (h : mmay k k' = true) : ∃ r, vwCl[k']? = some r ∧ ∃ (comp : ClassId) (kc : Class), s.vm.findClass (melc k) = some comp ∧ s.vm.classes[comp]? = some kc ∧ s.vm.assignable (Γ.2.2.1 k') comp = true := by
  have own : ∀ (n : Nat) (r : vw_C), vwCl[n]? = some r → ∃ kc : Class, s.vm.findClass r.1 = some (Γ.2.2.1 n) ∧ s.vm.classes[Γ.2.2.1 n]? = some kc := fun n r hr => by
    obtain ⟨-, h1, kc, h2, -⟩ := hG.2.2.1 n r hr
    exact ⟨kc, h1, h2⟩
  simp only [mmay, Bool.or_eq_true, Bool.and_eq_true, Nat.beq_eq] at h
  rcases h with (⟨rfl, (rfl | rfl) | rfl⟩ | ⟨rfl, rfl⟩) | ⟨rfl, rfl⟩
  · obtain ⟨kc, h1, h2⟩ := own 0 _ rfl
    exact ⟨_, rfl, _, kc, h1, h2, va_assign (hG.2.2.1 0 _ rfl).2⟩
  · obtain ⟨kc, h1, h2⟩ := own 0 _ rfl
    obtain ⟨kc1, h3, h4⟩ := own 1 _ rfl
    exact ⟨_, rfl, _, kc, h1, h2, vb_asgC hG.2.2.2.2.1.1 _ _ h1 h3⟩
  · obtain ⟨kc, h1, h2⟩ := own 0 _ rfl
    obtain ⟨kc1, h3, h4⟩ := own 5 _ rfl
    exact ⟨_, rfl, _, kc, h1, h2, vb_asgC hG.2.2.2.2.1.2.1 _ _ h1 h3⟩
  · obtain ⟨kc, h1, h2⟩ := own 6 _ rfl
    exact ⟨_, rfl, _, kc, h1, h2, va_assign (hG.2.2.1 6 _ rfl).2⟩
  · obtain ⟨kc, h1, h2⟩ := own 4 _ rfl
    exact ⟨_, rfl, _, kc, h1, h2, va_assign (hG.2.2.1 4 _ rfl).2⟩
theorem M_aastore {k i k' i' : Nat} {x : Int32} (hk : 10 ≤ k) (hk2 : k < 42) (hm : mref k 0 = true) (hmay : mmay k k' = true) (hf : ph = false ∨ mfin k i x.toNatClampNeg = none) (hx : Ix x (mlen Γ.2.1 k)) (hd : decode y.2.1 pc = .ok (.aastore, 1))
    (kk : M ph Γ y d mc ms kc ks Q (pc + 1) L S (sR σ k i x.toNatClampNeg (some (k', i')))) : M ph Γ y d mc ms kc ks Q pc L (vq (some (k', i')) :: vi x :: vq (some (k, i)) :: S) σ := by
  intro p l e s m args below meth c H locs ad0 ad ls st hc hG hst he hR hS hB hl hkk
  obtain ⟨v, st1, rfl, hv, hk1⟩ := mk_r hkk
  obtain ⟨st2, rfl, hk2'⟩ := mk_i hk1
  obtain ⟨q, st', rfl, hq, hk'⟩ := mk_r hk2'
  obtain ⟨⟨cell, c1, c2, c3⟩, c4⟩ := hR.2.1 k i q hq
  obtain ⟨⟨cellV, v1, v2, -⟩, -⟩ := hR.2.1 k' i' v hv
  obtain ⟨r, hr, comp, kcm, g1, g2, g3⟩ := mmay_spec hG hmay
  have hV : cellV.cls = Γ.2.2.1 k' ∧ cellV.vm = .none := by
    unfold mhdr at v2
    rw [if_pos (mcls_lt hr)] at v2
    exact v2
  obtain ⟨-, -, kV, hkV, -⟩ := hG.2.2.1 k' r hr
  unfold mhdr at c2
  rw [if_neg (by omega)] at c2
  have hpl : mpl Γ k x.toNatClampNeg = x.toNatClampNeg := by unfold mpl; rw [if_neg (by omega)]
  obtain ⟨kA, comp', b1, b2, b3⟩ := c2.2.2.2 hm
  cases g1.symm.trans b3
  rw [mety_ref hm] at b2
  refine W.aast hc.1 hc.2.1 c1 c2.1.1 c2.2.1 b1 b2 rfl g2 ⟨hx.1, Nat.lt_of_lt_of_le hx.2 c2.2.2.1.1⟩ v1 (fun z h => by rw [hV.2] at h; cases h) (by rw [hV.1]; exact hkV) (by rw [hV.1]; exact g3) rfl rfl hd fun H' e1 e2 e3 => ?_
  exact kk p l e s m args below meth c H' _ ad0 ad ls _ hc hG hst he (hR.put hG hk2 hq c1 hx.2 (w := vq (some (k', i'))) (v := .ref v) (by simp [mv, hv]) (sv_sR (by rw [mref_arr hk]; exact hm) hf) (fun _ _ _ h => sv_sR_ne h) (fun _ => rfl) (by rw [hpl]; exact e1) e2 e3) (hS.put e2 e3 (c4 hk2).1) hB hl hk'
def minst (k : Nat) (nm : String) : Option Int32 := if nm = "PlatePeas$Knife" then (if k = 0 then some 0 else if k = 1 then some 1 else if k = 5 then some 1 else none) else if nm = "PlatePeas$Spoon" then (if k = 0 then some 0 else if k = 1 then some 0 else if k = 5 then some 1 else none) else none
theorem M_instanceof {k i idx : Nat} {nm : String} {r : Int32} (hr : minst k nm = some r) (h1 : Cond.classLink y.1.cls idx nm ∈ lw_tbl) (hd : decode y.2.1 pc = .ok (.instanceof idx, 3)) (kk : M ph Γ y d mc ms kc ks Q (pc + 3) L (vi r :: S) σ) : M ph Γ y d mc ms kc ks Q pc L (vq (some (k, i)) :: S) σ := by
  intro p l e s m args below meth c H locs ad0 ad ls st hc hG hst he hR hS hB hl hkk
  obtain ⟨q, st', rfl, hq, hk'⟩ := mk_r hkk
  obtain ⟨⟨cell, c1, c2, -⟩, -⟩ := hR.2.1 k i q hq
  have K : W p l e (mRm d mc ms) s m args below meth c H locs kc ks (MQ below (mQ ph Γ Q ad0) args s mc ms (mA Γ)) (F0 m (pc + 3) ls (.int r :: st')) := kk p l e s m args below meth c H locs ad0 ad ls _ hc hG hst he hR hS hB hl (by simp [mv, hk'])
  have hlk := hG.1 _ h1 rfl args
  obtain ⟨k1, k2, k3⟩ := hG.2.2.2.2.1
  obtain ⟨n1, n2, n3⟩ := hG.2.2.2.2.2
  have rc : ∀ (n : Nat) (w : vw_C), vwCl[n]? = some w → k = n → ∃ cell : Cell, H[q]? = some cell ∧ cell.vm.isStatics = false ∧ s.vm.findClass w.1 = some cell.cls := fun n w hw e0 => by
    subst e0
    unfold mhdr at c2
    rw [if_pos (mcls_lt hw)] at c2
    exact ⟨cell, c1, by rw [c2.2]; rfl, by rw [c2.1]; exact (hG.2.2.1 k w hw).2.1⟩
  unfold minst at hr
  split at hr
  · rename_i e1; subst e1
    split at hr
    · rename_i e0; cases hr; exact va_instNo hc.1 hc.2.1 hc.2.2.2.2.1 hlk n1 (rc 0 _ rfl e0) hd K
    · split at hr
      · rename_i e0; cases hr; exact va_instS hc.1 hc.2.1 hc.2.2.2.2.1 hlk (hG.2.2.1 1 _ rfl).2 (rc 1 _ rfl e0) hd K
      · split at hr
        · rename_i e0; cases hr; exact va_instY hc.1 hc.2.1 hc.2.2.2.2.1 hlk k3 (rc 5 _ rfl e0) hd K
        · cases hr
  · split at hr
    · rename_i e1; subst e1
      split at hr
      · rename_i e0; cases hr; exact va_instNo hc.1 hc.2.1 hc.2.2.2.2.1 hlk n2 (rc 0 _ rfl e0) hd K
      · split at hr
        · rename_i e0; cases hr; exact va_instNo hc.1 hc.2.1 hc.2.2.2.2.1 hlk n3 (rc 1 _ rfl e0) hd K
        · split at hr
          · rename_i e0; cases hr; exact va_instS hc.1 hc.2.1 hc.2.2.2.2.1 hlk (hG.2.2.1 5 _ rfl).2 (rc 5 _ rfl e0) hd K
          · cases hr
    · cases hr
theorem M_objInit {k i idx : Nat} (hk : k < 10) (h1 : Cond.methodLink y.1.cls idx Lib.objectInit ∈ lw_tbl) (h2 : Cond.instanceMethod Lib.objectInit ∈ lw_tbl) (h3 : Cond.code Lib.objectInit ⟨#[0xb1]⟩ 1 none ∈ lw_tbl) (hcat : (S.map mcat).sum ≤ 8) (hdd : 1 ≤ d) (hd : decode y.2.1 pc = .ok (.invokespecial idx, 3)) (kk : M ph Γ y d mc ms kc ks Q (pc + 3) L S σ) : M ph Γ y d mc ms kc ks Q pc L (vq (some (k, i)) :: S) σ := by
  intro p l e s m args below meth c H locs ad0 ad ls st hc hG hst he hR hS hB hl hkk
  obtain ⟨q, st', rfl, hq, hk'⟩ := mk_r hkk
  refine W.objInit hc.1 hc.2.1 hc.2.2.2.2.1 (hG.1 _ h1 rfl args) (hG.1 _ h2 rfl args) (hG.1 _ h3 rfl args) rfl (hl.1.1.trans hc.2.2.2.1.symm) rfl hd hdd (by
    have hcs := mcatS hk'
    show 2 * 0 + (st'.map fun v => v.category).sum + 12 ≤ 64 * d
    rw [hcs]; omega) ?_
  exact kk p l e s m args below meth c H locs ad0 ad ls _ hc hG hst he hR hS hB hl hk'
theorem M_max {a b : Int32} {idx : Nat} (h1 : Cond.methodLink y.1.cls idx Lib.Math.max.name ∈ lw_tbl) (h2 : Cond.static Lib.Math.max.name ∈ lw_tbl) (h3 : Cond.initialized "java/lang/Math" ∈ lw_tbl) (h4 : Cond.code Lib.Math.max.name Lib.Math.max.code 2 (some .int) ∈ lw_tbl) (hcat : (S.map mcat).sum ≤ 8) (hdd : 1 ≤ d) (hkc : kc ≤ mc) (hks : ks ≤ ms) (hd : decode y.2.1 pc = .ok (.invokestatic idx, 3))
    (kk : M ph Γ y d mc ms kc ks Q (pc + 3) L (vi (if a < b then b else a) :: S) σ) : M ph Γ y d mc ms kc ks Q pc L (vi b :: vi a :: S) σ := by
  intro p l e s m args below meth c H locs ad0 ad ls st hc hG hst he hR hS hB hl hkk
  obtain ⟨st1, rfl, hk1⟩ := mk_i hkk
  obtain ⟨st2, rfl, hk2⟩ := mk_i hk1
  exact va_mmax hc.1 hc.2.1 (hc.2.2.2.1.trans hl.1.1.symm) hc.2.2.2.2.1 (hG.1 _ h1 rfl args) (hG.1 _ h2 rfl args) (hG.1 _ h3 rfl args) (hG.1 _ h4 rfl args) hdd (by rw [mcatS hk2]; show _ + 13 ≤ 64 * d; omega) hkc hks hd (kk p l e s m args below meth c H locs ad0 ad ls _ hc hG hst he hR hS hB hl (by simp [mv, hk2]))
theorem M_min {a b : Int32} {idx : Nat} (h1 : Cond.methodLink y.1.cls idx Lib.Math.min.name ∈ lw_tbl) (h2 : Cond.static Lib.Math.min.name ∈ lw_tbl) (h3 : Cond.initialized "java/lang/Math" ∈ lw_tbl) (h4 : Cond.code Lib.Math.min.name Lib.Math.min.code 2 (some .int) ∈ lw_tbl) (hcat : (S.map mcat).sum ≤ 8) (hdd : 1 ≤ d) (hkc : kc ≤ mc) (hks : ks ≤ ms) (hd : decode y.2.1 pc = .ok (.invokestatic idx, 3))
    (kk : M ph Γ y d mc ms kc ks Q (pc + 3) L (vi (if b < a then b else a) :: S) σ) : M ph Γ y d mc ms kc ks Q pc L (vi b :: vi a :: S) σ := by
  intro p l e s m args below meth c H locs ad0 ad ls st hc hG hst he hR hS hB hl hkk
  obtain ⟨st1, rfl, hk1⟩ := mk_i hkk
  obtain ⟨st2, rfl, hk2⟩ := mk_i hk1
  exact va_mmin hc.1 hc.2.1 (hc.2.2.2.1.trans hl.1.1.symm) hc.2.2.2.2.1 (hG.1 _ h1 rfl args) (hG.1 _ h2 rfl args) (hG.1 _ h3 rfl args) (hG.1 _ h4 rfl args) hdd (by rw [mcatS hk2]; show _ + 13 ≤ 64 * d; omega) hkc hks hd (kk p l e s m args below meth c H locs ad0 ad ls _ hc hG hst he hR hS hB hl (by simp [mv, hk2]))
end Alloc1
end
section
/-! System.arraycopy between rows of ints -/
def cpI (σ : Sto) (k i sp k2 i2 dp n : Nat) : Sto := (fun a b c => if a = k2 ∧ b = i2 ∧ dp ≤ c ∧ c < dp + n then σ.1 k i (sp + (c - dp)) else σ.1 a b c, σ.2.1, σ.2.2)
theorem Rep.upd {ph : Bool} {Γ : GG} {s : State} {ad : MA → Option Nat} {σ σ' : Sto} {H H' : Heap} {k i q : Nat} {cell' : Cell} (h : Rep ph Γ s ad σ H) (hk42 : k < 42) (hq : ad (k, i) = some q) (hN : ∀ k', gN σ' k' = gN σ k') (ho : ∀ k' i' j', ¬ (k' = k ∧ i' = i) → sv ph σ' k' i' j' = sv ph σ k' i' j')
    (e1 : H'[q]? = some cell') (e2 : H'.size = H.size) (e3 : ∀ x, x ≠ q → H'[x]? = H[x]?) (hh : mhdr Γ s k cell') (hs : ∀ j, j < mlen Γ.2.1 k → ∃ v, mv ad (sv ph σ' k i j) = some v ∧ cell'.slots[mpl Γ k j]? = some v) : Rep ph Γ s ad σ' H' := by
  refine ⟨h.1, fun k' i' q' hq' => ?_, by rw [e2]; exact h.2.2⟩
  obtain ⟨⟨c0, c1, c2, c3⟩, c4⟩ := h.2.1 k' i' q' hq'
  refine ⟨?_, fun hk => by rw [hN]; exact c4 hk⟩
  by_cases hqq : q' = q
  · subst hqq
    have hki := h.1 _ _ _ hk42 hq hq'
    simp only [Prod.mk.injEq] at hki
    obtain ⟨rfl, rfl⟩ := hki
    exact ⟨cell', e1, hh, hs⟩
  · have hne : ¬ (k' = k ∧ i' = i) := fun z => hqq (Option.some.inj (hq'.symm.trans (by rw [z.1, z.2]; exact hq)))
    exact ⟨c0, (e3 q' hqq).trans c1, c2, fun j' hj' => by rw [ho _ _ _ hne]; exact c3 j' hj'⟩
theorem nn_clamp {z : Int32} (hz : ¬ z < 0) : z.toInt = (z.toNatClampNeg : Int) := by
  have hz0 : (0 : Int) ≤ z.toInt := by
    have := Int32.not_lt.mp hz
    simpa using Int32.le_iff_toInt_le.mp this
  show z.toInt = ((z.toInt.toNat : Nat) : Int)
  omega
theorem nfw : nativeFrameWords "java/lang/System" "arraycopy" 5 + 11 ≤ 56 := by decide +kernel
section Copy1
variable {ph : Bool} {Γ : GG} {y : Mth} {d mc ms kc ks : Nat} {Q : Option MV → Sto → Prop} {pc : Nat} {L : List (Option MV)} {S : List MV} {σ : Sto}
theorem M_arraycopy {k i k2 i2 idx : Nat} {sp dp n : Int32} (hk : 10 ≤ k) (hm : mref k 0 = false) (hk2 : 10 ≤ k2) (hk3 : k2 < 42) (hm2 : mref k2 0 = false) (h1 : ¬ sp < 0) (h2 : ¬ dp < 0) (h3 : ¬ n < 0) (h4 : sp.toNatClampNeg + n.toNatClampNeg ≤ mlen Γ.2.1 k) (h5 : dp.toNatClampNeg + n.toNatClampNeg ≤ mlen Γ.2.1 k2)
    (w1 : Cond.methodLink y.1.cls idx arraycopyName ∈ lw_tbl) (w2 : Cond.native arraycopyName ∈ lw_tbl) (w3 : Cond.static arraycopyName ∈ lw_tbl) (w4 : Cond.initialized "java/lang/System" ∈ lw_tbl) (hcat : (S.map mcat).sum ≤ 8) (hdd : 1 ≤ d) (hd : decode y.2.1 pc = .ok (.invokestatic idx, 3))
    (kk : M ph Γ y d mc ms kc ks Q (pc + 3) L S (cpI σ k i sp.toNatClampNeg k2 i2 dp.toNatClampNeg n.toNatClampNeg)) : M ph Γ y d mc ms kc ks Q pc L (vi n :: vi dp :: vq (some (k2, i2)) :: vi sp :: vq (some (k, i)) :: S) σ := by
  intro p l e s m args below meth c H locs ad0 ad ls st hc hG hst he hR hS hB hl hkk
  obtain ⟨st1, rfl, hk1⟩ := mk_i hkk
  obtain ⟨st2, rfl, hk2'⟩ := mk_i hk1
  obtain ⟨q2, st3, rfl, hq2, hk3'⟩ := mk_r hk2'
  obtain ⟨st4, rfl, hk4⟩ := mk_i hk3'
  obtain ⟨q, st5, rfl, hq, hk5⟩ := mk_r hk4
  obtain ⟨⟨cs, c1, c2, c3⟩, -⟩ := hR.2.1 k i q hq
  obtain ⟨⟨cd, d1, d2, d3⟩, d4⟩ := hR.2.1 k2 i2 q2 hq2
  have d2' := d2
  unfold mhdr at c2 d2
  rw [if_neg (by omega)] at c2 d2
  have cint : ∀ j, j < mlen Γ.2.1 k → cs.slots[j]? = some (.int (gI σ k i j)) := fun j hj => by
    obtain ⟨v, v1, v2⟩ := c3 j hj
    unfold mpl at v2
    rw [if_neg (by omega)] at v2
    unfold sv at v1
    rw [mref_arr hk, hm] at v1
    cases v1
    exact v2
  obtain ⟨hco, kS, hkS, cmS, hkkS⟩ := c2.1
  obtain ⟨hdo, kD, hkD, cmD, hkkD⟩ := d2.1
  rw [mety_int hm] at hkkS
  rw [mety_int hm2] at hkkD
  intro T hT X
  obtain ⟨vm', X', step⟩ := X.arraycopy hc.1 hc.2.2.2.2.1 (hG.1 _ w1 rfl args) (hG.1 _ w2 rfl args) (hG.1 _ w3 rfl args) (hG.1 _ w4 rfl args) (src := q) (dst := q2) (cs := cs) (cd := cd) (srcPos := sp) (destPos := dp) (n := n) (by rw [hT]; exact c1) (by rw [hT]; exact d1)
    hco hdo c2.2.1 d2.2.1 hkS hkD hkkS hkkD (by decide) h1 h2 h3
    (by have hh := c2.2.2.1.1; rw [nn_clamp h1, nn_clamp h3]; omega)
    (by have hh := d2.2.2.1.1; rw [nn_clamp h2, nn_clamp h3]; omega)
    (fun vm₁ _ j hj => by
      have e0 : cs.slots.getD (sp.toNatClampNeg + j) .null = .int (gI σ k i (sp.toNatClampNeg + j)) := by
        rw [Array.getD_eq_getD_getElem?, cint _ (by omega)]
        rfl
      rw [e0]
      exact ⟨rfl, trivial⟩)
    (g := F0 m pc ls (.int n :: .int dp :: .ref q2 :: .int sp :: .ref q :: st5)) rfl (hl.1.1.trans hc.2.2.2.1.symm) (rest := st5) rfl (by rw [hc.2.1]; exact hd) hdd (by
      have h0 := mcatS hk5
      have h9 := nfw
      show 2 * 0 + (st5.map fun v => v.category).sum + _ ≤ 64 * d
      rw [h0]; omega)
  have hlt : q2 < H.size := (Array.getElem?_eq_some_iff.mp d1).1
  have hlen : (cs.stretch sp.toNatClampNeg n.toNatClampNeg).length = n.toNatClampNeg := by simp [Cell.stretch]
  have hfacts := cd.storeRun_facts dp.toNatClampNeg (cs.stretch sp.toNatClampNeg n.toNatClampNeg)
  have hget := fun j => cd.storeRun_get dp.toNatClampNeg (cs.stretch sp.toNatClampNeg n.toNatClampNeg) j (by rw [hlen]; exact Nat.le_trans h5 d2.2.2.1.1)
  have hRep : Rep ph Γ s ad (cpI σ k i sp.toNatClampNeg k2 i2 dp.toNatClampNeg n.toNatClampNeg) (H.setIfInBounds q2 (cd.storeRun dp.toNatClampNeg (cs.stretch sp.toNatClampNeg n.toNatClampNeg))) := by
    refine hR.upd (cell' := cd.storeRun dp.toNatClampNeg (cs.stretch sp.toNatClampNeg n.toNatClampNeg)) hk3 hq2 (fun _ => rfl) (fun k' i' j' hne => ?_) (by simp [Array.getElem?_setIfInBounds, hlt]) (by simp) (fun x hx => by simp [Array.getElem?_setIfInBounds, Ne.symm hx]) ?_ (fun j hj => ?_)
    · unfold sv
      split
      · rfl
      · congr 1
        show (if _ then _ else _) = _
        rw [if_neg (fun z => hne ⟨z.1, z.2.1⟩)]
        rfl
    · unfold mhdr
      rw [if_neg (by omega)]
      obtain ⟨f1, f2, f3, -⟩ := hfacts
      refine ⟨⟨fun z => by rw [f2]; exact hdo z, kD, by rw [f1]; exact hkD, cmD, by rw [mety_int hm2]; exact hkkD⟩, by rw [f2]; exact d2.2.1, by rw [f3]; exact d2.2.2.1, fun h => by rw [hm2] at h; cases h⟩
    · have hsv : sv ph (cpI σ k i sp.toNatClampNeg k2 i2 dp.toNatClampNeg n.toNatClampNeg) k2 i2 j = vi (gI (cpI σ k i sp.toNatClampNeg k2 i2 dp.toNatClampNeg n.toNatClampNeg) k2 i2 j) := by unfold sv; rw [mref_arr hk2, hm2]
      refine ⟨_, by rw [hsv]; rfl, ?_⟩
      unfold mpl
      rw [if_neg (by omega), hget j, hlen]
      by_cases hin : dp.toNatClampNeg ≤ j ∧ j < dp.toNatClampNeg + n.toNatClampNeg
      · rw [if_pos hin]
        have e5 : gI (cpI σ k i sp.toNatClampNeg k2 i2 dp.toNatClampNeg n.toNatClampNeg) k2 i2 j = gI σ k i (sp.toNatClampNeg + (j - dp.toNatClampNeg)) := by
          show (if _ then _ else _) = _
          rw [if_pos ⟨rfl, rfl, hin.1, hin.2⟩]
          rfl
        rw [e5]
        unfold Cell.stretch
        rw [List.getElem?_map, List.getElem?_range (by omega)]
        simp only [Option.map_some]
        rw [Array.getD_eq_getD_getElem?, cint _ (by omega)]
        rfl
      · rw [if_neg hin]
        have e5 : gI (cpI σ k i sp.toNatClampNeg k2 i2 dp.toNatClampNeg n.toNatClampNeg) k2 i2 j = gI σ k2 i2 j := by
          show (if _ then _ else _) = _
          rw [if_neg (fun z => hin z.2.2)]
          rfl
        rw [e5]
        obtain ⟨v, v1, v2⟩ := d3 j hj
        unfold mpl at v2
        rw [if_neg (by omega)] at v2
        unfold sv at v1
        rw [mref_arr hk2, hm2] at v1
        cases v1
        exact v2
  have hA2 : Γ.1 ≤ q2 := (d4 hk3).1
  obtain ⟨t, a1, b1⟩ := kk p l e s m args below meth c _ (locs ++ (cs.stretch sp.toNatClampNeg n.toNatClampNeg).zipIdx.map fun z => ⟨q2, dp.toNatClampNeg + z.2⟩) ad0 ad ls st5 hc hG hst he hRep
    ⟨by simp; exact hS.1, fun x g1 g2 => by
      have hne : x ≠ q2 := fun z => g2 (by rw [z]; exact hA2)
      rw [show (H.setIfInBounds q2 (cd.storeRun dp.toNatClampNeg (cs.stretch sp.toNatClampNeg n.toNatClampNeg)))[x]? = H[x]? by simp [Array.getElem?_setIfInBounds, Ne.symm hne]]
      exact hS.2.1 x g1 g2, fun z hz => by
      rcases List.mem_append.mp hz with h | h
      · exact hS.2.2 z h
      · obtain ⟨w, -, hw⟩ := List.mem_map.mp h
        rw [← hw]
        exact hA2⟩ hB hl hk5 _ (by rw [← hT]; rfl) X'
  exact ⟨t, step t a1, b1⟩
end Copy1
end
section
/-! THE RULES as the generated rows use them: the next counter stands as a number, values stand plain; Out: what a function with a fault gives -/
def Out {α : Type} (o : Option α) (K : α → Prop) : Prop := ∃ r, o = some r ∧ K r
theorem Out_some {α : Type} {r : α} {K : α → Prop} (h : Out (some r) K) : K r := by
  obtain ⟨r', e, h⟩ := h
  cases e
  exact h
theorem Out_none {α : Type} {K : α → Prop} (h : Out (none : Option α) K) : False := by
  obtain ⟨r', e, -⟩ := h
  cases e
theorem Out_pos {α : Type} {c : Prop} {i : Decidable c} {A B : Option α} {K : α → Prop} (hc : c) (h : Out (@ite _ c i A B) K) : Out A K := by rwa [if_pos hc] at h
theorem Out_neg {α : Type} {c : Prop} {i : Decidable c} {A B : Option α} {K : α → Prop} (hc : ¬ c) (h : Out (@ite _ c i A B) K) : Out B K := by rwa [if_neg hc] at h
/-- what must hold, or there is a fault -/
theorem Out_grd {α : Type} {c : Prop} {i : Decidable c} {A : Option α} {K : α → Prop} (h : Out (@ite _ c i A none) K) : c ∧ Out A K := by
  by_cases hc : c
  · exact ⟨hc, Out_pos hc h⟩
  · exact absurd (Out_neg hc h) Out_none
theorem Out_bind {α β : Type} {o : Option α} {g : α → Option β} {K : β → Prop} (h : Out (o.bind g) K) : Out o (fun r => Out (g r) K) := by
  obtain ⟨r, e, hr⟩ := h
  cases o with
  | none => cases e
  | some a => exact ⟨a, rfl, r, e, hr⟩
theorem Out_mono {α : Type} {o : Option α} {K K' : α → Prop} (h : Out o K) (hk : ∀ r, K r → K' r) : Out o K' := by
  obtain ⟨r, e, hr⟩ := h
  exact ⟨r, e, hk r hr⟩
/-- a reference: nothing, or of a kind and an instance -/
def rcs {α : Type} (r : Option MA) (n : α) (f : Nat → Nat → α) : α := match r with
  | none => n
  | some (k, i) => f k i
/-- a reference that must be of a kind -/
def dr {α : Type} (k0 : Nat) (r : Option MA) (f : Nat → Option α) : Option α := match r with
  | none => none
  | some (k, i) => if k = k0 then f i else none
theorem Out_dr {α : Type} {k0 : Nat} {r : Option MA} {f : Nat → Option α} {K : α → Prop} (h : Out (dr k0 r f) K) : ∃ i, r = some (k0, i) ∧ Out (f i) K := by
  rcases r with _ | ⟨k, i⟩
  · exact absurd h Out_none
  · obtain ⟨e, h2⟩ := Out_grd (show Out (if k = k0 then f i else none) K from h)
    exact ⟨i, by rw [e], h2⟩
theorem Out_rcs {α : Type} {r : Option MA} {n : Option α} {f : Nat → Nat → Option α} {K : α → Prop} (h : Out (rcs r n f) K) : (r = none ∧ Out n K) ∨ ∃ k i, r = some (k, i) ∧ Out (f k i) K := by
  rcases r with _ | ⟨k, i⟩
  · exact Or.inl ⟨rfl, h⟩
  · exact Or.inr ⟨k, i, rfl, h⟩
/-- one of the three kinds of eaters -/
def fk {α : Type} (k : Nat) (a b c : Option α) : Option α := if k = 0 then a else if k = 1 then b else if k = 5 then c else none
theorem Out_fk {α : Type} {k : Nat} {a b c : Option α} {K : α → Prop} (h : Out (fk k a b c) K) : (k = 0 ∧ Out a K) ∨ (k = 1 ∧ Out b K) ∨ (k = 5 ∧ Out c K) := by
  unfold fk at h
  by_cases h0 : k = 0
  · exact Or.inl ⟨h0, Out_pos h0 h⟩
  · replace h := Out_neg h0 h
    by_cases h1 : k = 1
    · exact Or.inr (Or.inl ⟨h1, Out_pos h1 h⟩)
    · obtain ⟨h5, h⟩ := Out_grd (Out_neg h1 h)
      exact Or.inr (Or.inr ⟨h5, h⟩)
def bI {α β : Type} (o : Option (α × Sto)) (g : α → Sto → Option β) : Option β := match o with
  | none => none
  | some (r, σ) => g r σ
def bV {β : Type} (o : Option Sto) (g : Sto → Option β) : Option β := match o with
  | none => none
  | some σ => g σ
theorem Out_bI {α β : Type} {o : Option (α × Sto)} {g : α → Sto → Option β} {K : β → Prop} (h : Out (bI o g) K) : Out o (fun p => Out (g p.1 p.2) K) := by
  rcases o with _ | ⟨r, σ⟩
  · exact absurd h Out_none
  · exact ⟨(r, σ), rfl, h⟩
theorem Out_bV {β : Type} {o : Option Sto} {g : Sto → Option β} {K : β → Prop} (h : Out (bV o g) K) : Out o (fun p => Out (g p) K) := by
  rcases o with _ | σ
  · exact absurd h Out_none
  · exact ⟨σ, rfl, h⟩
def mmask (m : List Bool) (L : List (Option MV)) : List (Option MV) := List.zipWith (fun b v => match b with | true => v | false => none) m L
def QI (K : Int32 × Sto → Prop) : Option MV → Sto → Prop := fun v σ => ∃ r, v = some (vi r) ∧ K (r, σ)
def QL (K : Int64 × Sto → Prop) : Option MV → Sto → Prop := fun v σ => ∃ r, v = some (vl r) ∧ K (r, σ)
def QR (K : Option MA × Sto → Prop) : Option MV → Sto → Prop := fun v σ => ∃ r, v = some (vq r) ∧ K (r, σ)
def QV (K : Sto → Prop) : Option MV → Sto → Prop := fun v σ => v = none ∧ K σ
section Rules
variable {ph : Bool} {Γ : GG} {y : Mth} {d mc ms kc ks : Nat} {Q : Option MV → Sto → Prop} {pc : Nat} {L : List (Option MV)} {S : List MV} {σ : Sto}
theorem r_iconst {n : Int} (v : Int32) (pn : Nat) (hd : decode y.2.1 pc = .ok (.iconst n, 1)) (hp : pc + 1 = pn) (hv : Int32.ofInt n = v) (k : M ph Γ y d mc ms kc ks Q pn L (vi v :: S) σ) : M ph Γ y d mc ms kc ks Q pc L S σ := by
  subst hp
  subst hv; exact M_iconst hd k
theorem r_bipush {n : Int} (v : Int32) (pn : Nat) (hd : decode y.2.1 pc = .ok (.bipush n, 2)) (hp : pc + 2 = pn) (hv : (Int8.ofInt n).toInt32 = v) (k : M ph Γ y d mc ms kc ks Q pn L (vi v :: S) σ) : M ph Γ y d mc ms kc ks Q pc L S σ := by
  subst hp
  subst hv; exact M_bipush hd k
theorem r_sipush {n : Int} (v : Int32) (pn : Nat) (hd : decode y.2.1 pc = .ok (.sipush n, 3)) (hp : pc + 3 = pn) (hv : (Int16.ofInt n).toInt32 = v) (k : M ph Γ y d mc ms kc ks Q pn L (vi v :: S) σ) : M ph Γ y d mc ms kc ks Q pc L S σ := by
  subst hp
  subst hv; exact M_sipush hd k
theorem r_lconst {n : Fin 2} (v : Int64) (pn : Nat) (hd : decode y.2.1 pc = .ok (.lconst n, 1)) (hp : pc + 1 = pn) (hv : Int64.ofNat n = v) (k : M ph Γ y d mc ms kc ks Q pn L (vl v :: S) σ) : M ph Γ y d mc ms kc ks Q pc L S σ := by
  subst hp
  subst hv; exact M_lconst hd k
theorem r_null (pn : Nat) (hd : decode y.2.1 pc = .ok (.aconst_null, 1)) (hp : pc + 1 = pn) (k : M ph Γ y d mc ms kc ks Q pn L (vq none :: S) σ) : M ph Γ y d mc ms kc ks Q pc L S σ := by
  subst hp
  exact M_null hd k
theorem r_iload_n {n : Fin 4} {x : Int32} (pn : Nat) (hd : decode y.2.1 pc = .ok (.iload_n n, 1)) (hp : pc + 1 = pn) (hL : L[(n : Nat)]? = some (some (vi x))) (k : M ph Γ y d mc ms kc ks Q pn L (vi x :: S) σ) : M ph Γ y d mc ms kc ks Q pc L S σ := by
  subst hp
  exact M_iload_n hd hL k
theorem r_iload {n : Nat} {x : Int32} (pn : Nat) (hd : decode y.2.1 pc = .ok (.iload n, 2)) (hp : pc + 2 = pn) (hL : L[(n : Nat)]? = some (some (vi x))) (k : M ph Γ y d mc ms kc ks Q pn L (vi x :: S) σ) : M ph Γ y d mc ms kc ks Q pc L S σ := by
  subst hp
  exact M_iload hd hL k
theorem r_lload_n {n : Fin 4} {x : Int64} (pn : Nat) (hd : decode y.2.1 pc = .ok (.lload_n n, 1)) (hp : pc + 1 = pn) (hL : L[(n : Nat)]? = some (some (vl x))) (k : M ph Γ y d mc ms kc ks Q pn L (vl x :: S) σ) : M ph Γ y d mc ms kc ks Q pc L S σ := by
  subst hp
  exact M_lload_n hd hL k
theorem r_lload {n : Nat} {x : Int64} (pn : Nat) (hd : decode y.2.1 pc = .ok (.lload n, 2)) (hp : pc + 2 = pn) (hL : L[(n : Nat)]? = some (some (vl x))) (k : M ph Γ y d mc ms kc ks Q pn L (vl x :: S) σ) : M ph Γ y d mc ms kc ks Q pc L S σ := by
  subst hp
  exact M_lload hd hL k
theorem r_aload_n {n : Fin 4} {x : Option MA} (pn : Nat) (hd : decode y.2.1 pc = .ok (.aload_n n, 1)) (hp : pc + 1 = pn) (hL : L[(n : Nat)]? = some (some (vq x))) (k : M ph Γ y d mc ms kc ks Q pn L (vq x :: S) σ) : M ph Γ y d mc ms kc ks Q pc L S σ := by
  subst hp
  exact M_aload_n hd hL k
theorem r_aload {n : Nat} {x : Option MA} (pn : Nat) (hd : decode y.2.1 pc = .ok (.aload n, 2)) (hp : pc + 2 = pn) (hL : L[(n : Nat)]? = some (some (vq x))) (k : M ph Γ y d mc ms kc ks Q pn L (vq x :: S) σ) : M ph Γ y d mc ms kc ks Q pc L S σ := by
  subst hp
  exact M_aload hd hL k
theorem r_istore_n {n : Fin 4} {x : Int32} (L' : List (Option MV)) (pn : Nat) (hd : decode y.2.1 pc = .ok (.istore_n n, 1)) (hp : pc + 1 = pn) (hL : mfree L n = true) (hL' : L.set n (some (vi x)) = L') (k : M ph Γ y d mc ms kc ks Q pn L' S σ) : M ph Γ y d mc ms kc ks Q pc L (vi x :: S) σ := by
  subst hp
  subst hL'; exact M_istore_n hd hL k
theorem r_istore {n : Nat} {x : Int32} (L' : List (Option MV)) (pn : Nat) (hd : decode y.2.1 pc = .ok (.istore n, 2)) (hp : pc + 2 = pn) (hL : mfree L n = true) (hL' : L.set n (some (vi x)) = L') (k : M ph Γ y d mc ms kc ks Q pn L' S σ) : M ph Γ y d mc ms kc ks Q pc L (vi x :: S) σ := by
  subst hp
  subst hL'; exact M_istore hd hL k
theorem r_astore_n {n : Fin 4} {x : Option MA} (L' : List (Option MV)) (pn : Nat) (hd : decode y.2.1 pc = .ok (.astore_n n, 1)) (hp : pc + 1 = pn) (hL : mfree L n = true) (hL' : L.set n (some (vq x)) = L') (k : M ph Γ y d mc ms kc ks Q pn L' S σ) : M ph Γ y d mc ms kc ks Q pc L (vq x :: S) σ := by
  subst hp
  subst hL'; exact M_astore_n hd hL k
theorem r_astore {n : Nat} {x : Option MA} (L' : List (Option MV)) (pn : Nat) (hd : decode y.2.1 pc = .ok (.astore n, 2)) (hp : pc + 2 = pn) (hL : mfree L n = true) (hL' : L.set n (some (vq x)) = L') (k : M ph Γ y d mc ms kc ks Q pn L' S σ) : M ph Γ y d mc ms kc ks Q pc L (vq x :: S) σ := by
  subst hp
  subst hL'; exact M_astore hd hL k
theorem r_iinc {n : Nat} {z : Int} {x : Int32} (c : Int32) (L' : List (Option MV)) (pn : Nat) (hd : decode y.2.1 pc = .ok (.iinc n z, 3)) (hp : pc + 3 = pn) (hz : Int32.ofInt z = c) (hL : mfree L n = true) (hx : L[n]? = some (some (vi x))) (hL' : L.set n (some (vi (x + c))) = L') (k : M ph Γ y d mc ms kc ks Q pn L' S σ) : M ph Γ y d mc ms kc ks Q pc L S σ := by
  subst hp
  subst hz; subst hL'; exact M_iinc hd hL hx k
theorem r_iadd {a b : Int32} (pn : Nat) (hd : decode y.2.1 pc = .ok (.iadd, 1)) (hp : pc + 1 = pn) (k : M ph Γ y d mc ms kc ks Q pn L (vi (a + b) :: S) σ) : M ph Γ y d mc ms kc ks Q pc L (vi b :: vi a :: S) σ := by
  subst hp
  exact M_iadd hd k
theorem r_isub {a b : Int32} (pn : Nat) (hd : decode y.2.1 pc = .ok (.isub, 1)) (hp : pc + 1 = pn) (k : M ph Γ y d mc ms kc ks Q pn L (vi (a - b) :: S) σ) : M ph Γ y d mc ms kc ks Q pc L (vi b :: vi a :: S) σ := by
  subst hp
  exact M_isub hd k
theorem r_imul {a b : Int32} (pn : Nat) (hd : decode y.2.1 pc = .ok (.imul, 1)) (hp : pc + 1 = pn) (k : M ph Γ y d mc ms kc ks Q pn L (vi (a * b) :: S) σ) : M ph Γ y d mc ms kc ks Q pc L (vi b :: vi a :: S) σ := by
  subst hp
  exact M_imul hd k
theorem r_iand {a b : Int32} (pn : Nat) (hd : decode y.2.1 pc = .ok (.iand, 1)) (hp : pc + 1 = pn) (k : M ph Γ y d mc ms kc ks Q pn L (vi (a &&& b) :: S) σ) : M ph Γ y d mc ms kc ks Q pc L (vi b :: vi a :: S) σ := by
  subst hp
  exact M_iand hd k
theorem r_ior {a b : Int32} (pn : Nat) (hd : decode y.2.1 pc = .ok (.ior, 1)) (hp : pc + 1 = pn) (k : M ph Γ y d mc ms kc ks Q pn L (vi (a ||| b) :: S) σ) : M ph Γ y d mc ms kc ks Q pc L (vi b :: vi a :: S) σ := by
  subst hp
  exact M_ior hd k
theorem r_ishl {a b : Int32} (pn : Nat) (hd : decode y.2.1 pc = .ok (.ishl, 1)) (hp : pc + 1 = pn) (k : M ph Γ y d mc ms kc ks Q pn L (vi (a <<< (b &&& 31)) :: S) σ) : M ph Γ y d mc ms kc ks Q pc L (vi b :: vi a :: S) σ := by
  subst hp
  exact M_ishl hd k
theorem r_ishr {a b : Int32} (pn : Nat) (hd : decode y.2.1 pc = .ok (.ishr, 1)) (hp : pc + 1 = pn) (k : M ph Γ y d mc ms kc ks Q pn L (vi (a >>> (b &&& 31)) :: S) σ) : M ph Γ y d mc ms kc ks Q pc L (vi b :: vi a :: S) σ := by
  subst hp
  exact M_ishr hd k
theorem r_iushr {a b : Int32} (pn : Nat) (hd : decode y.2.1 pc = .ok (.iushr, 1)) (hp : pc + 1 = pn) (k : M ph Γ y d mc ms kc ks Q pn L (vi ((a.toUInt32 >>> (b.toUInt32 &&& Int32.toUInt32 31)).toInt32) :: S) σ) : M ph Γ y d mc ms kc ks Q pc L (vi b :: vi a :: S) σ := by
  subst hp
  exact M_iushr hd k
theorem r_idiv {a b : Int32} (pn : Nat) (hd : decode y.2.1 pc = .ok (.idiv, 1)) (hp : pc + 1 = pn) (hb0 : ¬ b = 0) (k : M ph Γ y d mc ms kc ks Q pn L (vi (a / b) :: S) σ) : M ph Γ y d mc ms kc ks Q pc L (vi b :: vi a :: S) σ := by
  subst hp
  exact M_idiv hd hb0 k
theorem r_irem {a b : Int32} (pn : Nat) (hd : decode y.2.1 pc = .ok (.irem, 1)) (hp : pc + 1 = pn) (hb0 : ¬ b = 0) (k : M ph Γ y d mc ms kc ks Q pn L (vi (a - a / b * b) :: S) σ) : M ph Γ y d mc ms kc ks Q pc L (vi b :: vi a :: S) σ := by
  subst hp
  exact M_irem hd hb0 k
theorem r_ineg {a : Int32} (pn : Nat) (hd : decode y.2.1 pc = .ok (.ineg, 1)) (hp : pc + 1 = pn) (k : M ph Γ y d mc ms kc ks Q pn L (vi (-a) :: S) σ) : M ph Γ y d mc ms kc ks Q pc L (vi a :: S) σ := by
  subst hp
  exact M_ineg hd k
theorem r_i2l {a : Int32} (pn : Nat) (hd : decode y.2.1 pc = .ok (.i2l, 1)) (hp : pc + 1 = pn) (k : M ph Γ y d mc ms kc ks Q pn L (vl a.toInt64 :: S) σ) : M ph Γ y d mc ms kc ks Q pc L (vi a :: S) σ := by
  subst hp
  exact M_i2l hd k
theorem r_i2b {a : Int32} (pn : Nat) (hd : decode y.2.1 pc = .ok (.i2b, 1)) (hp : pc + 1 = pn) (k : M ph Γ y d mc ms kc ks Q pn L (vi a.toInt8.toInt32 :: S) σ) : M ph Γ y d mc ms kc ks Q pc L (vi a :: S) σ := by
  subst hp
  exact M_i2b hd k
theorem r_i2s {a : Int32} (pn : Nat) (hd : decode y.2.1 pc = .ok (.i2s, 1)) (hp : pc + 1 = pn) (k : M ph Γ y d mc ms kc ks Q pn L (vi a.toInt16.toInt32 :: S) σ) : M ph Γ y d mc ms kc ks Q pc L (vi a :: S) σ := by
  subst hp
  exact M_i2s hd k
theorem r_lcmp {a b : Int64} (pn : Nat) (hd : decode y.2.1 pc = .ok (.lcmp, 1)) (hp : pc + 1 = pn) (k : M ph Γ y d mc ms kc ks Q pn L (vi (lg_cmp a b) :: S) σ) : M ph Γ y d mc ms kc ks Q pc L (vl b :: vl a :: S) σ := by
  subst hp
  exact M_lcmp hd k
theorem r_dup {v : MV} (pn : Nat) (hd : decode y.2.1 pc = .ok (.dup, 1)) (hp : pc + 1 = pn) (hv : mcat v = 1) (k : M ph Γ y d mc ms kc ks Q pn L (v :: v :: S) σ) : M ph Γ y d mc ms kc ks Q pc L (v :: S) σ := by
  subst hp
  exact M_dup hd hv k
theorem r_dup_x1 {v w : MV} (pn : Nat) (hd : decode y.2.1 pc = .ok (.dup_x1, 1)) (hp : pc + 1 = pn) (hv : mcat v = 1) (hw : mcat w = 1) (k : M ph Γ y d mc ms kc ks Q pn L (v :: w :: v :: S) σ) : M ph Γ y d mc ms kc ks Q pc L (v :: w :: S) σ := by
  subst hp
  exact M_dup_x1 hd hv hw k
theorem r_pop {v : MV} (pn : Nat) (hd : decode y.2.1 pc = .ok (.pop, 1)) (hp : pc + 1 = pn) (hv : mcat v = 1) (k : M ph Γ y d mc ms kc ks Q pn L S σ) : M ph Γ y d mc ms kc ks Q pc L (v :: S) σ := by
  subst hp
  exact M_pop hd hv k
theorem r_getI {x : Nat × Nat × List Nat × String × Nat} {k0 i : Nat} (j : Nat) (pn : Nat) (hF : mFchk y.1.cls [x] = true) (hk : k0 ∈ x.2.2.1) (hd : decode y.2.1 pc = .ok (.getfield x.1, 3)) (hp : pc + 3 = pn) (hj : x.2.1 = j) (hm : mref k0 j = false) (k : M ph Γ y d mc ms kc ks Q pn L (vi (gI σ k0 i j) :: S) σ) : M ph Γ y d mc ms kc ks Q pc L (vq (some (k0, i)) :: S) σ := by
  subst hp
  subst hj; exact M_getfield hF (List.mem_singleton.mpr rfl) hk hd (by unfold sv; rw [hm]; exact k)
theorem r_getR {x : Nat × Nat × List Nat × String × Nat} {k0 i : Nat} (j : Nat) (pn : Nat) (hF : mFchk y.1.cls [x] = true) (hk : k0 ∈ x.2.2.1) (hd : decode y.2.1 pc = .ok (.getfield x.1, 3)) (hp : pc + 3 = pn) (hj : x.2.1 = j) (hm : mref k0 j = true) (hf : ph = false ∨ mfin k0 i j = none) (k : M ph Γ y d mc ms kc ks Q pn L (vq (gR σ k0 i j) :: S) σ) : M ph Γ y d mc ms kc ks Q pc L (vq (some (k0, i)) :: S) σ := by
  subst hp
  subst hj; refine M_getfield hF (List.mem_singleton.mpr rfl) hk hd ?_
  have e : sv ph σ k0 i x.2.1 = vq (gR σ k0 i x.2.1) := by
    unfold sv
    rw [hm]
    rcases hf with rfl | hf
    · rfl
    · cases ph
      · rfl
      · simp only [mrf, hf]
  rw [e]; exact k
theorem r_getF {x : Nat × Nat × List Nat × String × Nat} {k0 i : Nat} (j : Nat) (a : MA) (pn : Nat) (hF : mFchk y.1.cls [x] = true) (hk : k0 ∈ x.2.2.1) (hd : decode y.2.1 pc = .ok (.getfield x.1, 3)) (hp : pc + 3 = pn) (hj : x.2.1 = j) (hm : mref k0 j = true) (hf : mfin k0 i j = some a) (k : M true Γ y d mc ms kc ks Q pn L (vq (some a) :: S) σ) : M true Γ y d mc ms kc ks Q pc L (vq (some (k0, i)) :: S) σ := by
  subst hp
  subst hj
  refine M_getfield hF (List.mem_singleton.mpr rfl) hk hd ?_
  have e : sv true σ k0 i x.2.1 = vq (some a) := by
    unfold sv
    rw [hm]
    simp only [mrf, hf]
  rw [e]; exact k
theorem r_putI {x : Nat × Nat × List Nat × String × Nat} {k0 i : Nat} (j : Nat) {z : Int32} (pn : Nat) (hF : mFchk y.1.cls [x] = true) (hk : k0 ∈ x.2.2.1) (hd : decode y.2.1 pc = .ok (.putfield x.1, 3)) (hp : pc + 3 = pn) (hw : x.2.2.2.2 = 0 ∨ (x.2.2.2.2 = 1 ∧ y.1.name = "<init>")) (hj : x.2.1 = j) (hm : mref k0 j = false) (k : M ph Γ y d mc ms kc ks Q pn L S (sI σ k0 i j z)) : M ph Γ y d mc ms kc ks Q pc L (vi z :: vq (some (k0, i)) :: S) σ := by
  subst hp
  subst hj; exact M_putI hF (List.mem_singleton.mpr rfl) hk hw hm hd k
theorem r_putR {x : Nat × Nat × List Nat × String × Nat} {k0 i : Nat} (j : Nat) {z : Option MA} (pn : Nat) (hF : mFchk y.1.cls [x] = true) (hk : k0 ∈ x.2.2.1) (hd : decode y.2.1 pc = .ok (.putfield x.1, 3)) (hp : pc + 3 = pn) (hw : x.2.2.2.2 = 0 ∨ (x.2.2.2.2 = 1 ∧ y.1.name = "<init>")) (hj : x.2.1 = j) (hm : mref k0 j = true) (hf : ph = false ∨ mfin k0 i j = none) (k : M ph Γ y d mc ms kc ks Q pn L S (sR σ k0 i j z)) : M ph Γ y d mc ms kc ks Q pc L (vq z :: vq (some (k0, i)) :: S) σ := by
  subst hp
  subst hj; exact M_putR hF (List.mem_singleton.mpr rfl) hk hw hm hf hd k
theorem r_iaload {k0 i : Nat} {x : Int32} (j n pn : Nat) (hd : decode y.2.1 pc = .ok (.iaload, 1)) (hp : pc + 1 = pn) (hk : 10 ≤ k0) (hm : mref k0 0 = false) (hn : mlen Γ.2.1 k0 = n) (hx : Ix x n) (hj : x.toNatClampNeg = j) (k : M ph Γ y d mc ms kc ks Q pn L (vi (gI σ k0 i j) :: S) σ) : M ph Γ y d mc ms kc ks Q pc L (vi x :: vq (some (k0, i)) :: S) σ := by
  subst hp
  subst hj; subst hn; exact M_iaload hk hm hx hd k
theorem r_iastore {k0 i : Nat} {x z : Int32} (j n pn : Nat) (hd : decode y.2.1 pc = .ok (.iastore, 1)) (hp : pc + 1 = pn) (hk : 10 ≤ k0) (hk2 : k0 < 42) (hm : mref k0 0 = false) (hn : mlen Γ.2.1 k0 = n) (hx : Ix x n) (hj : x.toNatClampNeg = j) (k : M ph Γ y d mc ms kc ks Q pn L S (sI σ k0 i j z)) : M ph Γ y d mc ms kc ks Q pc L (vi z :: vi x :: vq (some (k0, i)) :: S) σ := by
  subst hp
  subst hj; subst hn; exact M_iastore hk hk2 hm hx hd k
theorem r_aaload {k0 i : Nat} {x : Int32} (r : Option MA) (j n pn : Nat) (hd : decode y.2.1 pc = .ok (.aaload, 1)) (hp : pc + 1 = pn) (hk : 10 ≤ k0) (hm : mref k0 0 = true) (hn : mlen Γ.2.1 k0 = n) (hx : Ix x n) (hj : x.toNatClampNeg = j) (hr : mrf ph σ k0 i j = r) (k : M ph Γ y d mc ms kc ks Q pn L (vq r :: S) σ) : M ph Γ y d mc ms kc ks Q pc L (vi x :: vq (some (k0, i)) :: S) σ := by
  subst hp
  subst hj; subst hr; subst hn; exact M_aaload hk hm hx hd k
theorem r_alen {k0 i : Nat} (v : Int32) (pn : Nat) (hd : decode y.2.1 pc = .ok (.arraylength, 1)) (hp : pc + 1 = pn) (hk : 10 ≤ k0) (hv : Int32.ofNat (mlen Γ.2.1 k0) = v) (k : M ph Γ y d mc ms kc ks Q pn L (vi v :: S) σ) : M ph Γ y d mc ms kc ks Q pc L (vq (some (k0, i)) :: S) σ := by
  subst hp
  subst hv; exact M_alen hk hd k
theorem r_ldc2 {idx : Nat} (v : Int64) (pn : Nat) (hd : decode y.2.1 pc = .ok (.ldc2_w idx, 3)) (hp : pc + 3 = pn) (hw : Cond.constantLong y.1.cls idx v ∈ lw_tbl) (k : M ph Γ y d mc ms kc ks Q pn L (vl v :: S) σ) : M ph Γ y d mc ms kc ks Q pc L S σ := by
  subst hp
  exact M_ldc2 hw hd k
theorem r_ldcw {idx : Nat} (v : Int32) (pn : Nat) (hd : decode y.2.1 pc = .ok (.ldc_w idx, 3)) (hp : pc + 3 = pn) (hw : Cond.constant y.1.cls idx v ∈ lw_tbl) (k : M ph Γ y d mc ms kc ks Q pn L (vi v :: S) σ) : M ph Γ y d mc ms kc ks Q pc L S σ := by
  subst hp
  exact M_ldcw hw hd k
theorem r_call {y' : Mth} {C : String} {np d' : Nat} {Q' : Option MV → Sto → Prop} (as rest : List MV) (hrun : mRun y pc y' C np) (hC : Ct ph Γ y' d' 0 0 as σ Q') (hS : S = as.reverse ++ rest) (hlen : as.length = np) (hrec : mrecv C as = true) (hcat : Nat.ble (rest.map mcat).sum 8 = true) (hd : Nat.ble (d' + 1) d = true) (hkc : kc ≤ mc) (hks : ks ≤ ms)
    (kk : ∀ v σ', Q' v σ' → M ph Γ y d mc ms kc ks Q (pc + 3) L (v.toList ++ rest) σ') : M ph Γ y d mc ms kc ks Q pc L S σ :=
  M_call hrun hC hS hlen hrec (Nat.le_of_ble_eq_true hcat) (Nat.le_of_ble_eq_true hd) hkc hks kk
theorem r_callI {y' : Mth} {C : String} {np d' : Nat} {K : Int32 × Sto → Prop} (as rest : List MV) (pn : Nat) (hrun : mRun y pc y' C np) (hp : pc + 3 = pn) (hC : Ct ph Γ y' d' 0 0 as σ (QI K)) (hS : S = as.reverse ++ rest) (hlen : as.length = np) (hrec : mrecv C as = true) (hcat : Nat.ble (rest.map mcat).sum 8 = true) (hd : Nat.ble (d' + 1) d = true) (hkc : kc ≤ mc) (hks : ks ≤ ms)
    (kk : ∀ r σ', K (r, σ') → M ph Γ y d mc ms kc ks Q pn L (vi r :: rest) σ') : M ph Γ y d mc ms kc ks Q pc L S σ := by
  subst hp
  refine r_call as rest hrun hC hS hlen hrec hcat hd hkc hks ?_
  rintro v σ' ⟨r, rfl, h⟩
  exact kk r σ' h
theorem r_callL {y' : Mth} {C : String} {np d' : Nat} {K : Int64 × Sto → Prop} (as rest : List MV) (pn : Nat) (hrun : mRun y pc y' C np) (hp : pc + 3 = pn) (hC : Ct ph Γ y' d' 0 0 as σ (QL K)) (hS : S = as.reverse ++ rest) (hlen : as.length = np) (hrec : mrecv C as = true) (hcat : Nat.ble (rest.map mcat).sum 8 = true) (hd : Nat.ble (d' + 1) d = true) (hkc : kc ≤ mc) (hks : ks ≤ ms)
    (kk : ∀ r σ', K (r, σ') → M ph Γ y d mc ms kc ks Q pn L (vl r :: rest) σ') : M ph Γ y d mc ms kc ks Q pc L S σ := by
  subst hp
  refine r_call as rest hrun hC hS hlen hrec hcat hd hkc hks ?_
  rintro v σ' ⟨r, rfl, h⟩
  exact kk r σ' h
theorem r_callR {y' : Mth} {C : String} {np d' : Nat} {K : Option MA × Sto → Prop} (as rest : List MV) (pn : Nat) (hrun : mRun y pc y' C np) (hp : pc + 3 = pn) (hC : Ct ph Γ y' d' 0 0 as σ (QR K)) (hS : S = as.reverse ++ rest) (hlen : as.length = np) (hrec : mrecv C as = true) (hcat : Nat.ble (rest.map mcat).sum 8 = true) (hd : Nat.ble (d' + 1) d = true) (hkc : kc ≤ mc) (hks : ks ≤ ms)
    (kk : ∀ r σ', K (r, σ') → M ph Γ y d mc ms kc ks Q pn L (vq r :: rest) σ') : M ph Γ y d mc ms kc ks Q pc L S σ := by
  subst hp
  refine r_call as rest hrun hC hS hlen hrec hcat hd hkc hks ?_
  rintro v σ' ⟨r, rfl, h⟩
  exact kk r σ' h
theorem r_callV {y' : Mth} {C : String} {np d' : Nat} {K : Sto → Prop} (as rest : List MV) (pn : Nat) (hrun : mRun y pc y' C np) (hp : pc + 3 = pn) (hC : Ct ph Γ y' d' 0 0 as σ (QV K)) (hS : S = as.reverse ++ rest) (hlen : as.length = np) (hrec : mrecv C as = true) (hcat : Nat.ble (rest.map mcat).sum 8 = true) (hd : Nat.ble (d' + 1) d = true) (hkc : kc ≤ mc) (hks : ks ≤ ms)
    (kk : ∀ σ', K σ' → M ph Γ y d mc ms kc ks Q pn L rest σ') : M ph Γ y d mc ms kc ks Q pc L S σ := by
  subst hp
  refine r_call as rest hrun hC hS hlen hrec hcat hd hkc hks ?_
  rintro v σ' ⟨rfl, h⟩
  exact kk σ' h
theorem c_I {β : Type} {y' : Mth} {C : String} {np d' : Nat} {f : Option (Int32 × Sto)} {g : Int32 → Sto → Option β} {K : β → Prop} (as rest : List MV) (pn : Nat) (hrun : mRun y pc y' C np) (hp : pc + 3 = pn) (h : Out (bI f g) K) (hC : ∀ K' : Int32 × Sto → Prop, Out f K' → Ct ph Γ y' d' 0 0 as σ (QI K')) (hS : S = as.reverse ++ rest) (hlen : as.length = np) (hrec : mrecv C as = true) (hcat : Nat.ble (rest.map mcat).sum 8 = true) (hd : Nat.ble (d' + 1) d = true) (hkc : kc ≤ mc) (hks : ks ≤ ms)
    (kk : ∀ r σ', Out (g r σ') K → M ph Γ y d mc ms kc ks Q pn L (vi r :: rest) σ') : M ph Γ y d mc ms kc ks Q pc L S σ :=
  r_callI as rest pn hrun hp (hC _ (Out_bI h)) hS hlen hrec hcat hd hkc hks (fun r σ' h => kk r σ' h)
theorem c_L {β : Type} {y' : Mth} {C : String} {np d' : Nat} {f : Option (Int64 × Sto)} {g : Int64 → Sto → Option β} {K : β → Prop} (as rest : List MV) (pn : Nat) (hrun : mRun y pc y' C np) (hp : pc + 3 = pn) (h : Out (bI f g) K) (hC : ∀ K' : Int64 × Sto → Prop, Out f K' → Ct ph Γ y' d' 0 0 as σ (QL K')) (hS : S = as.reverse ++ rest) (hlen : as.length = np) (hrec : mrecv C as = true) (hcat : Nat.ble (rest.map mcat).sum 8 = true) (hd : Nat.ble (d' + 1) d = true) (hkc : kc ≤ mc) (hks : ks ≤ ms)
    (kk : ∀ r σ', Out (g r σ') K → M ph Γ y d mc ms kc ks Q pn L (vl r :: rest) σ') : M ph Γ y d mc ms kc ks Q pc L S σ :=
  r_callL as rest pn hrun hp (hC _ (Out_bI h)) hS hlen hrec hcat hd hkc hks (fun r σ' h => kk r σ' h)
theorem c_R {β : Type} {y' : Mth} {C : String} {np d' : Nat} {f : Option (Option MA × Sto)} {g : Option MA → Sto → Option β} {K : β → Prop} (as rest : List MV) (pn : Nat) (hrun : mRun y pc y' C np) (hp : pc + 3 = pn) (h : Out (bI f g) K) (hC : ∀ K' : Option MA × Sto → Prop, Out f K' → Ct ph Γ y' d' 0 0 as σ (QR K')) (hS : S = as.reverse ++ rest) (hlen : as.length = np) (hrec : mrecv C as = true) (hcat : Nat.ble (rest.map mcat).sum 8 = true) (hd : Nat.ble (d' + 1) d = true) (hkc : kc ≤ mc) (hks : ks ≤ ms)
    (kk : ∀ r σ', Out (g r σ') K → M ph Γ y d mc ms kc ks Q pn L (vq r :: rest) σ') : M ph Γ y d mc ms kc ks Q pc L S σ :=
  r_callR as rest pn hrun hp (hC _ (Out_bI h)) hS hlen hrec hcat hd hkc hks (fun r σ' h => kk r σ' h)
theorem c_V {β : Type} {y' : Mth} {C : String} {np d' : Nat} {f : Option Sto} {g : Sto → Option β} {K : β → Prop} (as rest : List MV) (pn : Nat) (hrun : mRun y pc y' C np) (hp : pc + 3 = pn) (h : Out (bV f g) K) (hC : ∀ K' : Sto → Prop, Out f K' → Ct ph Γ y' d' 0 0 as σ (QV K')) (hS : S = as.reverse ++ rest) (hlen : as.length = np) (hrec : mrecv C as = true) (hcat : Nat.ble (rest.map mcat).sum 8 = true) (hd : Nat.ble (d' + 1) d = true) (hkc : kc ≤ mc) (hks : ks ≤ ms)
    (kk : ∀ σ', Out (g σ') K → M ph Γ y d mc ms kc ks Q pn L rest σ') : M ph Γ y d mc ms kc ks Q pc L S σ :=
  r_callV as rest pn hrun hp (hC _ (Out_bV h)) hS hlen hrec hcat hd hkc hks (fun σ' h => kk σ' h)
theorem r_mask (m : List Bool) (L' : List (Option MV)) (hm : m.length = L.length) (hL : mmask m L = L') (k : M ph Γ y d mc ms kc ks Q pc L' S σ) : M ph Γ y d mc ms kc ks Q pc L S σ := by
  subst hL
  intro p l e s mm args below meth c H locs ad0 ad ls st hc hG hst he hR hS hB hl hk
  refine k p l e s mm args below meth c H locs ad0 ad ls st hc hG hst he hR hS hB ⟨⟨hl.1.1, ?_⟩, hl.2.1, fun j v hj => ?_⟩ hk
  · rw [mmask, List.length_zipWith, hm, Nat.min_self]; exact hl.1.2
  · unfold mmask at hj
    rw [List.getElem?_zipWith] at hj
    split at hj
    · rename_i b w hb hw
      cases b
      · cases hj
      · simp only [Option.some.injEq] at hj
        subst hj
        exact hl.2.2 j v hw
    · cases hj
theorem r_ireturn {K : Int32 × Sto → Prop} {x : Int32} (hd : decode y.2.1 pc = .ok (.ireturn, 1)) (hret : y.2.2.2 = some .int) (h1 : kc ≤ mc) (h2 : ks ≤ ms) (hq : Out (some (x, σ)) K) : M ph Γ y d mc ms kc ks (QI K) pc L [vi x] σ := M_ireturn hret hd h1 h2 ⟨x, rfl, Out_some hq⟩
theorem r_zreturn {K : Int32 × Sto → Prop} {x : Int32} (hd : decode y.2.1 pc = .ok (.ireturn, 1)) (hret : y.2.2.2 = some .boolean) (hx : x = 0 ∨ x = 1) (h1 : kc ≤ mc) (h2 : ks ≤ ms) (hq : Out (some (x, σ)) K) : M ph Γ y d mc ms kc ks (QI K) pc L [vi x] σ := M_zreturn hret hd hx h1 h2 ⟨x, rfl, Out_some hq⟩
theorem r_lreturn {K : Int64 × Sto → Prop} {x : Int64} (hd : decode y.2.1 pc = .ok (.lreturn, 1)) (hret : y.2.2.2 = some .long) (h1 : kc ≤ mc) (h2 : ks ≤ ms) (hq : Out (some (x, σ)) K) : M ph Γ y d mc ms kc ks (QL K) pc L [vl x] σ := M_lreturn hret hd h1 h2 ⟨x, rfl, Out_some hq⟩
theorem r_areturn {K : Option MA × Sto → Prop} {x : Option MA} {C : String} (hd : decode y.2.1 pc = .ok (.areturn, 1)) (hret : y.2.2.2 = some (.object C)) (h1 : kc ≤ mc) (h2 : ks ≤ ms) (hq : Out (some (x, σ)) K) : M ph Γ y d mc ms kc ks (QR K) pc L [vq x] σ := M_areturn hret hd h1 h2 ⟨x, rfl, Out_some hq⟩
theorem r_return {K : Sto → Prop} (hd : decode y.2.1 pc = .ok (.return_, 1)) (hret : y.2.2.2 = none) (h1 : kc ≤ mc) (h2 : ks ≤ ms) (hq : Out (some σ) K) : M ph Γ y d mc ms kc ks (QV K) pc L [] σ := M_return hret hd h1 h2 ⟨rfl, Out_some hq⟩
theorem r_if_eq {a : Int32} {off : Int} (t pn : Nat) (hd : decode y.2.1 pc = .ok (.ifCond .eq off, 3)) (ht : (pc : Int) + off = (t : Int)) (hp : pc + 3 = pn) (kt : ((a = 0) → M ph Γ y d mc ms kc ks Q t L S σ)) (kf : (¬ (a = 0) → M ph Γ y d mc ms kc ks Q pn L S σ)) : M ph Γ y d mc ms kc ks Q pc L (vi a :: S) σ := by
  subst hp
  exact M_if_eq hd ht kt (kf)
theorem r_icmp_eq {a b : Int32} {off : Int} (t pn : Nat) (hd : decode y.2.1 pc = .ok (.if_icmp .eq off, 3)) (ht : (pc : Int) + off = (t : Int)) (hp : pc + 3 = pn) (kt : ((a = b) → M ph Γ y d mc ms kc ks Q t L S σ)) (kf : (¬ (a = b) → M ph Γ y d mc ms kc ks Q pn L S σ)) : M ph Γ y d mc ms kc ks Q pc L (vi b :: vi a :: S) σ := by
  subst hp
  exact M_icmp_eq hd ht kt (kf)
theorem r_if_ne {a : Int32} {off : Int} (t pn : Nat) (hd : decode y.2.1 pc = .ok (.ifCond .ne off, 3)) (ht : (pc : Int) + off = (t : Int)) (hp : pc + 3 = pn) (kt : (¬ (a = 0) → M ph Γ y d mc ms kc ks Q t L S σ)) (kf : ((a = 0) → M ph Γ y d mc ms kc ks Q pn L S σ)) : M ph Γ y d mc ms kc ks Q pc L (vi a :: S) σ := by
  subst hp
  exact M_if_ne hd ht kt (fun h => kf (Decidable.not_not.mp h))
theorem r_icmp_ne {a b : Int32} {off : Int} (t pn : Nat) (hd : decode y.2.1 pc = .ok (.if_icmp .ne off, 3)) (ht : (pc : Int) + off = (t : Int)) (hp : pc + 3 = pn) (kt : (¬ (a = b) → M ph Γ y d mc ms kc ks Q t L S σ)) (kf : ((a = b) → M ph Γ y d mc ms kc ks Q pn L S σ)) : M ph Γ y d mc ms kc ks Q pc L (vi b :: vi a :: S) σ := by
  subst hp
  exact M_icmp_ne hd ht kt (fun h => kf (Decidable.not_not.mp h))
theorem r_if_lt {a : Int32} {off : Int} (t pn : Nat) (hd : decode y.2.1 pc = .ok (.ifCond .lt off, 3)) (ht : (pc : Int) + off = (t : Int)) (hp : pc + 3 = pn) (kt : ((a < 0) → M ph Γ y d mc ms kc ks Q t L S σ)) (kf : (¬ (a < 0) → M ph Γ y d mc ms kc ks Q pn L S σ)) : M ph Γ y d mc ms kc ks Q pc L (vi a :: S) σ := by
  subst hp
  exact M_if_lt hd ht kt (kf)
theorem r_icmp_lt {a b : Int32} {off : Int} (t pn : Nat) (hd : decode y.2.1 pc = .ok (.if_icmp .lt off, 3)) (ht : (pc : Int) + off = (t : Int)) (hp : pc + 3 = pn) (kt : ((a < b) → M ph Γ y d mc ms kc ks Q t L S σ)) (kf : (¬ (a < b) → M ph Γ y d mc ms kc ks Q pn L S σ)) : M ph Γ y d mc ms kc ks Q pc L (vi b :: vi a :: S) σ := by
  subst hp
  exact M_icmp_lt hd ht kt (kf)
theorem r_if_ge {a : Int32} {off : Int} (t pn : Nat) (hd : decode y.2.1 pc = .ok (.ifCond .ge off, 3)) (ht : (pc : Int) + off = (t : Int)) (hp : pc + 3 = pn) (kt : ((0 ≤ a) → M ph Γ y d mc ms kc ks Q t L S σ)) (kf : (¬ (0 ≤ a) → M ph Γ y d mc ms kc ks Q pn L S σ)) : M ph Γ y d mc ms kc ks Q pc L (vi a :: S) σ := by
  subst hp
  exact M_if_ge hd ht kt (kf)
theorem r_icmp_ge {a b : Int32} {off : Int} (t pn : Nat) (hd : decode y.2.1 pc = .ok (.if_icmp .ge off, 3)) (ht : (pc : Int) + off = (t : Int)) (hp : pc + 3 = pn) (kt : ((b ≤ a) → M ph Γ y d mc ms kc ks Q t L S σ)) (kf : (¬ (b ≤ a) → M ph Γ y d mc ms kc ks Q pn L S σ)) : M ph Γ y d mc ms kc ks Q pc L (vi b :: vi a :: S) σ := by
  subst hp
  exact M_icmp_ge hd ht kt (kf)
theorem r_if_gt {a : Int32} {off : Int} (t pn : Nat) (hd : decode y.2.1 pc = .ok (.ifCond .gt off, 3)) (ht : (pc : Int) + off = (t : Int)) (hp : pc + 3 = pn) (kt : ((0 < a) → M ph Γ y d mc ms kc ks Q t L S σ)) (kf : (¬ (0 < a) → M ph Γ y d mc ms kc ks Q pn L S σ)) : M ph Γ y d mc ms kc ks Q pc L (vi a :: S) σ := by
  subst hp
  exact M_if_gt hd ht kt (kf)
theorem r_icmp_gt {a b : Int32} {off : Int} (t pn : Nat) (hd : decode y.2.1 pc = .ok (.if_icmp .gt off, 3)) (ht : (pc : Int) + off = (t : Int)) (hp : pc + 3 = pn) (kt : ((b < a) → M ph Γ y d mc ms kc ks Q t L S σ)) (kf : (¬ (b < a) → M ph Γ y d mc ms kc ks Q pn L S σ)) : M ph Γ y d mc ms kc ks Q pc L (vi b :: vi a :: S) σ := by
  subst hp
  exact M_icmp_gt hd ht kt (kf)
theorem r_if_le {a : Int32} {off : Int} (t pn : Nat) (hd : decode y.2.1 pc = .ok (.ifCond .le off, 3)) (ht : (pc : Int) + off = (t : Int)) (hp : pc + 3 = pn) (kt : ((a ≤ 0) → M ph Γ y d mc ms kc ks Q t L S σ)) (kf : (¬ (a ≤ 0) → M ph Γ y d mc ms kc ks Q pn L S σ)) : M ph Γ y d mc ms kc ks Q pc L (vi a :: S) σ := by
  subst hp
  exact M_if_le hd ht kt (kf)
theorem r_icmp_le {a b : Int32} {off : Int} (t pn : Nat) (hd : decode y.2.1 pc = .ok (.if_icmp .le off, 3)) (ht : (pc : Int) + off = (t : Int)) (hp : pc + 3 = pn) (kt : ((a ≤ b) → M ph Γ y d mc ms kc ks Q t L S σ)) (kf : (¬ (a ≤ b) → M ph Γ y d mc ms kc ks Q pn L S σ)) : M ph Γ y d mc ms kc ks Q pc L (vi b :: vi a :: S) σ := by
  subst hp
  exact M_icmp_le hd ht kt (kf)
theorem r_ifnull {x : Option MA} {off : Int} (t pn : Nat) (hd : decode y.2.1 pc = .ok (.ifnull off, 3)) (ht : (pc : Int) + off = (t : Int)) (hp : pc + 3 = pn) (kt : x = none → M ph Γ y d mc ms kc ks Q t L S σ) (kf : ¬ x = none → M ph Γ y d mc ms kc ks Q pn L S σ) : M ph Γ y d mc ms kc ks Q pc L (vq x :: S) σ := by
  subst hp
  exact M_ifnull hd ht kt kf
theorem r_ifnonnull {x : Option MA} {off : Int} (t pn : Nat) (hd : decode y.2.1 pc = .ok (.ifnonnull off, 3)) (ht : (pc : Int) + off = (t : Int)) (hp : pc + 3 = pn) (kt : ¬ x = none → M ph Γ y d mc ms kc ks Q t L S σ) (kf : x = none → M ph Γ y d mc ms kc ks Q pn L S σ) : M ph Γ y d mc ms kc ks Q pc L (vq x :: S) σ := by
  subst hp
  exact M_ifnonnull hd ht kt kf
theorem r_goto {off : Int} (t : Nat) (hd : decode y.2.1 pc = .ok (.goto off, 3)) (ht : (pc : Int) + off = (t : Int)) (k : M ph Γ y d mc ms kc ks Q t L S σ) : M ph Γ y d mc ms kc ks Q pc L S σ := M_goto hd ht k
theorem r_gets {idx : Nat} (k0 : Nat) (nm : String) (pn : Nat) (hd : decode y.2.1 pc = .ok (.getstatic idx, 3)) (hp : pc + 3 = pn) (hk : (k0, nm) ∈ mstats) (hw : Cond.fieldLink y.1.cls idx "PlatePeas" nm "[I" ∈ lw_tbl) (k : M ph Γ y d mc ms kc ks Q pn L (vq (some (k0, 0)) :: S) σ) : M ph Γ y d mc ms kc ks Q pc L S σ := by
  subst hp
  exact M_gets hk hw hd k
theorem r_getsN {idx : Nat} (k0 : Nat) (nm : String) (pn : Nat) (hd : decode y.2.1 pc = .ok (.getstatic idx, 3)) (hp : pc + 3 = pn) (hk : (k0, nm) ∈ mstats) (hw : Cond.fieldLinkNest y.1.cls idx "PlatePeas" nm "[I" "PlatePeas" ∈ lw_tbl) (k : M ph Γ y d mc ms kc ks Q pn L (vq (some (k0, 0)) :: S) σ) : M ph Γ y d mc ms kc ks Q pc L S σ := by
  subst hp
  exact M_getsN hk hw hd k
end Rules
end
