section
-- ===== PART A: goes FIRST, ahead of the names: the tables' words, and 'selects' of the private methods out of them =====
/-- a private method of a class that the tables say can be made, by its rows of tables_1 -/
def lw_okq (q : MethodName × Nat) : Prop := (q.1.cls ≠ "java/lang/invoke/MethodHandle" ∧ q.1.cls ≠ "java/lang/invoke/VarHandle") ∧ Cond.instantiable q.1.cls q.2 ∈ tables_1 ∧ Cond.privateMethod q.1 ∈ tables_1 ∧ Cond.instanceMethod q.1 ∈ tables_1
theorem lw_p0 : lw_okq (⟨"PlatePeas", "sheetAt", "(I)LPlatePeas$Sheet;"⟩, 14) := ⟨⟨by decide +kernel, by decide +kernel⟩, List.mem_of_getElem? (i := 16) (by decide +kernel), List.mem_of_getElem? (i := 196) (by decide +kernel), List.mem_of_getElem? (i := 197) (by decide +kernel)⟩
theorem lw_p1 : lw_okq (⟨"PlatePeas$Sheet", "faultOfLane", "(I)I"⟩, 3) := ⟨⟨by decide +kernel, by decide +kernel⟩, List.mem_of_getElem? (i := 131) (by decide +kernel), List.mem_of_getElem? (i := 207) (by decide +kernel), List.mem_of_getElem? (i := 208) (by decide +kernel)⟩
theorem lw_p2 : lw_okq (⟨"PlatePeas", "failed", "(I)I"⟩, 14) := ⟨⟨by decide +kernel, by decide +kernel⟩, List.mem_of_getElem? (i := 16) (by decide +kernel), List.mem_of_getElem? (i := 219) (by decide +kernel), List.mem_of_getElem? (i := 220) (by decide +kernel)⟩
theorem lw_p3 : lw_okq (⟨"PlatePeas$Plate", "wipe", "()V"⟩, 12) := ⟨⟨by decide +kernel, by decide +kernel⟩, List.mem_of_getElem? (i := 38) (by decide +kernel), List.mem_of_getElem? (i := 227) (by decide +kernel), List.mem_of_getElem? (i := 228) (by decide +kernel)⟩
theorem lw_p4 : lw_okq (⟨"PlatePeas$Plate", "takes", "(II)Z"⟩, 12) := ⟨⟨by decide +kernel, by decide +kernel⟩, List.mem_of_getElem? (i := 38) (by decide +kernel), List.mem_of_getElem? (i := 240) (by decide +kernel), List.mem_of_getElem? (i := 241) (by decide +kernel)⟩
theorem lw_p5 : lw_okq (⟨"PlatePeas$Plate", "takesBehindHead", "(II)Z"⟩, 12) := ⟨⟨by decide +kernel, by decide +kernel⟩, List.mem_of_getElem? (i := 38) (by decide +kernel), List.mem_of_getElem? (i := 244) (by decide +kernel), List.mem_of_getElem? (i := 245) (by decide +kernel)⟩
theorem lw_p6 : lw_okq (⟨"PlatePeas$Plate", "rowCodes", "()I"⟩, 12) := ⟨⟨by decide +kernel, by decide +kernel⟩, List.mem_of_getElem? (i := 38) (by decide +kernel), List.mem_of_getElem? (i := 248) (by decide +kernel), List.mem_of_getElem? (i := 249) (by decide +kernel)⟩
theorem lw_p7 : lw_okq (⟨"PlatePeas$Plate", "takesInRow", "(II)Z"⟩, 12) := ⟨⟨by decide +kernel, by decide +kernel⟩, List.mem_of_getElem? (i := 38) (by decide +kernel), List.mem_of_getElem? (i := 252) (by decide +kernel), List.mem_of_getElem? (i := 253) (by decide +kernel)⟩
theorem lw_p8 : lw_okq (⟨"PlatePeas$Plate", "takesEater", "(II)Z"⟩, 12) := ⟨⟨by decide +kernel, by decide +kernel⟩, List.mem_of_getElem? (i := 38) (by decide +kernel), List.mem_of_getElem? (i := 259) (by decide +kernel), List.mem_of_getElem? (i := 260) (by decide +kernel)⟩
theorem lw_p9 : lw_okq (⟨"PlatePeas$Plate", "takesStrength", "(I)Z"⟩, 12) := ⟨⟨by decide +kernel, by decide +kernel⟩, List.mem_of_getElem? (i := 38) (by decide +kernel), List.mem_of_getElem? (i := 263) (by decide +kernel), List.mem_of_getElem? (i := 264) (by decide +kernel)⟩
theorem lw_p10 : lw_okq (⟨"PlatePeas$Plate", "listCodes", "()V"⟩, 12) := ⟨⟨by decide +kernel, by decide +kernel⟩, List.mem_of_getElem? (i := 38) (by decide +kernel), List.mem_of_getElem? (i := 303) (by decide +kernel), List.mem_of_getElem? (i := 304) (by decide +kernel)⟩
theorem lw_p11 : lw_okq (⟨"PlatePeas", "takeDraft", "()V"⟩, 14) := ⟨⟨by decide +kernel, by decide +kernel⟩, List.mem_of_getElem? (i := 16) (by decide +kernel), List.mem_of_getElem? (i := 310) (by decide +kernel), List.mem_of_getElem? (i := 311) (by decide +kernel)⟩
theorem lw_p12 : lw_okq (⟨"PlatePeas", "replayNow", "()V"⟩, 14) := ⟨⟨by decide +kernel, by decide +kernel⟩, List.mem_of_getElem? (i := 16) (by decide +kernel), List.mem_of_getElem? (i := 352) (by decide +kernel), List.mem_of_getElem? (i := 353) (by decide +kernel)⟩
theorem lw_p13 : lw_okq (⟨"PlatePeas", "replay", "(LPlatePeas$Spots;II)V"⟩, 14) := ⟨⟨by decide +kernel, by decide +kernel⟩, List.mem_of_getElem? (i := 16) (by decide +kernel), List.mem_of_getElem? (i := 356) (by decide +kernel), List.mem_of_getElem? (i := 357) (by decide +kernel)⟩
theorem lw_p14 : lw_okq (⟨"PlatePeas$Spots", "peaOn", "(I)I"⟩, 5) := ⟨⟨by decide +kernel, by decide +kernel⟩, List.mem_of_getElem? (i := 89) (by decide +kernel), List.mem_of_getElem? (i := 395) (by decide +kernel), List.mem_of_getElem? (i := 396) (by decide +kernel)⟩
theorem lw_p15 : lw_okq (⟨"PlatePeas$Spots", "roll", "(III)V"⟩, 5) := ⟨⟨by decide +kernel, by decide +kernel⟩, List.mem_of_getElem? (i := 89) (by decide +kernel), List.mem_of_getElem? (i := 412) (by decide +kernel), List.mem_of_getElem? (i := 413) (by decide +kernel)⟩
def lw_privs_1 : List (MethodName × Nat) := [(⟨"PlatePeas", "sheetAt", "(I)LPlatePeas$Sheet;"⟩, 14), (⟨"PlatePeas$Sheet", "faultOfLane", "(I)I"⟩, 3), (⟨"PlatePeas", "failed", "(I)I"⟩, 14), (⟨"PlatePeas$Plate", "wipe", "()V"⟩, 12), (⟨"PlatePeas$Plate", "takes", "(II)Z"⟩, 12), (⟨"PlatePeas$Plate", "takesBehindHead", "(II)Z"⟩, 12), (⟨"PlatePeas$Plate", "rowCodes", "()I"⟩, 12), (⟨"PlatePeas$Plate", "takesInRow", "(II)Z"⟩, 12), (⟨"PlatePeas$Plate", "takesEater", "(II)Z"⟩, 12), (⟨"PlatePeas$Plate", "takesStrength", "(I)Z"⟩, 12), (⟨"PlatePeas$Plate", "listCodes", "()V"⟩, 12), (⟨"PlatePeas", "takeDraft", "()V"⟩, 14), (⟨"PlatePeas", "replayNow", "()V"⟩, 14), (⟨"PlatePeas", "replay", "(LPlatePeas$Spots;II)V"⟩, 14), (⟨"PlatePeas$Spots", "peaOn", "(I)I"⟩, 5), (⟨"PlatePeas$Spots", "roll", "(III)V"⟩, 5)]
theorem lw_r1 : ∀ q ∈ lw_privs_1, lw_okq q := List.forall_mem_cons.mpr ⟨lw_p0, List.forall_mem_cons.mpr ⟨lw_p1, List.forall_mem_cons.mpr ⟨lw_p2, List.forall_mem_cons.mpr ⟨lw_p3, List.forall_mem_cons.mpr ⟨lw_p4, List.forall_mem_cons.mpr ⟨lw_p5, List.forall_mem_cons.mpr ⟨lw_p6, List.forall_mem_cons.mpr ⟨lw_p7, List.forall_mem_cons.mpr ⟨lw_p8, List.forall_mem_cons.mpr ⟨lw_p9, List.forall_mem_cons.mpr ⟨lw_p10, List.forall_mem_cons.mpr ⟨lw_p11, List.forall_mem_cons.mpr ⟨lw_p12, List.forall_mem_cons.mpr ⟨lw_p13, List.forall_mem_cons.mpr ⟨lw_p14, List.forall_mem_cons.mpr ⟨lw_p15, fun _ h => absurd h List.not_mem_nil⟩⟩⟩⟩⟩⟩⟩⟩⟩⟩⟩⟩⟩⟩⟩⟩
theorem lw_p16 : lw_okq (⟨"PlatePeas$Spots", "comeToRim", "(I)V"⟩, 5) := ⟨⟨by decide +kernel, by decide +kernel⟩, List.mem_of_getElem? (i := 89) (by decide +kernel), List.mem_of_getElem? (i := 416) (by decide +kernel), List.mem_of_getElem? (i := 417) (by decide +kernel)⟩
theorem lw_p17 : lw_okq (⟨"PlatePeas", "refusalOfPush", "(III)I"⟩, 14) := ⟨⟨by decide +kernel, by decide +kernel⟩, List.mem_of_getElem? (i := 16) (by decide +kernel), List.mem_of_getElem? (i := 449) (by decide +kernel), List.mem_of_getElem? (i := 450) (by decide +kernel)⟩
theorem lw_p18 : lw_okq (⟨"PlatePeas", "areCodes", "(LPlatePeas$Sheet;II)Z"⟩, 14) := ⟨⟨by decide +kernel, by decide +kernel⟩, List.mem_of_getElem? (i := 16) (by decide +kernel), List.mem_of_getElem? (i := 544) (by decide +kernel), List.mem_of_getElem? (i := 545) (by decide +kernel)⟩
theorem lw_p19 : lw_okq (⟨"PlatePeas", "hadByRow", "(LPlatePeas$Sheet;II)I"⟩, 14) := ⟨⟨by decide +kernel, by decide +kernel⟩, List.mem_of_getElem? (i := 16) (by decide +kernel), List.mem_of_getElem? (i := 554) (by decide +kernel), List.mem_of_getElem? (i := 555) (by decide +kernel)⟩
theorem lw_p20 : lw_okq (⟨"PlatePeas", "readingsAreSo", "(LPlatePeas$Spots;)Z"⟩, 14) := ⟨⟨by decide +kernel, by decide +kernel⟩, List.mem_of_getElem? (i := 16) (by decide +kernel), List.mem_of_getElem? (i := 584) (by decide +kernel), List.mem_of_getElem? (i := 585) (by decide +kernel)⟩
theorem lw_p21 : lw_okq (⟨"PlatePeas$Sheet", "cut", "(I)I"⟩, 3) := ⟨⟨by decide +kernel, by decide +kernel⟩, List.mem_of_getElem? (i := 131) (by decide +kernel), List.mem_of_getElem? (i := 628) (by decide +kernel), List.mem_of_getElem? (i := 629) (by decide +kernel)⟩
theorem lw_p22 : lw_okq (⟨"PlatePeasModel", "refused", "(I)I"⟩, 33) := ⟨⟨by decide +kernel, by decide +kernel⟩, List.mem_of_getElem? (i := 712) (by decide +kernel), List.mem_of_getElem? (i := 829) (by decide +kernel), List.mem_of_getElem? (i := 830) (by decide +kernel)⟩
theorem lw_p23 : lw_okq (⟨"PlatePeasModel", "fails", "(I)I"⟩, 33) := ⟨⟨by decide +kernel, by decide +kernel⟩, List.mem_of_getElem? (i := 712) (by decide +kernel), List.mem_of_getElem? (i := 837) (by decide +kernel), List.mem_of_getElem? (i := 838) (by decide +kernel)⟩
theorem lw_p24 : lw_okq (⟨"PlatePeasModel", "lost", "(I)J"⟩, 33) := ⟨⟨by decide +kernel, by decide +kernel⟩, List.mem_of_getElem? (i := 712) (by decide +kernel), List.mem_of_getElem? (i := 856) (by decide +kernel), List.mem_of_getElem? (i := 857) (by decide +kernel)⟩
theorem lw_p25 : lw_okq (⟨"PlatePeasModel", "faultOf", "(IIII)I"⟩, 33) := ⟨⟨by decide +kernel, by decide +kernel⟩, List.mem_of_getElem? (i := 712) (by decide +kernel), List.mem_of_getElem? (i := 869) (by decide +kernel), List.mem_of_getElem? (i := 870) (by decide +kernel)⟩
theorem lw_p26 : lw_okq (⟨"PlatePeasModel", "takeText", "()Z"⟩, 33) := ⟨⟨by decide +kernel, by decide +kernel⟩, List.mem_of_getElem? (i := 712) (by decide +kernel), List.mem_of_getElem? (i := 873) (by decide +kernel), List.mem_of_getElem? (i := 874) (by decide +kernel)⟩
theorem lw_p27 : lw_okq (⟨"PlatePeasModel", "take", "(II)I"⟩, 33) := ⟨⟨by decide +kernel, by decide +kernel⟩, List.mem_of_getElem? (i := 712) (by decide +kernel), List.mem_of_getElem? (i := 877) (by decide +kernel), List.mem_of_getElem? (i := 878) (by decide +kernel)⟩
theorem lw_p28 : lw_okq (⟨"PlatePeasModel", "takeSquares", "()Z"⟩, 33) := ⟨⟨by decide +kernel, by decide +kernel⟩, List.mem_of_getElem? (i := 712) (by decide +kernel), List.mem_of_getElem? (i := 881) (by decide +kernel), List.mem_of_getElem? (i := 882) (by decide +kernel)⟩
theorem lw_p29 : lw_okq (⟨"PlatePeasModel", "takeSquare", "(I)Z"⟩, 33) := ⟨⟨by decide +kernel, by decide +kernel⟩, List.mem_of_getElem? (i := 712) (by decide +kernel), List.mem_of_getElem? (i := 885) (by decide +kernel), List.mem_of_getElem? (i := 886) (by decide +kernel)⟩
theorem lw_p30 : lw_okq (⟨"PlatePeasModel", "takeEater", "()Z"⟩, 33) := ⟨⟨by decide +kernel, by decide +kernel⟩, List.mem_of_getElem? (i := 712) (by decide +kernel), List.mem_of_getElem? (i := 889) (by decide +kernel), List.mem_of_getElem? (i := 890) (by decide +kernel)⟩
theorem lw_p31 : lw_okq (⟨"PlatePeasModel", "isSquare", "(I)Z"⟩, 33) := ⟨⟨by decide +kernel, by decide +kernel⟩, List.mem_of_getElem? (i := 712) (by decide +kernel), List.mem_of_getElem? (i := 897) (by decide +kernel), List.mem_of_getElem? (i := 898) (by decide +kernel)⟩
def lw_privs_2 : List (MethodName × Nat) := [(⟨"PlatePeas$Spots", "comeToRim", "(I)V"⟩, 5), (⟨"PlatePeas", "refusalOfPush", "(III)I"⟩, 14), (⟨"PlatePeas", "areCodes", "(LPlatePeas$Sheet;II)Z"⟩, 14), (⟨"PlatePeas", "hadByRow", "(LPlatePeas$Sheet;II)I"⟩, 14), (⟨"PlatePeas", "readingsAreSo", "(LPlatePeas$Spots;)Z"⟩, 14), (⟨"PlatePeas$Sheet", "cut", "(I)I"⟩, 3), (⟨"PlatePeasModel", "refused", "(I)I"⟩, 33), (⟨"PlatePeasModel", "fails", "(I)I"⟩, 33), (⟨"PlatePeasModel", "lost", "(I)J"⟩, 33), (⟨"PlatePeasModel", "faultOf", "(IIII)I"⟩, 33), (⟨"PlatePeasModel", "takeText", "()Z"⟩, 33), (⟨"PlatePeasModel", "take", "(II)I"⟩, 33), (⟨"PlatePeasModel", "takeSquares", "()Z"⟩, 33), (⟨"PlatePeasModel", "takeSquare", "(I)Z"⟩, 33), (⟨"PlatePeasModel", "takeEater", "()Z"⟩, 33), (⟨"PlatePeasModel", "isSquare", "(I)Z"⟩, 33)]
theorem lw_r2 : ∀ q ∈ lw_privs_2, lw_okq q := List.forall_mem_cons.mpr ⟨lw_p16, List.forall_mem_cons.mpr ⟨lw_p17, List.forall_mem_cons.mpr ⟨lw_p18, List.forall_mem_cons.mpr ⟨lw_p19, List.forall_mem_cons.mpr ⟨lw_p20, List.forall_mem_cons.mpr ⟨lw_p21, List.forall_mem_cons.mpr ⟨lw_p22, List.forall_mem_cons.mpr ⟨lw_p23, List.forall_mem_cons.mpr ⟨lw_p24, List.forall_mem_cons.mpr ⟨lw_p25, List.forall_mem_cons.mpr ⟨lw_p26, List.forall_mem_cons.mpr ⟨lw_p27, List.forall_mem_cons.mpr ⟨lw_p28, List.forall_mem_cons.mpr ⟨lw_p29, List.forall_mem_cons.mpr ⟨lw_p30, List.forall_mem_cons.mpr ⟨lw_p31, fun _ h => absurd h List.not_mem_nil⟩⟩⟩⟩⟩⟩⟩⟩⟩⟩⟩⟩⟩⟩⟩⟩
theorem lw_p32 : lw_okq (⟨"PlatePeasModel", "startsAt", "(I)Z"⟩, 33) := ⟨⟨by decide +kernel, by decide +kernel⟩, List.mem_of_getElem? (i := 712) (by decide +kernel), List.mem_of_getElem? (i := 905) (by decide +kernel), List.mem_of_getElem? (i := 906) (by decide +kernel)⟩
theorem lw_p33 : lw_okq (⟨"PlatePeasModel", "isEater", "(I)Z"⟩, 33) := ⟨⟨by decide +kernel, by decide +kernel⟩, List.mem_of_getElem? (i := 712) (by decide +kernel), List.mem_of_getElem? (i := 913) (by decide +kernel), List.mem_of_getElem? (i := 914) (by decide +kernel)⟩
theorem lw_p34 : lw_okq (⟨"PlatePeasModel", "forceOf", "(I)I"⟩, 33) := ⟨⟨by decide +kernel, by decide +kernel⟩, List.mem_of_getElem? (i := 712) (by decide +kernel), List.mem_of_getElem? (i := 917) (by decide +kernel), List.mem_of_getElem? (i := 918) (by decide +kernel)⟩
theorem lw_p35 : lw_okq (⟨"PlatePeasModel", "isPea", "(I)Z"⟩, 33) := ⟨⟨by decide +kernel, by decide +kernel⟩, List.mem_of_getElem? (i := 712) (by decide +kernel), List.mem_of_getElem? (i := 929) (by decide +kernel), List.mem_of_getElem? (i := 930) (by decide +kernel)⟩
theorem lw_p36 : lw_okq (⟨"PlatePeasModel", "goThrough", "(I)V"⟩, 33) := ⟨⟨by decide +kernel, by decide +kernel⟩, List.mem_of_getElem? (i := 712) (by decide +kernel), List.mem_of_getElem? (i := 941) (by decide +kernel), List.mem_of_getElem? (i := 942) (by decide +kernel)⟩
theorem lw_p37 : lw_okq (⟨"PlatePeasModel", "doPush", "(I)V"⟩, 33) := ⟨⟨by decide +kernel, by decide +kernel⟩, List.mem_of_getElem? (i := 712) (by decide +kernel), List.mem_of_getElem? (i := 945) (by decide +kernel), List.mem_of_getElem? (i := 946) (by decide +kernel)⟩
theorem lw_p38 : lw_okq (⟨"PlatePeasModel", "isHeld", "(II)Z"⟩, 33) := ⟨⟨by decide +kernel, by decide +kernel⟩, List.mem_of_getElem? (i := 712) (by decide +kernel), List.mem_of_getElem? (i := 952) (by decide +kernel), List.mem_of_getElem? (i := 953) (by decide +kernel)⟩
theorem lw_p39 : lw_okq (⟨"PlatePeasModel", "next", "(II)I"⟩, 33) := ⟨⟨by decide +kernel, by decide +kernel⟩, List.mem_of_getElem? (i := 712) (by decide +kernel), List.mem_of_getElem? (i := 956) (by decide +kernel), List.mem_of_getElem? (i := 957) (by decide +kernel)⟩
theorem lw_p40 : lw_okq (⟨"PlatePeasModel", "peaAt", "(I)I"⟩, 33) := ⟨⟨by decide +kernel, by decide +kernel⟩, List.mem_of_getElem? (i := 712) (by decide +kernel), List.mem_of_getElem? (i := 960) (by decide +kernel), List.mem_of_getElem? (i := 961) (by decide +kernel)⟩
theorem lw_p41 : lw_okq (⟨"PlatePeasModel", "roll", "(III)V"⟩, 33) := ⟨⟨by decide +kernel, by decide +kernel⟩, List.mem_of_getElem? (i := 712) (by decide +kernel), List.mem_of_getElem? (i := 967) (by decide +kernel), List.mem_of_getElem? (i := 968) (by decide +kernel)⟩
theorem lw_p42 : lw_okq (⟨"PlatePeasModel", "setOf", "(I)I"⟩, 33) := ⟨⟨by decide +kernel, by decide +kernel⟩, List.mem_of_getElem? (i := 712) (by decide +kernel), List.mem_of_getElem? (i := 976) (by decide +kernel), List.mem_of_getElem? (i := 977) (by decide +kernel)⟩
theorem lw_p43 : lw_okq (⟨"PlatePeasModel", "save", "(I)V"⟩, 33) := ⟨⟨by decide +kernel, by decide +kernel⟩, List.mem_of_getElem? (i := 712) (by decide +kernel), List.mem_of_getElem? (i := 984) (by decide +kernel), List.mem_of_getElem? (i := 985) (by decide +kernel)⟩
theorem lw_p44 : lw_okq (⟨"PlatePeasModel", "findFewest", "(I)I"⟩, 33) := ⟨⟨by decide +kernel, by decide +kernel⟩, List.mem_of_getElem? (i := 712) (by decide +kernel), List.mem_of_getElem? (i := 992) (by decide +kernel), List.mem_of_getElem? (i := 993) (by decide +kernel)⟩
theorem lw_p45 : lw_okq (⟨"PlatePeasModel", "lastPush", "(II)I"⟩, 33) := ⟨⟨by decide +kernel, by decide +kernel⟩, List.mem_of_getElem? (i := 712) (by decide +kernel), List.mem_of_getElem? (i := 996) (by decide +kernel), List.mem_of_getElem? (i := 997) (by decide +kernel)⟩
theorem lw_p46 : lw_okq (⟨"PlatePeasModel", "isPush", "(I)Z"⟩, 33) := ⟨⟨by decide +kernel, by decide +kernel⟩, List.mem_of_getElem? (i := 712) (by decide +kernel), List.mem_of_getElem? (i := 1000) (by decide +kernel), List.mem_of_getElem? (i := 1001) (by decide +kernel)⟩
theorem lw_p47 : lw_okq (⟨"PlatePeasModel", "isCode", "(I)Z"⟩, 33) := ⟨⟨by decide +kernel, by decide +kernel⟩, List.mem_of_getElem? (i := 712) (by decide +kernel), List.mem_of_getElem? (i := 1004) (by decide +kernel), List.mem_of_getElem? (i := 1005) (by decide +kernel)⟩
def lw_privs_3 : List (MethodName × Nat) := [(⟨"PlatePeasModel", "startsAt", "(I)Z"⟩, 33), (⟨"PlatePeasModel", "isEater", "(I)Z"⟩, 33), (⟨"PlatePeasModel", "forceOf", "(I)I"⟩, 33), (⟨"PlatePeasModel", "isPea", "(I)Z"⟩, 33), (⟨"PlatePeasModel", "goThrough", "(I)V"⟩, 33), (⟨"PlatePeasModel", "doPush", "(I)V"⟩, 33), (⟨"PlatePeasModel", "isHeld", "(II)Z"⟩, 33), (⟨"PlatePeasModel", "next", "(II)I"⟩, 33), (⟨"PlatePeasModel", "peaAt", "(I)I"⟩, 33), (⟨"PlatePeasModel", "roll", "(III)V"⟩, 33), (⟨"PlatePeasModel", "setOf", "(I)I"⟩, 33), (⟨"PlatePeasModel", "save", "(I)V"⟩, 33), (⟨"PlatePeasModel", "findFewest", "(I)I"⟩, 33), (⟨"PlatePeasModel", "lastPush", "(II)I"⟩, 33), (⟨"PlatePeasModel", "isPush", "(I)Z"⟩, 33), (⟨"PlatePeasModel", "isCode", "(I)Z"⟩, 33)]
theorem lw_r3 : ∀ q ∈ lw_privs_3, lw_okq q := List.forall_mem_cons.mpr ⟨lw_p32, List.forall_mem_cons.mpr ⟨lw_p33, List.forall_mem_cons.mpr ⟨lw_p34, List.forall_mem_cons.mpr ⟨lw_p35, List.forall_mem_cons.mpr ⟨lw_p36, List.forall_mem_cons.mpr ⟨lw_p37, List.forall_mem_cons.mpr ⟨lw_p38, List.forall_mem_cons.mpr ⟨lw_p39, List.forall_mem_cons.mpr ⟨lw_p40, List.forall_mem_cons.mpr ⟨lw_p41, List.forall_mem_cons.mpr ⟨lw_p42, List.forall_mem_cons.mpr ⟨lw_p43, List.forall_mem_cons.mpr ⟨lw_p44, List.forall_mem_cons.mpr ⟨lw_p45, List.forall_mem_cons.mpr ⟨lw_p46, List.forall_mem_cons.mpr ⟨lw_p47, fun _ h => absurd h List.not_mem_nil⟩⟩⟩⟩⟩⟩⟩⟩⟩⟩⟩⟩⟩⟩⟩⟩
theorem lw_p48 : lw_okq (⟨"PlatePeasModel", "load", "(I)V"⟩, 33) := ⟨⟨by decide +kernel, by decide +kernel⟩, List.mem_of_getElem? (i := 712) (by decide +kernel), List.mem_of_getElem? (i := 1008) (by decide +kernel), List.mem_of_getElem? (i := 1009) (by decide +kernel)⟩
theorem lw_p49 : lw_okq (⟨"PlatePeasModel", "findThree", "(I)Z"⟩, 33) := ⟨⟨by decide +kernel, by decide +kernel⟩, List.mem_of_getElem? (i := 712) (by decide +kernel), List.mem_of_getElem? (i := 1012) (by decide +kernel), List.mem_of_getElem? (i := 1013) (by decide +kernel)⟩
theorem lw_p50 : lw_okq (⟨"PlatePeasModel", "hadNow", "()I"⟩, 33) := ⟨⟨by decide +kernel, by decide +kernel⟩, List.mem_of_getElem? (i := 712) (by decide +kernel), List.mem_of_getElem? (i := 1020) (by decide +kernel), List.mem_of_getElem? (i := 1021) (by decide +kernel)⟩
theorem lw_p51 : lw_okq (⟨"PlatePeasModel", "mostByOne", "(I)I"⟩, 33) := ⟨⟨by decide +kernel, by decide +kernel⟩, List.mem_of_getElem? (i := 712) (by decide +kernel), List.mem_of_getElem? (i := 1024) (by decide +kernel), List.mem_of_getElem? (i := 1025) (by decide +kernel)⟩
theorem lw_p52 : lw_okq (⟨"PlatePeasModel", "mostByTwo", "(I)I"⟩, 33) := ⟨⟨by decide +kernel, by decide +kernel⟩, List.mem_of_getElem? (i := 712) (by decide +kernel), List.mem_of_getElem? (i := 1028) (by decide +kernel), List.mem_of_getElem? (i := 1029) (by decide +kernel)⟩
theorem lw_p53 : lw_okq (⟨"PlatePeasModel", "mostByThree", "()I"⟩, 33) := ⟨⟨by decide +kernel, by decide +kernel⟩, List.mem_of_getElem? (i := 712) (by decide +kernel), List.mem_of_getElem? (i := 1032) (by decide +kernel), List.mem_of_getElem? (i := 1033) (by decide +kernel)⟩
theorem lw_p54 : lw_okq (⟨"PlatePeasModel", "areCodes", "(II)Z"⟩, 33) := ⟨⟨by decide +kernel, by decide +kernel⟩, List.mem_of_getElem? (i := 712) (by decide +kernel), List.mem_of_getElem? (i := 1044) (by decide +kernel), List.mem_of_getElem? (i := 1045) (by decide +kernel)⟩
theorem lw_p55 : lw_okq (⟨"PlatePeasModel", "areSo", "()Z"⟩, 33) := ⟨⟨by decide +kernel, by decide +kernel⟩, List.mem_of_getElem? (i := 712) (by decide +kernel), List.mem_of_getElem? (i := 1067) (by decide +kernel), List.mem_of_getElem? (i := 1068) (by decide +kernel)⟩
theorem lw_p56 : lw_okq (⟨"PlatePeasModel", "forkTells", "(I)I"⟩, 33) := ⟨⟨by decide +kernel, by decide +kernel⟩, List.mem_of_getElem? (i := 712) (by decide +kernel), List.mem_of_getElem? (i := 1083) (by decide +kernel), List.mem_of_getElem? (i := 1084) (by decide +kernel)⟩
theorem lw_p57 : lw_okq (⟨"PlatePeasModel", "begin", "(I)V"⟩, 33) := ⟨⟨by decide +kernel, by decide +kernel⟩, List.mem_of_getElem? (i := 712) (by decide +kernel), List.mem_of_getElem? (i := 1087) (by decide +kernel), List.mem_of_getElem? (i := 1088) (by decide +kernel)⟩
theorem lw_p58 : lw_okq (⟨"PlatePeasModel", "knifeTells", "(I)I"⟩, 33) := ⟨⟨by decide +kernel, by decide +kernel⟩, List.mem_of_getElem? (i := 712) (by decide +kernel), List.mem_of_getElem? (i := 1091) (by decide +kernel), List.mem_of_getElem? (i := 1092) (by decide +kernel)⟩
theorem lw_p59 : lw_okq (⟨"PlatePeasModel", "spoonTells", "(I)I"⟩, 33) := ⟨⟨by decide +kernel, by decide +kernel⟩, List.mem_of_getElem? (i := 712) (by decide +kernel), List.mem_of_getElem? (i := 1095) (by decide +kernel), List.mem_of_getElem? (i := 1096) (by decide +kernel)⟩
def lw_privs_4 : List (MethodName × Nat) := [(⟨"PlatePeasModel", "load", "(I)V"⟩, 33), (⟨"PlatePeasModel", "findThree", "(I)Z"⟩, 33), (⟨"PlatePeasModel", "hadNow", "()I"⟩, 33), (⟨"PlatePeasModel", "mostByOne", "(I)I"⟩, 33), (⟨"PlatePeasModel", "mostByTwo", "(I)I"⟩, 33), (⟨"PlatePeasModel", "mostByThree", "()I"⟩, 33), (⟨"PlatePeasModel", "areCodes", "(II)Z"⟩, 33), (⟨"PlatePeasModel", "areSo", "()Z"⟩, 33), (⟨"PlatePeasModel", "forkTells", "(I)I"⟩, 33), (⟨"PlatePeasModel", "begin", "(I)V"⟩, 33), (⟨"PlatePeasModel", "knifeTells", "(I)I"⟩, 33), (⟨"PlatePeasModel", "spoonTells", "(I)I"⟩, 33)]
theorem lw_r4 : ∀ q ∈ lw_privs_4, lw_okq q := List.forall_mem_cons.mpr ⟨lw_p48, List.forall_mem_cons.mpr ⟨lw_p49, List.forall_mem_cons.mpr ⟨lw_p50, List.forall_mem_cons.mpr ⟨lw_p51, List.forall_mem_cons.mpr ⟨lw_p52, List.forall_mem_cons.mpr ⟨lw_p53, List.forall_mem_cons.mpr ⟨lw_p54, List.forall_mem_cons.mpr ⟨lw_p55, List.forall_mem_cons.mpr ⟨lw_p56, List.forall_mem_cons.mpr ⟨lw_p57, List.forall_mem_cons.mpr ⟨lw_p58, List.forall_mem_cons.mpr ⟨lw_p59, fun _ h => absurd h List.not_mem_nil⟩⟩⟩⟩⟩⟩⟩⟩⟩⟩⟩⟩
def lw_privs : List (MethodName × Nat) := lw_privs_1 ++ (lw_privs_2 ++ (lw_privs_3 ++ (lw_privs_4)))
def lw_tbl : List Cond := k2_sels lw_privs ++ tables_1
theorem lw_privs_ok : ∀ q ∈ lw_privs, lw_okq q := by
  show ∀ q ∈ lw_privs_1 ++ (lw_privs_2 ++ (lw_privs_3 ++ (lw_privs_4))), lw_okq q
  exact List.forall_mem_append.mpr ⟨lw_r1, List.forall_mem_append.mpr ⟨lw_r2, List.forall_mem_append.mpr ⟨lw_r3, lw_r4⟩⟩⟩
end
section
def RX0 : String := "PlatePeas$Fork"
def TX0 : u_T := fun k => match k with
  | 0 => ("PlatePeas$Fork", "number", "I", true)
  | _ => ("PlatePeas$Fork", "strength", "I", true)
def tyX0 : Nat → FieldType := fun k => match k with
  | 0 => .int
  | _ => .int
abbrev wsX00 : List Cond := u_ws RX0 TX0 2
theorem nmX0 : ∀ a, a < 2 → ∀ b, b < 2 → a ≠ b → (TX0 a).2.1 ≠ (TX0 b).2.1 := by decide +kernel
theorem tyX0_ok : ∀ k, k < 2 → parseFieldDescriptor (TX0 k).2.2.1 = some (tyX0 k) := by decide +kernel
abbrev cX0_init : ByteArray := prog_2_method_1_code
def yX0_init : MethodName := ⟨RX0, "<init>", "(II)V"⟩
abbrev cX0_kindNumber : ByteArray := prog_2_method_2_code
def yX0_kindNumber : MethodName := ⟨RX0, "kindNumber", "()I"⟩
abbrev cX0_pushForce : ByteArray := prog_2_method_3_code
def yX0_pushForce : MethodName := ⟨RX0, "pushForce", "()I"⟩
abbrev cX0_telling : ByteArray := prog_2_method_4_code
def yX0_telling : MethodName := ⟨RX0, "telling", "(LPlatePeas$Trace;)I"⟩
abbrev cX0_forkTelling : ByteArray := prog_2_method_5_code
def yX0_forkTelling : MethodName := ⟨RX0, "forkTelling", "(LPlatePeas$Trace;)I"⟩
abbrev cX0_polished : ByteArray := prog_2_method_6_code
def yX0_polished : MethodName := ⟨RX0, "polished", "(LPlatePeas$Trace;)I"⟩
def RX1 : String := "PlatePeas$Knife"
def TX1 : u_T := fun k => match k with
  | 0 => ("PlatePeas$Fork", "number", "I", true)
  | _ => ("PlatePeas$Fork", "strength", "I", true)
def tyX1 : Nat → FieldType := fun k => match k with
  | 0 => .int
  | _ => .int
abbrev wsX10 : List Cond := u_ws RX1 TX1 2
theorem nmX1 : ∀ a, a < 2 → ∀ b, b < 2 → a ≠ b → (TX1 a).2.1 ≠ (TX1 b).2.1 := by decide +kernel
theorem tyX1_ok : ∀ k, k < 2 → parseFieldDescriptor (TX1 k).2.2.1 = some (tyX1 k) := by decide +kernel
abbrev cX1_init : ByteArray := prog_3_method_1_code
def yX1_init : MethodName := ⟨RX1, "<init>", "(II)V"⟩
abbrev cX1_kindNumber : ByteArray := prog_3_method_2_code
def yX1_kindNumber : MethodName := ⟨RX1, "kindNumber", "()I"⟩
abbrev cX1_pushForce : ByteArray := prog_3_method_3_code
def yX1_pushForce : MethodName := ⟨RX1, "pushForce", "()I"⟩
abbrev cX1_telling : ByteArray := prog_3_method_4_code
def yX1_telling : MethodName := ⟨RX1, "telling", "(LPlatePeas$Trace;)I"⟩
def RX2 : String := "PlatePeas$Plate"
def TX2 : u_T := fun k => match k with
  | 0 => ("PlatePeas$Plate", "high", "I", false)
  | 1 => ("PlatePeas$Plate", "wide", "I", false)
  | 2 => ("PlatePeas$Plate", "peaCount", "I", false)
  | 3 => ("PlatePeas$Plate", "eaterCount", "I", false)
  | 4 => ("PlatePeas$Plate", "codeCount", "I", false)
  | 5 => ("PlatePeas$Plate", "codes", "[I", true)
  | 6 => ("PlatePeas$Plate", "signs", "[I", true)
  | 7 => ("PlatePeas$Plate", "starts", "[I", true)
  | 8 => ("PlatePeas$Plate", "eaters", "[LPlatePeas$Fork;", true)
  | 9 => ("PlatePeas$Plate", "letters", "[I", true)
  | 10 => ("PlatePeas$Plate", "strengths", "[I", true)
  | _ => ("PlatePeas$Plate", "squareCount", "I", false)
def tyX2 : Nat → FieldType := fun k => match k with
  | 0 => .int
  | 1 => .int
  | 2 => .int
  | 3 => .int
  | 4 => .int
  | 5 => .array .int
  | 6 => .array .int
  | 7 => .array .int
  | 8 => .array (.object "PlatePeas$Fork")
  | 9 => .array .int
  | 10 => .array .int
  | _ => .int
abbrev wsX20 : List Cond := u_ws RX2 TX2 12
theorem nmX2 : ∀ a, a < 12 → ∀ b, b < 12 → a ≠ b → (TX2 a).2.1 ≠ (TX2 b).2.1 := by decide +kernel
theorem tyX2_ok : ∀ k, k < 12 → parseFieldDescriptor (TX2 k).2.2.1 = some (tyX2 k) := by decide +kernel
abbrev cX2_init : ByteArray := prog_4_method_1_code
def yX2_init : MethodName := ⟨RX2, "<init>", "()V"⟩
abbrev cX2_isLaid : ByteArray := prog_4_method_2_code
def yX2_isLaid : MethodName := ⟨RX2, "isLaid", "()Z"⟩
abbrev cX2_hasSquare : ByteArray := prog_4_method_3_code
def yX2_hasSquare : MethodName := ⟨RX2, "hasSquare", "(I)Z"⟩
abbrev cX2_hasPea : ByteArray := prog_4_method_4_code
def yX2_hasPea : MethodName := ⟨RX2, "hasPea", "(I)Z"⟩
abbrev cX2_eaterAt : ByteArray := prog_4_method_5_code
def yX2_eaterAt : MethodName := ⟨RX2, "eaterAt", "(I)LPlatePeas$Fork;"⟩
abbrev cX2_signAt : ByteArray := prog_4_method_6_code
def yX2_signAt : MethodName := ⟨RX2, "signAt", "(I)I"⟩
abbrev cX2_changeSign : ByteArray := prog_4_method_7_code
def yX2_changeSign : MethodName := ⟨RX2, "changeSign", "(II)V"⟩
abbrev cX2_startOf : ByteArray := prog_4_method_8_code
def yX2_startOf : MethodName := ⟨RX2, "startOf", "(I)I"⟩
abbrev cX2_startsOn : ByteArray := prog_4_method_9_code
def yX2_startsOn : MethodName := ⟨RX2, "startsOn", "(I)Z"⟩
abbrev cX2_isCode : ByteArray := prog_4_method_10_code
def yX2_isCode : MethodName := ⟨RX2, "isCode", "(I)Z"⟩
abbrev cX2_nextTo : ByteArray := prog_4_method_11_code
def yX2_nextTo : MethodName := ⟨RX2, "nextTo", "(II)I"⟩
abbrev cX2_readText : ByteArray := prog_4_method_12_code
def yX2_readText : MethodName := ⟨RX2, "readText", "(LPlatePeas$Sheet;II)I"⟩
abbrev cX2_wipe : ByteArray := prog_4_method_13_code
def yX2_wipe : MethodName := ⟨RX2, "wipe", "()V"⟩
abbrev cX2_rowCodes : ByteArray := prog_4_method_14_code
def yX2_rowCodes : MethodName := ⟨RX2, "rowCodes", "()I"⟩
abbrev cX2_takes : ByteArray := prog_4_method_15_code
def yX2_takes : MethodName := ⟨RX2, "takes", "(II)Z"⟩
abbrev cX2_takesBehindHead : ByteArray := prog_4_method_16_code
def yX2_takesBehindHead : MethodName := ⟨RX2, "takesBehindHead", "(II)Z"⟩
abbrev cX2_takesInRow : ByteArray := prog_4_method_17_code
def yX2_takesInRow : MethodName := ⟨RX2, "takesInRow", "(II)Z"⟩
abbrev cX2_signOf : ByteArray := prog_4_method_18_code
def yX2_signOf : MethodName := ⟨RX2, "signOf", "(I)I"⟩
abbrev cX2_takesEater : ByteArray := prog_4_method_19_code
def yX2_takesEater : MethodName := ⟨RX2, "takesEater", "(II)Z"⟩
abbrev cX2_takesStrength : ByteArray := prog_4_method_20_code
def yX2_takesStrength : MethodName := ⟨RX2, "takesStrength", "(I)Z"⟩
abbrev cX2_eaterByLetter : ByteArray := prog_4_method_21_code
def yX2_eaterByLetter : MethodName := ⟨RX2, "eaterByLetter", "(III)LPlatePeas$Fork;"⟩
abbrev cX2_listCodes : ByteArray := prog_4_method_22_code
def yX2_listCodes : MethodName := ⟨RX2, "listCodes", "()V"⟩
def RX3 : String := "PlatePeas$Search"
def TX3 : u_T := fun k => match k with
  | 0 => ("PlatePeas$Search", "levels", "[LPlatePeas$Spots;", true)
  | _ => ("PlatePeas$Search", "found", "[I", true)
def tyX3 : Nat → FieldType := fun k => match k with
  | 0 => .array (.object "PlatePeas$Spots")
  | _ => .array .int
abbrev wsX30 : List Cond := u_ws RX3 TX3 2
theorem nmX3 : ∀ a, a < 2 → ∀ b, b < 2 → a ≠ b → (TX3 a).2.1 ≠ (TX3 b).2.1 := by decide +kernel
theorem tyX3_ok : ∀ k, k < 2 → parseFieldDescriptor (TX3 k).2.2.1 = some (tyX3 k) := by decide +kernel
abbrev cX3_init : ByteArray := prog_5_method_1_code
def yX3_init : MethodName := ⟨RX3, "<init>", "(LPlatePeas$Plate;)V"⟩
abbrev cX3_stepsOn : ByteArray := prog_5_method_2_code
def yX3_stepsOn : MethodName := ⟨RX3, "stepsOn", "(II)Z"⟩
def RX4 : String := "PlatePeas$Sheet"
def TX4 : u_T := fun k => match k with
  | 0 => ("PlatePeas$Sheet", "cells", "[I", true)
  | 1 => ("PlatePeas$Sheet", "lane", "I", false)
  | _ => ("PlatePeas$Sheet", "length", "I", false)
def tyX4 : Nat → FieldType := fun k => match k with
  | 0 => .array .int
  | 1 => .int
  | _ => .int
abbrev wsX40 : List Cond := u_ws RX4 TX4 3
theorem nmX4 : ∀ a, a < 3 → ∀ b, b < 3 → a ≠ b → (TX4 a).2.1 ≠ (TX4 b).2.1 := by decide +kernel
theorem tyX4_ok : ∀ k, k < 3 → parseFieldDescriptor (TX4 k).2.2.1 = some (tyX4 k) := by decide +kernel
abbrev cX4_init : ByteArray := prog_6_method_1_code
def yX4_init : MethodName := ⟨RX4, "<init>", "()V"⟩
abbrev cX4_isNothing : ByteArray := prog_6_method_2_code
def yX4_isNothing : MethodName := ⟨RX4, "isNothing", "()Z"⟩
abbrev cX4_begin : ByteArray := prog_6_method_3_code
def yX4_begin : MethodName := ⟨RX4, "begin", "(II)V"⟩
abbrev cX4_drop : ByteArray := prog_6_method_4_code
def yX4_drop : MethodName := ⟨RX4, "drop", "()V"⟩
abbrev cX4_hasCell : ByteArray := prog_6_method_5_code
def yX4_hasCell : MethodName := ⟨RX4, "hasCell", "(I)Z"⟩
abbrev cX4_hasCells : ByteArray := prog_6_method_6_code
def yX4_hasCells : MethodName := ⟨RX4, "hasCells", "(II)Z"⟩
abbrev cX4_read : ByteArray := prog_6_method_7_code
def yX4_read : MethodName := ⟨RX4, "read", "(I)I"⟩
abbrev cX4_write : ByteArray := prog_6_method_8_code
def yX4_write : MethodName := ⟨RX4, "write", "(II)V"⟩
abbrev cX4_cut : ByteArray := prog_6_method_9_code
def yX4_cut : MethodName := ⟨RX4, "cut", "(I)I"⟩
abbrev cX4_faultOfLane : ByteArray := prog_6_method_10_code
def yX4_faultOfLane : MethodName := ⟨RX4, "faultOfLane", "(I)I"⟩
abbrev cX4_faultOfCell : ByteArray := prog_6_method_11_code
def yX4_faultOfCell : MethodName := ⟨RX4, "faultOfCell", "(II)I"⟩
abbrev cX4_faultOfCells : ByteArray := prog_6_method_12_code
def yX4_faultOfCells : MethodName := ⟨RX4, "faultOfCells", "(III)I"⟩
def RX5 : String := "PlatePeas$Spoon"
def TX5 : u_T := fun k => match k with
  | 0 => ("PlatePeas$Fork", "number", "I", true)
  | _ => ("PlatePeas$Fork", "strength", "I", true)
def tyX5 : Nat → FieldType := fun k => match k with
  | 0 => .int
  | _ => .int
abbrev wsX50 : List Cond := u_ws RX5 TX5 2
theorem nmX5 : ∀ a, a < 2 → ∀ b, b < 2 → a ≠ b → (TX5 a).2.1 ≠ (TX5 b).2.1 := by decide +kernel
theorem tyX5_ok : ∀ k, k < 2 → parseFieldDescriptor (TX5 k).2.2.1 = some (tyX5 k) := by decide +kernel
abbrev cX5_init : ByteArray := prog_7_method_1_code
def yX5_init : MethodName := ⟨RX5, "<init>", "(II)V"⟩
abbrev cX5_kindNumber : ByteArray := prog_7_method_2_code
def yX5_kindNumber : MethodName := ⟨RX5, "kindNumber", "()I"⟩
abbrev cX5_pushForce : ByteArray := prog_7_method_3_code
def yX5_pushForce : MethodName := ⟨RX5, "pushForce", "()I"⟩
abbrev cX5_telling : ByteArray := prog_7_method_4_code
def yX5_telling : MethodName := ⟨RX5, "telling", "(LPlatePeas$Trace;)I"⟩
abbrev cX5_polished : ByteArray := prog_7_method_5_code
def yX5_polished : MethodName := ⟨RX5, "polished", "(LPlatePeas$Trace;)I"⟩
def RX6 : String := "PlatePeas$Spots"
def TX6 : u_T := fun k => match k with
  | 0 => ("PlatePeas$Spots", "plate", "LPlatePeas$Plate;", false)
  | 1 => ("PlatePeas$Spots", "had", "I", false)
  | 2 => ("PlatePeas$Spots", "off", "I", false)
  | 3 => ("PlatePeas$Spots", "law", "I", false)
  | _ => ("PlatePeas$Spots", "spots", "[I", true)
def tyX6 : Nat → FieldType := fun k => match k with
  | 0 => .object "PlatePeas$Plate"
  | 1 => .int
  | 2 => .int
  | 3 => .int
  | _ => .array .int
abbrev wsX60 : List Cond := u_ws RX6 TX6 5
theorem nmX6 : ∀ a, a < 5 → ∀ b, b < 5 → a ≠ b → (TX6 a).2.1 ≠ (TX6 b).2.1 := by decide +kernel
theorem tyX6_ok : ∀ k, k < 5 → parseFieldDescriptor (TX6 k).2.2.1 = some (tyX6 k) := by decide +kernel
abbrev cX6_init : ByteArray := prog_8_method_1_code
def yX6_init : MethodName := ⟨RX6, "<init>", "(LPlatePeas$Plate;)V"⟩
abbrev cX6_beginOn : ByteArray := prog_8_method_2_code
def yX6_beginOn : MethodName := ⟨RX6, "beginOn", "(LPlatePeas$Plate;I)V"⟩
abbrev cX6_copyFrom : ByteArray := prog_8_method_3_code
def yX6_copyFrom : MethodName := ⟨RX6, "copyFrom", "(LPlatePeas$Spots;)V"⟩
abbrev cX6_spotOf : ByteArray := prog_8_method_4_code
def yX6_spotOf : MethodName := ⟨RX6, "spotOf", "(I)I"⟩
abbrev cX6_isOn : ByteArray := prog_8_method_5_code
def yX6_isOn : MethodName := ⟨RX6, "isOn", "(I)Z"⟩
abbrev cX6_isHad : ByteArray := prog_8_method_6_code
def yX6_isHad : MethodName := ⟨RX6, "isHad", "(I)Z"⟩
abbrev cX6_countHad : ByteArray := prog_8_method_7_code
def yX6_countHad : MethodName := ⟨RX6, "countHad", "()I"⟩
abbrev cX6_elsewhereThan : ByteArray := prog_8_method_8_code
def yX6_elsewhereThan : MethodName := ⟨RX6, "elsewhereThan", "(LPlatePeas$Spots;)I"⟩
abbrev cX6_behindLine : ByteArray := prog_8_method_9_code
def yX6_behindLine : MethodName := ⟨RX6, "behindLine", "(II)I"⟩
abbrev cX6_isHeld : ByteArray := prog_8_method_10_code
def yX6_isHeld : MethodName := ⟨RX6, "isHeld", "(II)Z"⟩
abbrev cX6_heldSet : ByteArray := prog_8_method_11_code
def yX6_heldSet : MethodName := ⟨RX6, "heldSet", "(I)I"⟩
abbrev cX6_holdsAny : ByteArray := prog_8_method_12_code
def yX6_holdsAny : MethodName := ⟨RX6, "holdsAny", "()Z"⟩
abbrev cX6_firstHold : ByteArray := prog_8_method_13_code
def yX6_firstHold : MethodName := ⟨RX6, "firstHold", "(I)I"⟩
abbrev cX6_countHolds : ByteArray := prog_8_method_14_code
def yX6_countHolds : MethodName := ⟨RX6, "countHolds", "(I)I"⟩
abbrev cX6_pushByCode : ByteArray := prog_8_method_15_code
def yX6_pushByCode : MethodName := ⟨RX6, "pushByCode", "(I)V"⟩
abbrev cX6_roll : ByteArray := prog_8_method_16_code
def yX6_roll : MethodName := ⟨RX6, "roll", "(III)V"⟩
abbrev cX6_comeToRim : ByteArray := prog_8_method_17_code
def yX6_comeToRim : MethodName := ⟨RX6, "comeToRim", "(I)V"⟩
abbrev cX6_peaOn : ByteArray := prog_8_method_18_code
def yX6_peaOn : MethodName := ⟨RX6, "peaOn", "(I)I"⟩
def RX7 : String := "PlatePeas$Trace"
def TX7 : u_T := fun k => match k with
  | _ => ("PlatePeas$Trace", "value", "I", false)
def tyX7 : Nat → FieldType := fun k => match k with
  | _ => .int
abbrev wsX70 : List Cond := u_ws RX7 TX7 1
theorem nmX7 : ∀ a, a < 1 → ∀ b, b < 1 → a ≠ b → (TX7 a).2.1 ≠ (TX7 b).2.1 := by decide +kernel
theorem tyX7_ok : ∀ k, k < 1 → parseFieldDescriptor (TX7 k).2.2.1 = some (tyX7 k) := by decide +kernel
abbrev cX7_init : ByteArray := prog_9_method_1_code
def yX7_init : MethodName := ⟨RX7, "<init>", "()V"⟩
abbrev cX7_leave : ByteArray := prog_9_method_2_code
def yX7_leave : MethodName := ⟨RX7, "leave", "(I)V"⟩
def RX8 : String := "PlatePeas"
def TX8 : u_T := fun k => match k with
  | 0 => ("PlatePeas", "table", "LPlatePeas$Plate;", false)
  | 1 => ("PlatePeas", "draft", "LPlatePeas$Plate;", false)
  | 2 => ("PlatePeas", "lawNow", "I", false)
  | 3 => ("PlatePeas", "pushCodes", "[I", true)
  | 4 => ("PlatePeas", "pushCount", "I", false)
  | 5 => ("PlatePeas", "seenPeas", "[I", true)
  | 6 => ("PlatePeas", "seenSquares", "[I", true)
  | 7 => ("PlatePeas", "readingCount", "I", false)
  | 8 => ("PlatePeas", "now", "LPlatePeas$Spots;", true)
  | 9 => ("PlatePeas", "trial", "LPlatePeas$Spots;", true)
  | 10 => ("PlatePeas", "search", "LPlatePeas$Search;", true)
  | 11 => ("PlatePeas", "sheets", "[LPlatePeas$Sheet;", true)
  | 12 => ("PlatePeas", "traced", "LPlatePeas$Trace;", true)
  | _ => ("PlatePeas", "latestFault", "I", false)
def tyX8 : Nat → FieldType := fun k => match k with
  | 0 => .object "PlatePeas$Plate"
  | 1 => .object "PlatePeas$Plate"
  | 2 => .int
  | 3 => .array .int
  | 4 => .int
  | 5 => .array .int
  | 6 => .array .int
  | 7 => .int
  | 8 => .object "PlatePeas$Spots"
  | 9 => .object "PlatePeas$Spots"
  | 10 => .object "PlatePeas$Search"
  | 11 => .array (.object "PlatePeas$Sheet")
  | 12 => .object "PlatePeas$Trace"
  | _ => .int
abbrev wsX80 : List Cond := u_ws RX8 TX8 14
theorem nmX8 : ∀ a, a < 14 → ∀ b, b < 14 → a ≠ b → (TX8 a).2.1 ≠ (TX8 b).2.1 := by decide +kernel
theorem tyX8_ok : ∀ k, k < 14 → parseFieldDescriptor (TX8 k).2.2.1 = some (tyX8 k) := by decide +kernel
abbrev cX8_init : ByteArray := prog_1_method_1_code
def yX8_init : MethodName := ⟨RX8, "<init>", "()V"⟩
abbrev cX8_plate : ByteArray := prog_1_method_2_code
def yX8_plate : MethodName := ⟨RX8, "plate", "(IIII)I"⟩
abbrev cX8_sign : ByteArray := prog_1_method_3_code
def yX8_sign : MethodName := ⟨RX8, "sign", "(I)I"⟩
abbrev cX8_set : ByteArray := prog_1_method_4_code
def yX8_set : MethodName := ⟨RX8, "set", "(II)I"⟩
abbrev cX8_ofEater : ByteArray := prog_1_method_5_code
def yX8_ofEater : MethodName := ⟨RX8, "ofEater", "(II)I"⟩
abbrev cX8_law : ByteArray := prog_1_method_6_code
def yX8_law : MethodName := ⟨RX8, "law", "(I)I"⟩
abbrev cX8_push : ByteArray := prog_1_method_7_code
def yX8_push : MethodName := ⟨RX8, "push", "(III)I"⟩
abbrev cX8_undo : ByteArray := prog_1_method_8_code
def yX8_undo : MethodName := ⟨RX8, "undo", "(I)I"⟩
abbrev cX8_where : ByteArray := prog_1_method_9_code
def yX8_where : MethodName := ⟨RX8, "where", "(I)I"⟩
abbrev cX8_peas : ByteArray := prog_1_method_10_code
def yX8_peas : MethodName := ⟨RX8, "peas", "(I)I"⟩
abbrev cX8_would : ByteArray := prog_1_method_11_code
def yX8_would : MethodName := ⟨RX8, "would", "(IIII)I"⟩
abbrev cX8_fewest : ByteArray := prog_1_method_12_code
def yX8_fewest : MethodName := ⟨RX8, "fewest", "(II)I"⟩
abbrev cX8_most : ByteArray := prog_1_method_13_code
def yX8_most : MethodName := ⟨RX8, "most", "(I)I"⟩
abbrev cX8_wall : ByteArray := prog_1_method_14_code
def yX8_wall : MethodName := ⟨RX8, "wall", "(III)I"⟩
abbrev cX8_row : ByteArray := prog_1_method_15_code
def yX8_row : MethodName := ⟨RX8, "row", "(IIII)I"⟩
abbrev cX8_odds : ByteArray := prog_1_method_16_code
def yX8_odds : MethodName := ⟨RX8, "odds", "(III)J"⟩
abbrev cX8_reading : ByteArray := prog_1_method_17_code
def yX8_reading : MethodName := ⟨RX8, "reading", "(II)I"⟩
abbrev cX8_back : ByteArray := prog_1_method_18_code
def yX8_back : MethodName := ⟨RX8, "back", "(I)I"⟩
abbrev cX8_last : ByteArray := prog_1_method_19_code
def yX8_last : MethodName := ⟨RX8, "last", "(I)I"⟩
abbrev cX8_laws : ByteArray := prog_1_method_20_code
def yX8_laws : MethodName := ⟨RX8, "laws", "()I"⟩
abbrev cX8_never : ByteArray := prog_1_method_21_code
def yX8_never : MethodName := ⟨RX8, "never", "()I"⟩
abbrev cX8_sheet : ByteArray := prog_1_method_22_code
def yX8_sheet : MethodName := ⟨RX8, "sheet", "(III)I"⟩
abbrev cX8_lose : ByteArray := prog_1_method_23_code
def yX8_lose : MethodName := ⟨RX8, "lose", "(I)I"⟩
abbrev cX8_put : ByteArray := prog_1_method_24_code
def yX8_put : MethodName := ⟨RX8, "put", "(III)I"⟩
abbrev cX8_cell : ByteArray := prog_1_method_25_code
def yX8_cell : MethodName := ⟨RX8, "cell", "(III)J"⟩
abbrev cX8_copy : ByteArray := prog_1_method_26_code
def yX8_copy : MethodName := ⟨RX8, "copy", "(IIIII)I"⟩
abbrev cX8_tell : ByteArray := prog_1_method_27_code
def yX8_tell : MethodName := ⟨RX8, "tell", "(I)I"⟩
abbrev cX8_polish : ByteArray := prog_1_method_28_code
def yX8_polish : MethodName := ⟨RX8, "polish", "(I)I"⟩
abbrev cX8_as : ByteArray := prog_1_method_29_code
def yX8_as : MethodName := ⟨RX8, "as", "(II)I"⟩
abbrev cX8_trace : ByteArray := prog_1_method_30_code
def yX8_trace : MethodName := ⟨RX8, "trace", "()I"⟩
abbrev cX8_fault : ByteArray := prog_1_method_31_code
def yX8_fault : MethodName := ⟨RX8, "fault", "()I"⟩
abbrev cX8_many : ByteArray := prog_1_method_32_code
def yX8_many : MethodName := ⟨RX8, "many", "(I)I"⟩
abbrev cX8_isBelow : ByteArray := prog_1_method_33_code
def yX8_isBelow : MethodName := ⟨RX8, "isBelow", "(II)Z"⟩
abbrev cX8_codeOf : ByteArray := prog_1_method_34_code
def yX8_codeOf : MethodName := ⟨RX8, "codeOf", "(III)I"⟩
abbrev cX8_isOfKind : ByteArray := prog_1_method_35_code
def yX8_isOfKind : MethodName := ⟨RX8, "isOfKind", "(LPlatePeas$Fork;I)Z"⟩
abbrev cX8_failed : ByteArray := prog_1_method_36_code
def yX8_failed : MethodName := ⟨RX8, "failed", "(I)I"⟩
abbrev cX8_sheetAt : ByteArray := prog_1_method_37_code
def yX8_sheetAt : MethodName := ⟨RX8, "sheetAt", "(I)LPlatePeas$Sheet;"⟩
abbrev cX8_refusalOfPush : ByteArray := prog_1_method_38_code
def yX8_refusalOfPush : MethodName := ⟨RX8, "refusalOfPush", "(III)I"⟩
abbrev cX8_takeDraft : ByteArray := prog_1_method_39_code
def yX8_takeDraft : MethodName := ⟨RX8, "takeDraft", "()V"⟩
abbrev cX8_replayNow : ByteArray := prog_1_method_40_code
def yX8_replayNow : MethodName := ⟨RX8, "replayNow", "()V"⟩
abbrev cX8_replay : ByteArray := prog_1_method_41_code
def yX8_replay : MethodName := ⟨RX8, "replay", "(LPlatePeas$Spots;II)V"⟩
abbrev cX8_readingsAreSo : ByteArray := prog_1_method_42_code
def yX8_readingsAreSo : MethodName := ⟨RX8, "readingsAreSo", "(LPlatePeas$Spots;)Z"⟩
abbrev cX8_areCodes : ByteArray := prog_1_method_43_code
def yX8_areCodes : MethodName := ⟨RX8, "areCodes", "(LPlatePeas$Sheet;II)Z"⟩
abbrev cX8_hadByRow : ByteArray := prog_1_method_44_code
def yX8_hadByRow : MethodName := ⟨RX8, "hadByRow", "(LPlatePeas$Sheet;II)I"⟩
abbrev cX8_peaOf : ByteArray := prog_1_method_45_code
def yX8_peaOf : MethodName := ⟨RX8, "peaOf", "(I)I"⟩
abbrev cX8_findsRow : ByteArray := prog_1_method_46_code
def yX8_findsRow : MethodName := ⟨RX8, "findsRow", "(LPlatePeas$Search;III)Z"⟩
abbrev cX8_mostHad : ByteArray := prog_1_method_47_code
def yX8_mostHad : MethodName := ⟨RX8, "mostHad", "(LPlatePeas$Search;II)I"⟩
def RX9 : String := "PlatePeasModel"
def TX9 : u_T := fun k => match k with
  | 0 => ("PlatePeasModel", "wide", "I", false)
  | 1 => ("PlatePeasModel", "squares", "I", false)
  | 2 => ("PlatePeasModel", "signs", "[I", true)
  | 3 => ("PlatePeasModel", "peas", "I", false)
  | 4 => ("PlatePeasModel", "start", "[I", true)
  | 5 => ("PlatePeasModel", "eaters", "I", false)
  | 6 => ("PlatePeasModel", "kind", "[I", true)
  | 7 => ("PlatePeasModel", "strength", "[I", true)
  | 8 => ("PlatePeasModel", "law", "I", false)
  | 9 => ("PlatePeasModel", "pushes", "I", false)
  | 10 => ("PlatePeasModel", "pushCode", "[I", true)
  | 11 => ("PlatePeasModel", "readings", "I", false)
  | 12 => ("PlatePeasModel", "seenPea", "[I", true)
  | 13 => ("PlatePeasModel", "seenAt", "[I", true)
  | 14 => ("PlatePeasModel", "trace", "I", false)
  | 15 => ("PlatePeasModel", "fault", "I", false)
  | 16 => ("PlatePeasModel", "lane", "[I", true)
  | 17 => ("PlatePeasModel", "size", "[I", true)
  | 18 => ("PlatePeasModel", "cells", "[I", true)
  | 19 => ("PlatePeasModel", "copied", "[I", true)
  | 20 => ("PlatePeasModel", "textAt", "I", false)
  | 21 => ("PlatePeasModel", "textEnd", "I", false)
  | 22 => ("PlatePeasModel", "readHigh", "I", false)
  | 23 => ("PlatePeasModel", "readWide", "I", false)
  | 24 => ("PlatePeasModel", "readPeas", "I", false)
  | 25 => ("PlatePeasModel", "readSigns", "[I", true)
  | 26 => ("PlatePeasModel", "readStart", "[I", true)
  | 27 => ("PlatePeasModel", "readEaters", "I", false)
  | 28 => ("PlatePeasModel", "readKind", "[I", true)
  | 29 => ("PlatePeasModel", "readStrength", "[I", true)
  | 30 => ("PlatePeasModel", "at", "[I", true)
  | 31 => ("PlatePeasModel", "was", "[I", true)
  | _ => ("PlatePeasModel", "row", "[I", true)
def tyX9 : Nat → FieldType := fun k => match k with
  | 0 => .int
  | 1 => .int
  | 2 => .array .int
  | 3 => .int
  | 4 => .array .int
  | 5 => .int
  | 6 => .array .int
  | 7 => .array .int
  | 8 => .int
  | 9 => .int
  | 10 => .array .int
  | 11 => .int
  | 12 => .array .int
  | 13 => .array .int
  | 14 => .int
  | 15 => .int
  | 16 => .array .int
  | 17 => .array .int
  | 18 => .array .int
  | 19 => .array .int
  | 20 => .int
  | 21 => .int
  | 22 => .int
  | 23 => .int
  | 24 => .int
  | 25 => .array .int
  | 26 => .array .int
  | 27 => .int
  | 28 => .array .int
  | 29 => .array .int
  | 30 => .array .int
  | 31 => .array .int
  | _ => .array .int
abbrev wsX90 : List Cond := u_ws RX9 TX9 33
theorem nmX9 : ∀ a, a < 33 → ∀ b, b < 33 → a ≠ b → (TX9 a).2.1 ≠ (TX9 b).2.1 := by decide +kernel
theorem tyX9_ok : ∀ k, k < 33 → parseFieldDescriptor (TX9 k).2.2.1 = some (tyX9 k) := by decide +kernel
abbrev cX9_init : ByteArray := prog_11_method_1_code
def yX9_init : MethodName := ⟨RX9, "<init>", "()V"⟩
abbrev cX9_in : ByteArray := prog_11_method_3_code
def yX9_in : MethodName := ⟨RX9, "in", "(JJJ)Z"⟩
abbrev cX9_fails : ByteArray := prog_11_method_4_code
def yX9_fails : MethodName := ⟨RX9, "fails", "(I)I"⟩
abbrev cX9_refused : ByteArray := prog_11_method_5_code
def yX9_refused : MethodName := ⟨RX9, "refused", "(I)I"⟩
abbrev cX9_isSquare : ByteArray := prog_11_method_6_code
def yX9_isSquare : MethodName := ⟨RX9, "isSquare", "(I)Z"⟩
abbrev cX9_isPea : ByteArray := prog_11_method_7_code
def yX9_isPea : MethodName := ⟨RX9, "isPea", "(I)Z"⟩
abbrev cX9_isEater : ByteArray := prog_11_method_8_code
def yX9_isEater : MethodName := ⟨RX9, "isEater", "(I)Z"⟩
abbrev cX9_isSheet : ByteArray := prog_11_method_9_code
def yX9_isSheet : MethodName := ⟨RX9, "isSheet", "(I)Z"⟩
abbrev cX9_isLane : ByteArray := prog_11_method_10_code
def yX9_isLane : MethodName := ⟨RX9, "isLane", "(I)Z"⟩
abbrev cX9_cut : ByteArray := prog_11_method_11_code
def yX9_cut : MethodName := ⟨RX9, "cut", "(II)I"⟩
abbrev cX9_sheet : ByteArray := prog_11_method_12_code
def yX9_sheet : MethodName := ⟨RX9, "sheet", "(III)I"⟩
abbrev cX9_lose : ByteArray := prog_11_method_13_code
def yX9_lose : MethodName := ⟨RX9, "lose", "(I)I"⟩
abbrev cX9_put : ByteArray := prog_11_method_14_code
def yX9_put : MethodName := ⟨RX9, "put", "(III)I"⟩
abbrev cX9_lost : ByteArray := prog_11_method_15_code
def yX9_lost : MethodName := ⟨RX9, "lost", "(I)J"⟩
abbrev cX9_cell : ByteArray := prog_11_method_16_code
def yX9_cell : MethodName := ⟨RX9, "cell", "(III)J"⟩
abbrev cX9_copy : ByteArray := prog_11_method_17_code
def yX9_copy : MethodName := ⟨RX9, "copy", "(IIIII)I"⟩
abbrev cX9_faultOf : ByteArray := prog_11_method_18_code
def yX9_faultOf : MethodName := ⟨RX9, "faultOf", "(IIII)I"⟩
abbrev cX9_take : ByteArray := prog_11_method_19_code
def yX9_take : MethodName := ⟨RX9, "take", "(II)I"⟩
abbrev cX9_takeSquare : ByteArray := prog_11_method_20_code
def yX9_takeSquare : MethodName := ⟨RX9, "takeSquare", "(I)Z"⟩
abbrev cX9_takeSquares : ByteArray := prog_11_method_21_code
def yX9_takeSquares : MethodName := ⟨RX9, "takeSquares", "()Z"⟩
abbrev cX9_takeEater : ByteArray := prog_11_method_22_code
def yX9_takeEater : MethodName := ⟨RX9, "takeEater", "()Z"⟩
abbrev cX9_takeText : ByteArray := prog_11_method_23_code
def yX9_takeText : MethodName := ⟨RX9, "takeText", "()Z"⟩
abbrev cX9_plate : ByteArray := prog_11_method_24_code
def yX9_plate : MethodName := ⟨RX9, "plate", "(IIII)I"⟩
abbrev cX9_sign : ByteArray := prog_11_method_25_code
def yX9_sign : MethodName := ⟨RX9, "sign", "(I)I"⟩
abbrev cX9_startsAt : ByteArray := prog_11_method_26_code
def yX9_startsAt : MethodName := ⟨RX9, "startsAt", "(I)Z"⟩
abbrev cX9_set : ByteArray := prog_11_method_27_code
def yX9_set : MethodName := ⟨RX9, "set", "(II)I"⟩
abbrev cX9_forceOf : ByteArray := prog_11_method_28_code
def yX9_forceOf : MethodName := ⟨RX9, "forceOf", "(I)I"⟩
abbrev cX9_ofEater : ByteArray := prog_11_method_29_code
def yX9_ofEater : MethodName := ⟨RX9, "ofEater", "(II)I"⟩
abbrev cX9_law : ByteArray := prog_11_method_30_code
def yX9_law : MethodName := ⟨RX9, "law", "(I)I"⟩
abbrev cX9_next : ByteArray := prog_11_method_31_code
def yX9_next : MethodName := ⟨RX9, "next", "(II)I"⟩
abbrev cX9_peaAt : ByteArray := prog_11_method_32_code
def yX9_peaAt : MethodName := ⟨RX9, "peaAt", "(I)I"⟩
abbrev cX9_isHeld : ByteArray := prog_11_method_33_code
def yX9_isHeld : MethodName := ⟨RX9, "isHeld", "(II)Z"⟩
abbrev cX9_roll : ByteArray := prog_11_method_34_code
def yX9_roll : MethodName := ⟨RX9, "roll", "(III)V"⟩
abbrev cX9_eaterOf : ByteArray := prog_11_method_35_code
def yX9_eaterOf : MethodName := ⟨RX9, "eaterOf", "(I)I"⟩
abbrev cX9_peaOf : ByteArray := prog_11_method_36_code
def yX9_peaOf : MethodName := ⟨RX9, "peaOf", "(I)I"⟩
abbrev cX9_doPush : ByteArray := prog_11_method_37_code
def yX9_doPush : MethodName := ⟨RX9, "doPush", "(I)V"⟩
abbrev cX9_goThrough : ByteArray := prog_11_method_38_code
def yX9_goThrough : MethodName := ⟨RX9, "goThrough", "(I)V"⟩
abbrev cX9_isCode : ByteArray := prog_11_method_39_code
def yX9_isCode : MethodName := ⟨RX9, "isCode", "(I)Z"⟩
abbrev cX9_push : ByteArray := prog_11_method_40_code
def yX9_push : MethodName := ⟨RX9, "push", "(III)I"⟩
abbrev cX9_undo : ByteArray := prog_11_method_41_code
def yX9_undo : MethodName := ⟨RX9, "undo", "(I)I"⟩
abbrev cX9_where : ByteArray := prog_11_method_42_code
def yX9_where : MethodName := ⟨RX9, "where", "(I)I"⟩
abbrev cX9_setOf : ByteArray := prog_11_method_43_code
def yX9_setOf : MethodName := ⟨RX9, "setOf", "(I)I"⟩
abbrev cX9_peas : ByteArray := prog_11_method_44_code
def yX9_peas : MethodName := ⟨RX9, "peas", "(I)I"⟩
abbrev cX9_save : ByteArray := prog_11_method_45_code
def yX9_save : MethodName := ⟨RX9, "save", "(I)V"⟩
abbrev cX9_load : ByteArray := prog_11_method_46_code
def yX9_load : MethodName := ⟨RX9, "load", "(I)V"⟩
abbrev cX9_would : ByteArray := prog_11_method_47_code
def yX9_would : MethodName := ⟨RX9, "would", "(IIII)I"⟩
abbrev cX9_isPush : ByteArray := prog_11_method_48_code
def yX9_isPush : MethodName := ⟨RX9, "isPush", "(I)Z"⟩
abbrev cX9_lastPush : ByteArray := prog_11_method_49_code
def yX9_lastPush : MethodName := ⟨RX9, "lastPush", "(II)I"⟩
abbrev cX9_findFewest : ByteArray := prog_11_method_50_code
def yX9_findFewest : MethodName := ⟨RX9, "findFewest", "(I)I"⟩
abbrev cX9_findThree : ByteArray := prog_11_method_51_code
def yX9_findThree : MethodName := ⟨RX9, "findThree", "(I)Z"⟩
abbrev cX9_fewest : ByteArray := prog_11_method_52_code
def yX9_fewest : MethodName := ⟨RX9, "fewest", "(II)I"⟩
abbrev cX9_hadNow : ByteArray := prog_11_method_53_code
def yX9_hadNow : MethodName := ⟨RX9, "hadNow", "()I"⟩
abbrev cX9_mostByOne : ByteArray := prog_11_method_54_code
def yX9_mostByOne : MethodName := ⟨RX9, "mostByOne", "(I)I"⟩
abbrev cX9_mostByTwo : ByteArray := prog_11_method_55_code
def yX9_mostByTwo : MethodName := ⟨RX9, "mostByTwo", "(I)I"⟩
abbrev cX9_mostByThree : ByteArray := prog_11_method_56_code
def yX9_mostByThree : MethodName := ⟨RX9, "mostByThree", "()I"⟩
abbrev cX9_most : ByteArray := prog_11_method_57_code
def yX9_most : MethodName := ⟨RX9, "most", "(I)I"⟩
abbrev cX9_wall : ByteArray := prog_11_method_58_code
def yX9_wall : MethodName := ⟨RX9, "wall", "(III)I"⟩
abbrev cX9_areCodes : ByteArray := prog_11_method_59_code
def yX9_areCodes : MethodName := ⟨RX9, "areCodes", "(II)Z"⟩
abbrev cX9_row : ByteArray := prog_11_method_60_code
def yX9_row : MethodName := ⟨RX9, "row", "(IIII)I"⟩
abbrev cX9_divisor : ByteArray := prog_11_method_61_code
def yX9_divisor : MethodName := ⟨RX9, "divisor", "(II)I"⟩
abbrev cX9_odds : ByteArray := prog_11_method_62_code
def yX9_odds : MethodName := ⟨RX9, "odds", "(III)J"⟩
abbrev cX9_reading : ByteArray := prog_11_method_63_code
def yX9_reading : MethodName := ⟨RX9, "reading", "(II)I"⟩
abbrev cX9_back : ByteArray := prog_11_method_64_code
def yX9_back : MethodName := ⟨RX9, "back", "(I)I"⟩
abbrev cX9_areSo : ByteArray := prog_11_method_65_code
def yX9_areSo : MethodName := ⟨RX9, "areSo", "()Z"⟩
abbrev cX9_last : ByteArray := prog_11_method_66_code
def yX9_last : MethodName := ⟨RX9, "last", "(I)I"⟩
abbrev cX9_laws : ByteArray := prog_11_method_67_code
def yX9_laws : MethodName := ⟨RX9, "laws", "()I"⟩
abbrev cX9_never : ByteArray := prog_11_method_68_code
def yX9_never : MethodName := ⟨RX9, "never", "()I"⟩
abbrev cX9_begin : ByteArray := prog_11_method_69_code
def yX9_begin : MethodName := ⟨RX9, "begin", "(I)V"⟩
abbrev cX9_forkTells : ByteArray := prog_11_method_70_code
def yX9_forkTells : MethodName := ⟨RX9, "forkTells", "(I)I"⟩
abbrev cX9_knifeTells : ByteArray := prog_11_method_71_code
def yX9_knifeTells : MethodName := ⟨RX9, "knifeTells", "(I)I"⟩
abbrev cX9_spoonTells : ByteArray := prog_11_method_72_code
def yX9_spoonTells : MethodName := ⟨RX9, "spoonTells", "(I)I"⟩
abbrev cX9_tell : ByteArray := prog_11_method_73_code
def yX9_tell : MethodName := ⟨RX9, "tell", "(I)I"⟩
abbrev cX9_polish : ByteArray := prog_11_method_74_code
def yX9_polish : MethodName := ⟨RX9, "polish", "(I)I"⟩
abbrev cX9_as : ByteArray := prog_11_method_75_code
def yX9_as : MethodName := ⟨RX9, "as", "(II)I"⟩
abbrev cX9_trace : ByteArray := prog_11_method_76_code
def yX9_trace : MethodName := ⟨RX9, "trace", "()I"⟩
abbrev cX9_fault : ByteArray := prog_11_method_77_code
def yX9_fault : MethodName := ⟨RX9, "fault", "()I"⟩
abbrev cX9_many : ByteArray := prog_11_method_78_code
def yX9_many : MethodName := ⟨RX9, "many", "(I)I"⟩
def RJ6 : String := "java/lang/Integer"
abbrev cJ6_bitCount_0f7a4 : ByteArray := prog_12_method_49_code
def yJ6_bitCount_0f7a4 : MethodName := ⟨RJ6, "bitCount", "(I)I"⟩
def RJ9 : String := "java/lang/Math"
abbrev cJ9_max_7cf53 : ByteArray := prog_13_method_65_code
def yJ9_max_7cf53 : MethodName := ⟨RJ9, "max", "(II)I"⟩
abbrev cJ9_min_7cf53 : ByteArray := prog_13_method_69_code
def yJ9_min_7cf53 : MethodName := ⟨RJ9, "min", "(II)I"⟩
def RJ10 : String := "java/lang/System"
def RJ7 : String := "java/util/Arrays"
abbrev cJ7_fill_53178 : ByteArray := prog_15_method_103_code
def yJ7_fill_53178 : MethodName := ⟨RJ7, "fill", "([II)V"⟩
def RL : String := "PlatePeasLaw"
abbrev cL_law : ByteArray := code
abbrev vwCl : List vw_C := [(RX0, TX0, 2), (RX1, TX1, 2), (RX2, TX2, 12), (RX3, TX3, 2), (RX4, TX4, 3), (RX5, TX5, 2), (RX6, TX6, 5), (RX7, TX7, 1), (RX8, TX8, 14), (RX9, TX9, 33)]
theorem inX0 : ∀ w ∈ wsX00, w ∈ lw_tbl := by decide +kernel
theorem inX1 : ∀ w ∈ wsX10, w ∈ lw_tbl := by decide +kernel
theorem inX2 : ∀ w ∈ wsX20, w ∈ lw_tbl := by decide +kernel
theorem inX3 : ∀ w ∈ wsX30, w ∈ lw_tbl := by decide +kernel
theorem inX4 : ∀ w ∈ wsX40, w ∈ lw_tbl := by decide +kernel
theorem inX5 : ∀ w ∈ wsX50, w ∈ lw_tbl := by decide +kernel
theorem inX6 : ∀ w ∈ wsX60, w ∈ lw_tbl := by decide +kernel
theorem inX7 : ∀ w ∈ wsX70, w ∈ lw_tbl := by decide +kernel
theorem inX8 : ∀ w ∈ wsX80, w ∈ lw_tbl := by decide +kernel
theorem inX9 : ∀ w ∈ wsX90, w ∈ lw_tbl := by decide +kernel
end
section
/-! THE MINI MACHINE: values and stores whose addresses are (kind, instance); what a heap has to do with a store; M: from here the machine comes to its return. -/
abbrev MA : Type := Nat × Nat
abbrev MV : Type := Int32 ⊕ (Int64 ⊕ Option MA)
abbrev Sto : Type := (Nat → Nat → Nat → Int32) × (Nat → Nat → Nat → Option MA) × (Nat → Nat)
abbrev vi (x : Int32) : MV := Sum.inl x
abbrev vl (x : Int64) : MV := Sum.inr (Sum.inl x)
abbrev vq (r : Option MA) : MV := Sum.inr (Sum.inr r)
def gI (σ : Sto) (k i j : Nat) : Int32 := σ.1 k i j
def gR (σ : Sto) (k i j : Nat) : Option MA := σ.2.1 k i j
def gN (σ : Sto) (k : Nat) : Nat := σ.2.2 k
def sI (σ : Sto) (k i j : Nat) (v : Int32) : Sto := (fun a b c => if a = k ∧ b = i ∧ c = j then v else σ.1 a b c, σ.2.1, σ.2.2)
def sR (σ : Sto) (k i j : Nat) (v : Option MA) : Sto := (σ.1, fun a b c => if a = k ∧ b = i ∧ c = j then v else σ.2.1 a b c, σ.2.2)
def sN (σ : Sto) (k : Nat) : Sto := (fun a b c => if a = k ∧ b = σ.2.2 k then 0 else σ.1 a b c, fun a b c => if a = k ∧ b = σ.2.2 k then none else σ.2.1 a b c, fun a => if a = k then σ.2.2 k + 1 else σ.2.2 a)
/-- how many slots a cell of a kind has: kinds 0 to 9 are objects of the class of that number in vwCl, 10 to 41 arrays, 42 to 45 static arrays, 46 the script -/
def mlen (L k : Nat) : Nat := if k = 46 then L else ([2,2,12,2,3,2,5,1,14,33,40,30,5,2,2,2,5,3,3,60,30,8,8,4,30,5,2,2,30,8,8,4,4,240,60,30,5,2,2,5,15,3,4,4,5,5] : List Nat).getD k 0
def mobjR : List (List Bool) := [[false,false],[false,false],[false,false,false,false,false,true,true,true,true,true,true,false],[true,true],[true,false,false],[false,false],[true,false,false,false,true],[false],[true,true,false,true,false,true,true,false,true,true,true,true,true,false],
  [false,false,true,false,true,false,true,true,false,false,true,false,true,true,false,false,true,true,true,true,false,false,false,false,false,true,true,false,true,true,true,true,true]]
def mref (k j : Nat) : Bool := match mobjR[k]? with
  | some l => l.getD j false
  | none => Nat.beq k 13 || Nat.beq k 17 || Nat.beq k 23
def melc (k : Nat) : String := if k = 13 then "PlatePeas$Fork" else if k = 17 then "PlatePeas$Spots" else "PlatePeas$Sheet"
def mety (k : Nat) : FieldType := if mref k 0 = true then .object (melc k) else .int
/-- references that never change once they are made: which cell they name -/
def mfinT : List (List (Option (Nat × Option Nat))) := [[], [], [none, none, none, none, none, some (10, none), some (11, none), some (12, none), some (13, none), some (14, none), some (15, none)], [some (17, none), some (18, none)], [some (19, none)], [], [none, none, none, none, some (16, none)], [],
  [none, none, none, some (20, none), none, some (21, none), some (22, none), none, some (6, some 0), some (6, some 1), some (3, none), some (23, none), some (7, none)],
  [none, none, some (24, none), none, some (25, none), none, some (26, none), some (27, none), none, none, some (28, none), none, some (29, none), some (30, none), none, none, some (31, none), some (32, none), some (33, none), some (34, none), none, none, none, none, none, some (35, none), some (36, none), none, some (37, none), some (38, none), some (39, none), some (40, none), some (41, none)]]
def mfin (k i j : Nat) : Option MA := match mfinT[k]? with
  | some l => match l[j]? with
    | some (some (a, some b)) => some (a, b)
    | some (some (a, none)) => some (a, i)
    | _ => none
  | none => if k = 17 then some (6, j + 2) else if k = 23 then some (4, j) else none
/-- a reference as it is read: in the phase 'true' (all is made) those that never change are known -/
def mrf (ph : Bool) (σ : Sto) (k i j : Nat) : Option MA := match ph with
  | false => gR σ k i j
  | true => match mfin k i j with
    | some a => some a
    | none => gR σ k i j
def sv (ph : Bool) (σ : Sto) (k i j : Nat) : MV := match mref k j with
  | true => vq (mrf ph σ k i j)
  | false => vi (gI σ k i j)
def mv (ad : MA → Option Nat) (v : MV) : Option Value := match v with
  | .inl x => some (.int x)
  | .inr (.inl x) => some (.long x)
  | .inr (.inr none) => some .null
  | .inr (.inr (some a)) => (ad a).map Value.ref
def mcat (v : MV) : Nat := match v with
  | .inr (.inl _) => 2
  | _ => 1
abbrev GG : Type := Nat × Nat × va_G
abbrev Mth : Type := MethodName × ByteArray × Nat × Option FieldType
def mhdr (Γ : GG) (s : State) (k : Nat) (cell : Cell) : Prop :=
  if k < 10 then cell.cls = Γ.2.2.1 k ∧ cell.vm = .none
  else s.isArrayOf cell (mety k) ∧ cell.vm ≠ .unknown ∧ cell.slots.size = mlen Γ.2.1 k ∧ (mref k 0 = true → ∃ (kA : Class) (comp : ClassId), s.vm.classes[cell.cls]? = some kA ∧ kA.kind = .array comp (mety k) ∧ s.vm.findClass (melc k) = some comp)
def mpl (Γ : GG) (k j : Nat) : Nat := if k < 10 then Γ.2.2.2 k j else j
def mcell (ph : Bool) (Γ : GG) (s : State) (ad : MA → Option Nat) (σ : Sto) (H : Heap) (k i q : Nat) : Prop :=
  ∃ cell : Cell, H[q]? = some cell ∧ mhdr Γ s k cell ∧ ∀ j, j < mlen Γ.2.1 k → ∃ v, mv ad (sv ph σ k i j) = some v ∧ cell.slots[mpl Γ k j]? = some v
def Rep (ph : Bool) (Γ : GG) (s : State) (ad : MA → Option Nat) (σ : Sto) (H : Heap) : Prop :=
  (∀ a b q, ad a = some q → ad b = some q → a = b) ∧ (∀ k i q, ad (k, i) = some q → mcell ph Γ s ad σ H k i q ∧ (k < 42 → Γ.1 ≤ q ∧ i < gN σ k)) ∧ Γ.1 ≤ H.size
def nestW (w : Cond) : Bool := match w with
  | .methodLinkNest .. => true
  | .fieldLinkNest .. => true
  | _ => false
/-- what the tables say, at any state of the run -/
def mG (Γ : GG) (s : State) : Prop :=
  (∀ w ∈ lw_tbl, goodWord w = true → ∀ a : Array Value, w.before a s = true) ∧ (∀ w ∈ lw_tbl, nestW w = true → va_Nw w s) ∧ (∀ (c : Nat) (q : vw_C), vwCl[c]? = some q → u_Kn s q.1 q.2.1 q.2.2 (Γ.2.2.1 c) (Γ.2.2.2 c)) ∧
  (va_AO "PlatePeas$Sheet" s ∧ va_AO "PlatePeas$Fork" s ∧ va_AO "PlatePeas$Spots" s) ∧ (va_Nw (.castable "PlatePeas$Knife" "PlatePeas$Fork") s ∧ va_Nw (.castable "PlatePeas$Spoon" "PlatePeas$Fork") s ∧ va_Nw (.castable "PlatePeas$Spoon" "PlatePeas$Knife") s) ∧
  (va_Nc "PlatePeas$Fork" "PlatePeas$Knife" s ∧ va_Nc "PlatePeas$Fork" "PlatePeas$Spoon" s ∧ va_Nc "PlatePeas$Knife" "PlatePeas$Spoon" s)
def mstats : List (Nat × String) := [(42, "DOWN"), (43, "ACROSS"), (44, "UPPER"), (45, "LOWER")]
def mst (Γ : GG) (s : State) (ad : MA → Option Nat) (H : Heap) : Prop := ∀ x ∈ mstats, ∃ q, ad (x.1, 0) = some q ∧ va_Z "PlatePeas" x.2 "[I" (.ref q) (fun a => Γ.1 ≤ a) s H
def mctx (y : Mth) (p : Program) (s : State) (m : MethodId) (meth : Method) (c : Code) : Prop :=
  p.tables.exec = Jvm.exec ∧ c.code = y.2.1 ∧ meth.sig.returnType = y.2.2.2 ∧ c.maxLocals = y.2.2.1 ∧ s.vm.findClass y.1.cls = some m.cls ∧ meth.locks = false ∧ meth.name = y.1.name
def mloc (ad : MA → Option Nat) (ls : Array Slot) (n : Nat) (L : List (Option MV)) : Prop := (ls.size = n ∧ L.length = n) ∧ lv_wf ls ∧ ∀ (k : Nat) (v : MV), L[k]? = some (some v) → ∃ rv, mv ad v = some rv ∧ ls[k]? = some (.val rv)
def mQ (ph : Bool) (Γ : GG) (Q : Option MV → Sto → Prop) (ad0 : MA → Option Nat) : Array Value → State → Outcome → State → Prop := fun _ st oc t =>
  ∃ (v : Option MV) (rv : Option Value) (σ : Sto) (ad : MA → Option Nat), oc = .returned rv ∧ v.map (mv ad) = rv.map some ∧ Q v σ ∧ (∀ a q, ad0 a = some q → ad a = some q) ∧ Rep ph Γ t ad σ t.heap ∧ st.heap.size ≤ t.heap.size ∧ ∀ q, q < Γ.1 → t.heap[q]? = st.heap[q]?
abbrev mRm (d mc ms : Nat) : Room := { frames := d, cells := mc, slots := ms, locals := 64 * d }
abbrev mcode (y : Mth) : Cond := .code y.1 y.2.1 y.2.2.1 y.2.2.2
abbrev mA (Γ : GG) : Nat → Prop := fun q => Γ.1 ≤ q
/-- from this frame and store the machine comes to the method's return, with Q -/
def M (ph : Bool) (Γ : GG) (y : Mth) (d mc ms kc ks : Nat) (Q : Option MV → Sto → Prop) (pc : Nat) (L : List (Option MV)) (S : List MV) (σ : Sto) : Prop :=
  ∀ (p : Program) (l : Launch) (e : Env) (s : State) (m : MethodId) (args : Array Value) (below : List Frame) (meth : Method) (c : Code) (H : Heap) (locs : List Loc) (ad0 ad : MA → Option Nat) (ls : Array Slot) (st : List Value),
    mctx y p s m meth c → mG Γ s → mst Γ s ad0 s.heap → (∀ a q, ad0 a = some q → ad a = some q) → Rep ph Γ s ad σ H → va_S (mA Γ) s.heap H locs → Γ.1 ≤ s.heap.size → mloc ad ls y.2.2.1 L → S.map (mv ad) = st.map some →
    W p l e (mRm d mc ms) s m args below meth c H locs kc ks (MQ below (mQ ph Γ Q ad0) args s mc ms (mA Γ)) (F0 m pc ls st)
def mP (ph : Bool) (Γ : GG) (ad : MA → Option Nat) (σ : Sto) (ras : List Value) : Array Value → State → Prop := fun a U => a = ras.toArray ∧ mG Γ U ∧ mst Γ U ad U.heap ∧ Rep ph Γ U ad σ U.heap
/-- a method's contract: from this store and these arguments -/
def Ct (ph : Bool) (Γ : GG) (y : Mth) (d mc ms : Nat) (as : List MV) (σ : Sto) (Q : Option MV → Sto → Prop) : Prop :=
  ∀ (l : Launch) (ad : MA → Option Nat) (ras : List Value), as.map (mv ad) = ras.map some → Met l y.1 [mcode y] (mRm d mc ms) (mP ph Γ ad σ ras) (mQ ph Γ Q ad) mc ms (mA Γ)
/-! what doesn't change when the tables warm -/
theorem mG.warm {Γ : GG} {s U : State} (hW : s.WarmedH U.vm) (h : mG Γ s) : mG Γ U := by
  obtain ⟨h1, h2, h3, ⟨a1, a2, a3⟩, ⟨b1, b2, b3⟩, ⟨c1, c2, c3⟩⟩ := h
  have hal := hW.alike
  refine ⟨fun w hw hg a => word_at hW (good_of_word hg) (h1 w hw hg #[]), fun w hw hn => ?_, fun c q hq => u_Kn_moved hal (h3 c q hq), ⟨a1.moved hal, a2.moved hal, a3.moved hal⟩, ?_, ⟨c1.moved hal, c2.moved hal, c3.moved hal⟩⟩
  · have h := h2 w hw hn
    cases w <;> first | (simp [nestW] at hn; done) | exact va_Nw.warmM hW h | exact va_Nw.warmF hW h
  · exact ⟨b1.warmC hW, b2.warmC hW, b3.warmC hW⟩
theorem mst.warm {Γ : GG} {s U : State} {ad : MA → Option Nat} {H : Heap} (hal : s.vm.Alike U.vm) (h : mst Γ s ad H) : mst Γ U ad H := fun x hx => by
  obtain ⟨q, h1, h2⟩ := h x hx
  exact ⟨q, h1, h2.moved hal⟩
theorem mst.kept {Γ : GG} {s : State} {ad : MA → Option Nat} {H H1 : Heap} (h : mst Γ s ad H) (hk : ∀ q, q < Γ.1 → H1[q]? = H[q]?) : mst Γ s ad H1 := fun x hx => by
  obtain ⟨q, h1, h2⟩ := h x hx
  exact ⟨q, h1, h2.kept (fun a _ ha => hk a (Nat.not_le.mp ha))⟩
theorem mst.ext {Γ : GG} {s : State} {ad ad' : MA → Option Nat} {H : Heap} (h : mst Γ s ad H) (he : ∀ a q, ad a = some q → ad' a = some q) : mst Γ s ad' H := fun x hx => by
  obtain ⟨q, h1, h2⟩ := h x hx
  exact ⟨q, he _ _ h1, h2⟩
theorem mhdr.warm {Γ : GG} {s U : State} {k : Nat} {cell : Cell} (hal : s.vm.Alike U.vm) (h : mhdr Γ s k cell) : mhdr Γ U k cell := by
  unfold mhdr at h ⊢
  split
  · rw [if_pos (by assumption)] at h; exact h
  · rw [if_neg (by assumption)] at h
    obtain ⟨h1, h2, h3, h4⟩ := h
    refine ⟨State.isArrayOf_alike hal h1, h2, h3, fun hr => ?_⟩
    obtain ⟨kA, comp, g1, g2, g3⟩ := h4 hr
    obtain ⟨k', hk', he⟩ := hal.2.2 _ _ g1
    exact ⟨k', comp, hk', by rw [he]; exact g2, by rw [hal.findClass]; exact g3⟩
theorem Rep.warm {ph : Bool} {Γ : GG} {s U : State} {ad : MA → Option Nat} {σ : Sto} {H : Heap} (hal : s.vm.Alike U.vm) (h : Rep ph Γ s ad σ H) : Rep ph Γ U ad σ H := by
  refine ⟨h.1, fun k i q hq => ?_, h.2.2⟩
  obtain ⟨⟨cell, h1, h2, h3⟩, h4⟩ := h.2.1 k i q hq
  exact ⟨⟨cell, h1, h2.warm hal, h3⟩, h4⟩
theorem mv_ext {ad ad' : MA → Option Nat} (he : ∀ a q, ad a = some q → ad' a = some q) {v : MV} {rv : Value} (h : mv ad v = some rv) : mv ad' v = some rv := by
  rcases v with x | x | (_ | a)
  · exact h
  · exact h
  · exact h
  · simp only [mv, Option.map_eq_some_iff] at h ⊢
    obtain ⟨q, h1, h2⟩ := h
    exact ⟨q, he _ _ h1, h2⟩
theorem mv_exts {ad ad' : MA → Option Nat} (he : ∀ a q, ad a = some q → ad' a = some q) : ∀ {S : List MV} {st : List Value}, S.map (mv ad) = st.map some → S.map (mv ad') = st.map some
  | [], [], _ => rfl
  | [], _ :: _, h => by simp at h
  | _ :: _, [], h => by simp at h
  | v :: S, r :: st, h => by
    simp only [List.map_cons, List.cons.injEq] at h ⊢
    exact ⟨mv_ext he h.1, mv_exts he h.2⟩
theorem mloc.ext {ad ad' : MA → Option Nat} (he : ∀ a q, ad a = some q → ad' a = some q) {ls : Array Slot} {n : Nat} {L : List (Option MV)} (h : mloc ad ls n L) : mloc ad' ls n L :=
  ⟨h.1, h.2.1, fun k v hk => by obtain ⟨rv, h1, h2⟩ := h.2.2 k v hk; exact ⟨rv, mv_ext he h1, h2⟩⟩
end
section
/-! THE STEPS, one instruction a row -/
theorem mk_top {ad : MA → Option Nat} {v : MV} {S : List MV} {st : List Value} (h : (v :: S).map (mv ad) = st.map some) : ∃ (r : Value) (st' : List Value), st = r :: st' ∧ mv ad v = some r ∧ S.map (mv ad) = st'.map some := by
  cases st with
  | nil => simp at h
  | cons r st' =>
    simp only [List.map_cons, List.cons.injEq] at h
    exact ⟨r, st', rfl, h.1, h.2⟩
theorem mk_i {ad : MA → Option Nat} {x : Int32} {S : List MV} {st : List Value} (h : (vi x :: S).map (mv ad) = st.map some) : ∃ st' : List Value, st = .int x :: st' ∧ S.map (mv ad) = st'.map some := by
  obtain ⟨r, st', rfl, h1, h2⟩ := mk_top h
  cases h1
  exact ⟨st', rfl, h2⟩
theorem mk_l {ad : MA → Option Nat} {x : Int64} {S : List MV} {st : List Value} (h : (vl x :: S).map (mv ad) = st.map some) : ∃ st' : List Value, st = .long x :: st' ∧ S.map (mv ad) = st'.map some := by
  obtain ⟨r, st', rfl, h1, h2⟩ := mk_top h
  cases h1
  exact ⟨st', rfl, h2⟩
theorem mk_q {ad : MA → Option Nat} {x : Option MA} {r : Value} (h : mv ad (vq x) = some r) : (x = none ∧ r = .null) ∨ ∃ a q, x = some a ∧ ad a = some q ∧ r = .ref q := by
  cases x with
  | none => cases h; exact Or.inl ⟨rfl, rfl⟩
  | some a =>
    simp only [mv, Option.map_eq_some_iff] at h
    obtain ⟨q, h1, h2⟩ := h
    exact Or.inr ⟨a, q, rfl, h1, h2.symm⟩
theorem mk_r {ad : MA → Option Nat} {a : MA} {S : List MV} {st : List Value} (h : (vq (some a) :: S).map (mv ad) = st.map some) : ∃ (q : Nat) (st' : List Value), st = .ref q :: st' ∧ ad a = some q ∧ S.map (mv ad) = st'.map some := by
  obtain ⟨r, st', rfl, h1, h2⟩ := mk_top h
  rcases mk_q h1 with ⟨e, -⟩ | ⟨a', q, e, h3, rfl⟩
  · cases e
  · cases e; exact ⟨q, st', rfl, h3, h2⟩
section Steps1
variable {ph : Bool} {Γ : GG} {y : Mth} {d mc ms kc ks : Nat} {Q : Option MV → Sto → Prop} {pc : Nat} {L : List (Option MV)} {S : List MV} {σ : Sto}
theorem M_iconst {n : Int} (hd : decode y.2.1 pc = .ok (.iconst n, 1)) (k : M ph Γ y d mc ms kc ks Q (pc + 1) L (vi (Int32.ofInt n) :: S) σ) : M ph Γ y d mc ms kc ks Q pc L S σ := by
  intro p l e s m args below meth c H locs ad0 ad ls st hc hG hst he hR hS hB hl hk
  exact lv_iconst hc.1 hc.2.1 hd rfl (k p l e s m args below meth c H locs ad0 ad ls _ hc hG hst he hR hS hB hl (by simp [mv, hk]))
theorem M_bipush {n : Int} (hd : decode y.2.1 pc = .ok (.bipush n, 2)) (k : M ph Γ y d mc ms kc ks Q (pc + 2) L (vi (Int8.ofInt n).toInt32 :: S) σ) : M ph Γ y d mc ms kc ks Q pc L S σ := by
  intro p l e s m args below meth c H locs ad0 ad ls st hc hG hst he hR hS hB hl hk
  exact lv_bipush hc.1 hc.2.1 hd rfl (k p l e s m args below meth c H locs ad0 ad ls _ hc hG hst he hR hS hB hl (by simp [mv, hk]))
theorem M_sipush {n : Int} (hd : decode y.2.1 pc = .ok (.sipush n, 3)) (k : M ph Γ y d mc ms kc ks Q (pc + 3) L (vi (Int16.ofInt n).toInt32 :: S) σ) : M ph Γ y d mc ms kc ks Q pc L S σ := by
  intro p l e s m args below meth c H locs ad0 ad ls st hc hG hst he hR hS hB hl hk
  exact lv_sipush hc.1 hc.2.1 hd rfl (k p l e s m args below meth c H locs ad0 ad ls _ hc hG hst he hR hS hB hl (by simp [mv, hk]))
theorem M_lconst {n : Fin 2} (hd : decode y.2.1 pc = .ok (.lconst n, 1)) (k : M ph Γ y d mc ms kc ks Q (pc + 1) L (vl (Int64.ofNat n) :: S) σ) : M ph Γ y d mc ms kc ks Q pc L S σ := by
  intro p l e s m args below meth c H locs ad0 ad ls st hc hG hst he hR hS hB hl hk
  exact lv_lconst hc.1 hc.2.1 hd rfl (k p l e s m args below meth c H locs ad0 ad ls _ hc hG hst he hR hS hB hl (by simp [mv, hk]))
theorem M_null (hd : decode y.2.1 pc = .ok (.aconst_null, 1)) (k : M ph Γ y d mc ms kc ks Q (pc + 1) L (vq none :: S) σ) : M ph Γ y d mc ms kc ks Q pc L S σ := by
  intro p l e s m args below meth c H locs ad0 ad ls st hc hG hst he hR hS hB hl hk
  exact lv_null hc.1 hc.2.1 hd (k p l e s m args below meth c H locs ad0 ad ls _ hc hG hst he hR hS hB hl (by simp [mv, hk]))
theorem M_iload_n {n : Fin 4} {x : Int32} (hd : decode y.2.1 pc = .ok (.iload_n n, 1)) (hL : L[(n : Nat)]? = some (some (vi x))) (k : M ph Γ y d mc ms kc ks Q (pc + 1) L (vi x :: S) σ) : M ph Γ y d mc ms kc ks Q pc L S σ := by
  intro p l e s m args below meth c H locs ad0 ad ls st hc hG hst he hR hS hB hl hk
  obtain ⟨rv, h1, h2⟩ := hl.2.2 _ _ hL
  cases h1
  exact lv_iload_n hc.1 hc.2.1 hd rfl h2 (k p l e s m args below meth c H locs ad0 ad ls _ hc hG hst he hR hS hB hl (by simp [mv, hk]))
theorem M_iload {n : Nat} {x : Int32} (hd : decode y.2.1 pc = .ok (.iload n, 2)) (hL : L[n]? = some (some (vi x))) (k : M ph Γ y d mc ms kc ks Q (pc + 2) L (vi x :: S) σ) : M ph Γ y d mc ms kc ks Q pc L S σ := by
  intro p l e s m args below meth c H locs ad0 ad ls st hc hG hst he hR hS hB hl hk
  obtain ⟨rv, h1, h2⟩ := hl.2.2 _ _ hL
  cases h1
  exact lv_iload hc.1 hc.2.1 hd h2 (k p l e s m args below meth c H locs ad0 ad ls _ hc hG hst he hR hS hB hl (by simp [mv, hk]))
theorem M_lload_n {n : Fin 4} {x : Int64} (hd : decode y.2.1 pc = .ok (.lload_n n, 1)) (hL : L[(n : Nat)]? = some (some (vl x))) (k : M ph Γ y d mc ms kc ks Q (pc + 1) L (vl x :: S) σ) : M ph Γ y d mc ms kc ks Q pc L S σ := by
  intro p l e s m args below meth c H locs ad0 ad ls st hc hG hst he hR hS hB hl hk
  obtain ⟨rv, h1, h2⟩ := hl.2.2 _ _ hL
  cases h1
  exact lv_lload_n hc.1 hc.2.1 hd rfl h2 (k p l e s m args below meth c H locs ad0 ad ls _ hc hG hst he hR hS hB hl (by simp [mv, hk]))
theorem M_lload {n : Nat} {x : Int64} (hd : decode y.2.1 pc = .ok (.lload n, 2)) (hL : L[n]? = some (some (vl x))) (k : M ph Γ y d mc ms kc ks Q (pc + 2) L (vl x :: S) σ) : M ph Γ y d mc ms kc ks Q pc L S σ := by
  intro p l e s m args below meth c H locs ad0 ad ls st hc hG hst he hR hS hB hl hk
  obtain ⟨rv, h1, h2⟩ := hl.2.2 _ _ hL
  cases h1
  exact lv_lload hc.1 hc.2.1 hd h2 (k p l e s m args below meth c H locs ad0 ad ls _ hc hG hst he hR hS hB hl (by simp [mv, hk]))
theorem M_aload_n {n : Fin 4} {x : Option MA} (hd : decode y.2.1 pc = .ok (.aload_n n, 1)) (hL : L[(n : Nat)]? = some (some (vq x))) (k : M ph Γ y d mc ms kc ks Q (pc + 1) L (vq x :: S) σ) : M ph Γ y d mc ms kc ks Q pc L S σ := by
  intro p l e s m args below meth c H locs ad0 ad ls st hc hG hst he hR hS hB hl hk
  obtain ⟨rv, h1, h2⟩ := hl.2.2 _ _ hL
  have hk' : (vq x :: S).map (mv ad) = (rv :: st).map some := by simp only [List.map_cons, h1, hk]
  rcases mk_q h1 with ⟨-, rfl⟩ | ⟨a, q, -, -, rfl⟩
  · exact lv_aload_nN hc.1 hc.2.1 hd rfl h2 (k p l e s m args below meth c H locs ad0 ad ls _ hc hG hst he hR hS hB hl hk')
  · exact lv_aload_n hc.1 hc.2.1 hd rfl h2 (k p l e s m args below meth c H locs ad0 ad ls _ hc hG hst he hR hS hB hl hk')
theorem M_aload {n : Nat} {x : Option MA} (hd : decode y.2.1 pc = .ok (.aload n, 2)) (hL : L[n]? = some (some (vq x))) (k : M ph Γ y d mc ms kc ks Q (pc + 2) L (vq x :: S) σ) : M ph Γ y d mc ms kc ks Q pc L S σ := by
  intro p l e s m args below meth c H locs ad0 ad ls st hc hG hst he hR hS hB hl hk
  obtain ⟨rv, h1, h2⟩ := hl.2.2 _ _ hL
  have hk' : (vq x :: S).map (mv ad) = (rv :: st).map some := by simp only [List.map_cons, h1, hk]
  rcases mk_q h1 with ⟨-, rfl⟩ | ⟨a, q, -, -, rfl⟩
  · exact lv_aloadN hc.1 hc.2.1 hd h2 (k p l e s m args below meth c H locs ad0 ad ls _ hc hG hst he hR hS hB hl hk')
  · exact lv_aload hc.1 hc.2.1 hd h2 (k p l e s m args below meth c H locs ad0 ad ls _ hc hG hst he hR hS hB hl hk')
/-- the locals as the kit's list -/
def lvs (ad : MA → Option Nat) (L : List (Option MV)) : List (Nat × Value) := L.zipIdx.filterMap (fun q => (q.1.bind (mv ad)).map (fun r => (q.2, r)))
theorem lvs_mem {ad : MA → Option Nat} {L : List (Option MV)} {k : Nat} {r : Value} : (k, r) ∈ lvs ad L ↔ ∃ v, L[k]? = some (some v) ∧ mv ad v = some r := by
  unfold lvs
  rw [List.mem_filterMap]
  constructor
  · rintro ⟨⟨o, j⟩, h1, h2⟩
    rw [List.mem_zipIdx_iff_getElem?] at h1
    simp only [Option.map_eq_some_iff, Option.bind_eq_some_iff, Prod.mk.injEq] at h2
    obtain ⟨r', ⟨v, h3, h4⟩, h5, h6⟩ := h2
    subst h3 h5 h6
    exact ⟨v, h1, h4⟩
  · rintro ⟨v, h1, h2⟩
    exact ⟨(some v, k), List.mem_zipIdx_iff_getElem?.mpr h1, by simp [h2]⟩
theorem mloc.has {ad : MA → Option Nat} {ls : Array Slot} {n : Nat} {L : List (Option MV)} (h : mloc ad ls n L) : lv_has ls n (lvs ad L) := by
  refine ⟨h.1.1, h.2.1, fun q hq => ?_⟩
  obtain ⟨v, h1, h2⟩ := lvs_mem.mp (show (q.1, q.2) ∈ _ from hq)
  obtain ⟨rv, h3, h4⟩ := h.2.2 _ _ h1
  cases h2.symm.trans h3
  exact h4
/-- a value of one slot may be stored at i: no long stands just ahead of it -/
def mfree (L : List (Option MV)) (i : Nat) : Bool := Nat.blt i L.length && (match i with
  | 0 => true
  | j + 1 => match L[j]? with
    | some (some (.inr (.inl _))) => false
    | _ => true)
theorem mv_cat1 {ad : MA → Option Nat} {v : MV} {r : Value} (h : mv ad v = some r) : r.category = mcat v := by
  rcases v with x | x | (_ | a)
  · cases h; rfl
  · cases h; rfl
  · cases h; rfl
  · simp only [mv, Option.map_eq_some_iff] at h
    obtain ⟨q, h1, rfl⟩ := h
    rfl
theorem mloc.set {ad : MA → Option Nat} {ls' : Array Slot} {n i : Nat} {L : List (Option MV)} {v : MV} {r : Value} (hv : mv ad v = some r) (hi : mfree L i = true) (hn : L.length = n)
    (h : lv_has ls' n ((i, r) :: (lvs ad L).filter (fun q => !(q.1 == i) && !(q.1 + 1 == i && q.2.category == 2)))) (hm : ∀ (k : Nat) (w : MV), L[k]? = some (some w) → ∃ rw, mv ad w = some rw) : mloc ad ls' n (L.set i (some v)) := by
  have hi1 : i < L.length := by
    have := (Bool.and_eq_true _ _ ▸ hi).1
    exact Nat.blt_eq.mp this
  refine ⟨⟨h.1, by rw [List.length_set]; exact hn⟩, h.2.1, fun k w hk => ?_⟩
  by_cases hki : k = i
  · subst hki
    rw [List.getElem?_set_self hi1] at hk
    cases hk
    exact ⟨r, hv, h.2.2 (k, r) List.mem_cons_self⟩
  · rw [List.getElem?_set_ne (Ne.symm hki)] at hk
    obtain ⟨rw, hrw⟩ := hm k w hk
    refine ⟨rw, hrw, h.2.2 (k, rw) (List.mem_cons_of_mem _ (List.mem_filter.mpr ⟨lvs_mem.mpr ⟨w, hk, hrw⟩, ?_⟩))⟩
    simp only [Bool.and_eq_true, Bool.not_eq_true', beq_eq_false_iff_ne, ne_eq, Bool.and_eq_false_iff]
    refine ⟨hki, ?_⟩
    by_cases hj : k + 1 = i
    · right
      subst hj
      have h2 := (Bool.and_eq_true _ _ ▸ hi).2
      rw [mv_cat1 hrw]
      rcases w with x | x | x
      · simp [mcat]
      · simp [hk] at h2
      · simp [mcat]
    · exact Or.inl hj
theorem mloc.val {ad : MA → Option Nat} {ls : Array Slot} {n : Nat} {L : List (Option MV)} (h : mloc ad ls n L) : ∀ (k : Nat) (w : MV), L[k]? = some (some w) → ∃ rw, mv ad w = some rw := fun k w hk => by
  obtain ⟨rv, h1, -⟩ := h.2.2 k w hk
  exact ⟨rv, h1⟩
theorem mfree.lt {L : List (Option MV)} {i n : Nat} (hi : mfree L i = true) (hn : L.length = n) : i < n := by
  have := (Bool.and_eq_true _ _ ▸ hi).1
  rw [← hn]; exact Nat.blt_eq.mp this
theorem M_istore_n {n : Fin 4} {x : Int32} (hd : decode y.2.1 pc = .ok (.istore_n n, 1)) (hL : mfree L n = true) (k : M ph Γ y d mc ms kc ks Q (pc + 1) (L.set n (some (vi x))) S σ) : M ph Γ y d mc ms kc ks Q pc L (vi x :: S) σ := by
  intro p l e s m args below meth c H locs ad0 ad ls st hc hG hst he hR hS hB hl hk
  obtain ⟨st', rfl, hk'⟩ := mk_i hk
  exact lv_istore_n hc.1 hc.2.1 hd rfl hl.has (mfree.lt hL hl.1.2) rfl (fun ls' h' => k p l e s m args below meth c H locs ad0 ad ls' _ hc hG hst he hR hS hB (mloc.set rfl hL hl.1.2 h' hl.val) hk')
theorem M_istore {n : Nat} {x : Int32} (hd : decode y.2.1 pc = .ok (.istore n, 2)) (hL : mfree L n = true) (k : M ph Γ y d mc ms kc ks Q (pc + 2) (L.set n (some (vi x))) S σ) : M ph Γ y d mc ms kc ks Q pc L (vi x :: S) σ := by
  intro p l e s m args below meth c H locs ad0 ad ls st hc hG hst he hR hS hB hl hk
  obtain ⟨st', rfl, hk'⟩ := mk_i hk
  exact lv_istore hc.1 hc.2.1 hd hl.has (mfree.lt hL hl.1.2) rfl (fun ls' h' => k p l e s m args below meth c H locs ad0 ad ls' _ hc hG hst he hR hS hB (mloc.set rfl hL hl.1.2 h' hl.val) hk')
theorem M_astore_n {n : Fin 4} {x : Option MA} (hd : decode y.2.1 pc = .ok (.astore_n n, 1)) (hL : mfree L n = true) (k : M ph Γ y d mc ms kc ks Q (pc + 1) (L.set n (some (vq x))) S σ) : M ph Γ y d mc ms kc ks Q pc L (vq x :: S) σ := by
  intro p l e s m args below meth c H locs ad0 ad ls st hc hG hst he hR hS hB hl hk
  obtain ⟨r, st', rfl, h1, hk'⟩ := mk_top hk
  rcases mk_q h1 with ⟨-, rfl⟩ | ⟨a, q, -, -, rfl⟩
  · exact lv_astore_nN hc.1 hc.2.1 hd rfl hl.has (mfree.lt hL hl.1.2) rfl (fun ls' h' => k p l e s m args below meth c H locs ad0 ad ls' _ hc hG hst he hR hS hB (mloc.set h1 hL hl.1.2 h' hl.val) hk')
  · exact lv_astore_n hc.1 hc.2.1 hd rfl hl.has (mfree.lt hL hl.1.2) rfl (fun ls' h' => k p l e s m args below meth c H locs ad0 ad ls' _ hc hG hst he hR hS hB (mloc.set h1 hL hl.1.2 h' hl.val) hk')
theorem M_astore {n : Nat} {x : Option MA} (hd : decode y.2.1 pc = .ok (.astore n, 2)) (hL : mfree L n = true) (k : M ph Γ y d mc ms kc ks Q (pc + 2) (L.set n (some (vq x))) S σ) : M ph Γ y d mc ms kc ks Q pc L (vq x :: S) σ := by
  intro p l e s m args below meth c H locs ad0 ad ls st hc hG hst he hR hS hB hl hk
  obtain ⟨r, st', rfl, h1, hk'⟩ := mk_top hk
  rcases mk_q h1 with ⟨-, rfl⟩ | ⟨a, q, -, -, rfl⟩
  · exact lv_astoreN hc.1 hc.2.1 hd hl.has (mfree.lt hL hl.1.2) rfl (fun ls' h' => k p l e s m args below meth c H locs ad0 ad ls' _ hc hG hst he hR hS hB (mloc.set h1 hL hl.1.2 h' hl.val) hk')
  · exact lv_astore hc.1 hc.2.1 hd hl.has (mfree.lt hL hl.1.2) rfl (fun ls' h' => k p l e s m args below meth c H locs ad0 ad ls' _ hc hG hst he hR hS hB (mloc.set h1 hL hl.1.2 h' hl.val) hk')
theorem M_iinc {n : Nat} {z : Int} {x : Int32} (hd : decode y.2.1 pc = .ok (.iinc n z, 3)) (hL : mfree L n = true) (hx : L[n]? = some (some (vi x))) (k : M ph Γ y d mc ms kc ks Q (pc + 3) (L.set n (some (vi (x + Int32.ofInt z)))) S σ) : M ph Γ y d mc ms kc ks Q pc L S σ := by
  intro p l e s m args below meth c H locs ad0 ad ls st hc hG hst he hR hS hB hl hk
  obtain ⟨j, hj⟩ := List.getElem?_of_mem (lvs_mem.mpr ⟨vi x, hx, (rfl : mv ad (vi x) = some (.int x))⟩)
  exact lv_iinc hc.1 hc.2.1 hd hl.has hj rfl (mfree.lt hL hl.1.2) rfl (fun ls' h' => k p l e s m args below meth c H locs ad0 ad ls' _ hc hG hst he hR hS hB (mloc.set rfl hL hl.1.2 h' hl.val) hk)
end Steps1
end
section
/-! THE STEPS: arithmetic, stack, branches -/
section Steps2
variable {ph : Bool} {Γ : GG} {y : Mth} {d mc ms kc ks : Nat} {Q : Option MV → Sto → Prop} {pc : Nat} {L : List (Option MV)} {S : List MV} {σ : Sto}
theorem M_iadd {a b : Int32} (hd : decode y.2.1 pc = .ok (.iadd, 1)) (k : M ph Γ y d mc ms kc ks Q (pc + 1) L (vi (a + b) :: S) σ) : M ph Γ y d mc ms kc ks Q pc L (vi b :: vi a :: S) σ := by
  intro p l e s m args below meth c H locs ad0 ad ls st hc hG hst he hR hS hB hl hk
  obtain ⟨st1, rfl, hk1⟩ := mk_i hk
  obtain ⟨st2, rfl, hk2⟩ := mk_i hk1
  exact lv_iadd hc.1 hc.2.1 hd (k p l e s m args below meth c H locs ad0 ad ls _ hc hG hst he hR hS hB hl (by simp [mv, hk2]))
theorem M_isub {a b : Int32} (hd : decode y.2.1 pc = .ok (.isub, 1)) (k : M ph Γ y d mc ms kc ks Q (pc + 1) L (vi (a - b) :: S) σ) : M ph Γ y d mc ms kc ks Q pc L (vi b :: vi a :: S) σ := by
  intro p l e s m args below meth c H locs ad0 ad ls st hc hG hst he hR hS hB hl hk
  obtain ⟨st1, rfl, hk1⟩ := mk_i hk
  obtain ⟨st2, rfl, hk2⟩ := mk_i hk1
  exact lv_isub hc.1 hc.2.1 hd (k p l e s m args below meth c H locs ad0 ad ls _ hc hG hst he hR hS hB hl (by simp [mv, hk2]))
theorem M_imul {a b : Int32} (hd : decode y.2.1 pc = .ok (.imul, 1)) (k : M ph Γ y d mc ms kc ks Q (pc + 1) L (vi (a * b) :: S) σ) : M ph Γ y d mc ms kc ks Q pc L (vi b :: vi a :: S) σ := by
  intro p l e s m args below meth c H locs ad0 ad ls st hc hG hst he hR hS hB hl hk
  obtain ⟨st1, rfl, hk1⟩ := mk_i hk
  obtain ⟨st2, rfl, hk2⟩ := mk_i hk1
  exact lv_imul hc.1 hc.2.1 hd (k p l e s m args below meth c H locs ad0 ad ls _ hc hG hst he hR hS hB hl (by simp [mv, hk2]))
theorem M_iand {a b : Int32} (hd : decode y.2.1 pc = .ok (.iand, 1)) (k : M ph Γ y d mc ms kc ks Q (pc + 1) L (vi (a &&& b) :: S) σ) : M ph Γ y d mc ms kc ks Q pc L (vi b :: vi a :: S) σ := by
  intro p l e s m args below meth c H locs ad0 ad ls st hc hG hst he hR hS hB hl hk
  obtain ⟨st1, rfl, hk1⟩ := mk_i hk
  obtain ⟨st2, rfl, hk2⟩ := mk_i hk1
  exact lv_iand hc.1 hc.2.1 hd (k p l e s m args below meth c H locs ad0 ad ls _ hc hG hst he hR hS hB hl (by simp [mv, hk2]))
theorem M_ior {a b : Int32} (hd : decode y.2.1 pc = .ok (.ior, 1)) (k : M ph Γ y d mc ms kc ks Q (pc + 1) L (vi (a ||| b) :: S) σ) : M ph Γ y d mc ms kc ks Q pc L (vi b :: vi a :: S) σ := by
  intro p l e s m args below meth c H locs ad0 ad ls st hc hG hst he hR hS hB hl hk
  obtain ⟨st1, rfl, hk1⟩ := mk_i hk
  obtain ⟨st2, rfl, hk2⟩ := mk_i hk1
  exact lv_ior hc.1 hc.2.1 hd (k p l e s m args below meth c H locs ad0 ad ls _ hc hG hst he hR hS hB hl (by simp [mv, hk2]))
theorem M_ishl {a b : Int32} (hd : decode y.2.1 pc = .ok (.ishl, 1)) (k : M ph Γ y d mc ms kc ks Q (pc + 1) L (vi (a <<< (b &&& 31)) :: S) σ) : M ph Γ y d mc ms kc ks Q pc L (vi b :: vi a :: S) σ := by
  intro p l e s m args below meth c H locs ad0 ad ls st hc hG hst he hR hS hB hl hk
  obtain ⟨st1, rfl, hk1⟩ := mk_i hk
  obtain ⟨st2, rfl, hk2⟩ := mk_i hk1
  exact lv_ishl hc.1 hc.2.1 hd (k p l e s m args below meth c H locs ad0 ad ls _ hc hG hst he hR hS hB hl (by simp [mv, hk2]))
theorem M_ishr {a b : Int32} (hd : decode y.2.1 pc = .ok (.ishr, 1)) (k : M ph Γ y d mc ms kc ks Q (pc + 1) L (vi (a >>> (b &&& 31)) :: S) σ) : M ph Γ y d mc ms kc ks Q pc L (vi b :: vi a :: S) σ := by
  intro p l e s m args below meth c H locs ad0 ad ls st hc hG hst he hR hS hB hl hk
  obtain ⟨st1, rfl, hk1⟩ := mk_i hk
  obtain ⟨st2, rfl, hk2⟩ := mk_i hk1
  exact lv_ishr hc.1 hc.2.1 hd (k p l e s m args below meth c H locs ad0 ad ls _ hc hG hst he hR hS hB hl (by simp [mv, hk2]))
theorem M_iushr {a b : Int32} (hd : decode y.2.1 pc = .ok (.iushr, 1)) (k : M ph Γ y d mc ms kc ks Q (pc + 1) L (vi (a.toUInt32 >>> (b.toUInt32 &&& Int32.toUInt32 31)).toInt32 :: S) σ) : M ph Γ y d mc ms kc ks Q pc L (vi b :: vi a :: S) σ := by
  intro p l e s m args below meth c H locs ad0 ad ls st hc hG hst he hR hS hB hl hk
  obtain ⟨st1, rfl, hk1⟩ := mk_i hk
  obtain ⟨st2, rfl, hk2⟩ := mk_i hk1
  exact lv_iushr hc.1 hc.2.1 hd rfl (k p l e s m args below meth c H locs ad0 ad ls _ hc hG hst he hR hS hB hl (by simp [mv, hk2]))
theorem M_idiv {a b : Int32} (hd : decode y.2.1 pc = .ok (.idiv, 1)) (hb0 : ¬ b = 0) (k : M ph Γ y d mc ms kc ks Q (pc + 1) L (vi (a / b) :: S) σ) : M ph Γ y d mc ms kc ks Q pc L (vi b :: vi a :: S) σ := by
  intro p l e s m args below meth c H locs ad0 ad ls st hc hG hst he hR hS hB hl hk
  obtain ⟨st1, rfl, hk1⟩ := mk_i hk
  obtain ⟨st2, rfl, hk2⟩ := mk_i hk1
  exact lv_idiv hc.1 hc.2.1 hd hb0 (k p l e s m args below meth c H locs ad0 ad ls _ hc hG hst he hR hS hB hl (by simp [mv, hk2]))
theorem M_irem {a b : Int32} (hd : decode y.2.1 pc = .ok (.irem, 1)) (hb0 : ¬ b = 0) (k : M ph Γ y d mc ms kc ks Q (pc + 1) L (vi (a - a / b * b) :: S) σ) : M ph Γ y d mc ms kc ks Q pc L (vi b :: vi a :: S) σ := by
  intro p l e s m args below meth c H locs ad0 ad ls st hc hG hst he hR hS hB hl hk
  obtain ⟨st1, rfl, hk1⟩ := mk_i hk
  obtain ⟨st2, rfl, hk2⟩ := mk_i hk1
  exact lv_irem hc.1 hc.2.1 hd hb0 (k p l e s m args below meth c H locs ad0 ad ls _ hc hG hst he hR hS hB hl (by simp [mv, hk2]))
theorem M_ineg {a : Int32} (hd : decode y.2.1 pc = .ok (.ineg, 1)) (k : M ph Γ y d mc ms kc ks Q (pc + 1) L (vi (-a) :: S) σ) : M ph Γ y d mc ms kc ks Q pc L (vi a :: S) σ := by
  intro p l e s m args below meth c H locs ad0 ad ls st hc hG hst he hR hS hB hl hk
  obtain ⟨st1, rfl, hk1⟩ := mk_i hk
  exact lv_ineg hc.1 hc.2.1 hd (k p l e s m args below meth c H locs ad0 ad ls _ hc hG hst he hR hS hB hl (by simp [mv, hk1]))
theorem M_i2l {a : Int32} (hd : decode y.2.1 pc = .ok (.i2l, 1)) (k : M ph Γ y d mc ms kc ks Q (pc + 1) L (vl a.toInt64 :: S) σ) : M ph Γ y d mc ms kc ks Q pc L (vi a :: S) σ := by
  intro p l e s m args below meth c H locs ad0 ad ls st hc hG hst he hR hS hB hl hk
  obtain ⟨st1, rfl, hk1⟩ := mk_i hk
  exact lv_i2l hc.1 hc.2.1 hd rfl (k p l e s m args below meth c H locs ad0 ad ls _ hc hG hst he hR hS hB hl (by simp [mv, hk1]))
theorem M_i2b {a : Int32} (hd : decode y.2.1 pc = .ok (.i2b, 1)) (k : M ph Γ y d mc ms kc ks Q (pc + 1) L (vi a.toInt8.toInt32 :: S) σ) : M ph Γ y d mc ms kc ks Q pc L (vi a :: S) σ := by
  intro p l e s m args below meth c H locs ad0 ad ls st hc hG hst he hR hS hB hl hk
  obtain ⟨st1, rfl, hk1⟩ := mk_i hk
  exact lv_i2b hc.1 hc.2.1 hd rfl (k p l e s m args below meth c H locs ad0 ad ls _ hc hG hst he hR hS hB hl (by simp [mv, hk1]))
theorem M_i2s {a : Int32} (hd : decode y.2.1 pc = .ok (.i2s, 1)) (k : M ph Γ y d mc ms kc ks Q (pc + 1) L (vi a.toInt16.toInt32 :: S) σ) : M ph Γ y d mc ms kc ks Q pc L (vi a :: S) σ := by
  intro p l e s m args below meth c H locs ad0 ad ls st hc hG hst he hR hS hB hl hk
  obtain ⟨st1, rfl, hk1⟩ := mk_i hk
  exact lv_i2s hc.1 hc.2.1 hd rfl (k p l e s m args below meth c H locs ad0 ad ls _ hc hG hst he hR hS hB hl (by simp [mv, hk1]))
theorem M_lcmp {a b : Int64} (hd : decode y.2.1 pc = .ok (.lcmp, 1)) (k : M ph Γ y d mc ms kc ks Q (pc + 1) L (vi (lg_cmp a b) :: S) σ) : M ph Γ y d mc ms kc ks Q pc L (vl b :: vl a :: S) σ := by
  intro p l e s m args below meth c H locs ad0 ad ls st hc hG hst he hR hS hB hl hk
  obtain ⟨st1, rfl, hk1⟩ := mk_l hk
  obtain ⟨st2, rfl, hk2⟩ := mk_l hk1
  exact W.lcmp hc.1 hc.2.1 hd (k p l e s m args below meth c H locs ad0 ad ls _ hc hG hst he hR hS hB hl (by simp [mv, hk2]))
theorem M_dup {v : MV} (hd : decode y.2.1 pc = .ok (.dup, 1)) (hv : mcat v = 1) (k : M ph Γ y d mc ms kc ks Q (pc + 1) L (v :: v :: S) σ) : M ph Γ y d mc ms kc ks Q pc L (v :: S) σ := by
  intro p l e s m args below meth c H locs ad0 ad ls st hc hG hst he hR hS hB hl hk
  obtain ⟨r, st1, rfl, h1, hk1⟩ := mk_top hk
  exact lv_dup hc.1 hc.2.1 hd ((mv_cat1 h1).trans hv) (k p l e s m args below meth c H locs ad0 ad ls _ hc hG hst he hR hS hB hl (by simp only [List.map_cons, h1, hk1]))
theorem M_dup_x1 {v w : MV} (hd : decode y.2.1 pc = .ok (.dup_x1, 1)) (hv : mcat v = 1) (hw : mcat w = 1) (k : M ph Γ y d mc ms kc ks Q (pc + 1) L (v :: w :: v :: S) σ) : M ph Γ y d mc ms kc ks Q pc L (v :: w :: S) σ := by
  intro p l e s m args below meth c H locs ad0 ad ls st hc hG hst he hR hS hB hl hk
  obtain ⟨r, st1, rfl, h1, hk1⟩ := mk_top hk
  obtain ⟨r2, st2, rfl, h2, hk2⟩ := mk_top hk1
  exact lv_dup_x1 hc.1 hc.2.1 hd ((mv_cat1 h1).trans hv) ((mv_cat1 h2).trans hw) (k p l e s m args below meth c H locs ad0 ad ls _ hc hG hst he hR hS hB hl (by simp only [List.map_cons, h1, h2, hk2]))
theorem M_pop {v : MV} (hd : decode y.2.1 pc = .ok (.pop, 1)) (hv : mcat v = 1) (k : M ph Γ y d mc ms kc ks Q (pc + 1) L S σ) : M ph Γ y d mc ms kc ks Q pc L (v :: S) σ := by
  intro p l e s m args below meth c H locs ad0 ad ls st hc hG hst he hR hS hB hl hk
  obtain ⟨r, st1, rfl, h1, hk1⟩ := mk_top hk
  exact lv_pop hc.1 hc.2.1 hd ((mv_cat1 h1).trans hv) (k p l e s m args below meth c H locs ad0 ad ls _ hc hG hst he hR hS hB hl hk1)
theorem M_goto {off : Int} {t : Nat} (hd : decode y.2.1 pc = .ok (.goto off, 3)) (ht : (pc : Int) + off = (t : Int)) (k : M ph Γ y d mc ms kc ks Q t L S σ) : M ph Γ y d mc ms kc ks Q pc L S σ := by
  intro p l e s m args below meth c H locs ad0 ad ls st hc hG hst he hR hS hB hl hk
  exact lv_goto hc.1 hc.2.1 hd ht (k p l e s m args below meth c H locs ad0 ad ls _ hc hG hst he hR hS hB hl hk)
theorem M_if_eq {a : Int32} {off : Int} {t : Nat} (hd : decode y.2.1 pc = .ok (.ifCond .eq off, 3)) (ht : (pc : Int) + off = (t : Int)) (kt : a = 0 → M ph Γ y d mc ms kc ks Q t L S σ) (kf : ¬ (a = 0) → M ph Γ y d mc ms kc ks Q (pc + 3) L S σ) : M ph Γ y d mc ms kc ks Q pc L (vi a :: S) σ := by
  intro p l e s m args below meth c H locs ad0 ad ls st hc hG hst he hR hS hB hl hk
  obtain ⟨st1, rfl, hk1⟩ := mk_i hk
  exact lv_if_eq hc.1 hc.2.1 hd ht (fun h => kt (by first | exact h | simpa using h) p l e s m args below meth c H locs ad0 ad ls _ hc hG hst he hR hS hB hl hk1) (fun h => kf (by first | exact h | simpa using h) p l e s m args below meth c H locs ad0 ad ls _ hc hG hst he hR hS hB hl hk1)
theorem M_icmp_eq {a b : Int32} {off : Int} {t : Nat} (hd : decode y.2.1 pc = .ok (.if_icmp .eq off, 3)) (ht : (pc : Int) + off = (t : Int)) (kt : a = b → M ph Γ y d mc ms kc ks Q t L S σ) (kf : ¬ (a = b) → M ph Γ y d mc ms kc ks Q (pc + 3) L S σ) : M ph Γ y d mc ms kc ks Q pc L (vi b :: vi a :: S) σ := by
  intro p l e s m args below meth c H locs ad0 ad ls st hc hG hst he hR hS hB hl hk
  obtain ⟨st1, rfl, hk1⟩ := mk_i hk
  obtain ⟨st2, rfl, hk2⟩ := mk_i hk1
  exact lv_icmp_eq hc.1 hc.2.1 hd ht (fun h => kt (by first | exact h | simpa using h) p l e s m args below meth c H locs ad0 ad ls _ hc hG hst he hR hS hB hl hk2) (fun h => kf (by first | exact h | simpa using h) p l e s m args below meth c H locs ad0 ad ls _ hc hG hst he hR hS hB hl hk2)
theorem M_if_ne {a : Int32} {off : Int} {t : Nat} (hd : decode y.2.1 pc = .ok (.ifCond .ne off, 3)) (ht : (pc : Int) + off = (t : Int)) (kt : ¬ a = 0 → M ph Γ y d mc ms kc ks Q t L S σ) (kf : ¬ (¬ a = 0) → M ph Γ y d mc ms kc ks Q (pc + 3) L S σ) : M ph Γ y d mc ms kc ks Q pc L (vi a :: S) σ := by
  intro p l e s m args below meth c H locs ad0 ad ls st hc hG hst he hR hS hB hl hk
  obtain ⟨st1, rfl, hk1⟩ := mk_i hk
  exact lv_if_ne hc.1 hc.2.1 hd ht (fun h => kt (by first | exact h | simpa using h) p l e s m args below meth c H locs ad0 ad ls _ hc hG hst he hR hS hB hl hk1) (fun h => kf (by first | exact h | simpa using h) p l e s m args below meth c H locs ad0 ad ls _ hc hG hst he hR hS hB hl hk1)
theorem M_icmp_ne {a b : Int32} {off : Int} {t : Nat} (hd : decode y.2.1 pc = .ok (.if_icmp .ne off, 3)) (ht : (pc : Int) + off = (t : Int)) (kt : ¬ a = b → M ph Γ y d mc ms kc ks Q t L S σ) (kf : ¬ (¬ a = b) → M ph Γ y d mc ms kc ks Q (pc + 3) L S σ) : M ph Γ y d mc ms kc ks Q pc L (vi b :: vi a :: S) σ := by
  intro p l e s m args below meth c H locs ad0 ad ls st hc hG hst he hR hS hB hl hk
  obtain ⟨st1, rfl, hk1⟩ := mk_i hk
  obtain ⟨st2, rfl, hk2⟩ := mk_i hk1
  exact lv_icmp_ne hc.1 hc.2.1 hd ht (fun h => kt (by first | exact h | simpa using h) p l e s m args below meth c H locs ad0 ad ls _ hc hG hst he hR hS hB hl hk2) (fun h => kf (by first | exact h | simpa using h) p l e s m args below meth c H locs ad0 ad ls _ hc hG hst he hR hS hB hl hk2)
theorem M_if_lt {a : Int32} {off : Int} {t : Nat} (hd : decode y.2.1 pc = .ok (.ifCond .lt off, 3)) (ht : (pc : Int) + off = (t : Int)) (kt : a < 0 → M ph Γ y d mc ms kc ks Q t L S σ) (kf : ¬ (a < 0) → M ph Γ y d mc ms kc ks Q (pc + 3) L S σ) : M ph Γ y d mc ms kc ks Q pc L (vi a :: S) σ := by
  intro p l e s m args below meth c H locs ad0 ad ls st hc hG hst he hR hS hB hl hk
  obtain ⟨st1, rfl, hk1⟩ := mk_i hk
  exact lv_if_lt hc.1 hc.2.1 hd ht (fun h => kt (by first | exact h | simpa using h) p l e s m args below meth c H locs ad0 ad ls _ hc hG hst he hR hS hB hl hk1) (fun h => kf (by first | exact h | simpa using h) p l e s m args below meth c H locs ad0 ad ls _ hc hG hst he hR hS hB hl hk1)
theorem M_icmp_lt {a b : Int32} {off : Int} {t : Nat} (hd : decode y.2.1 pc = .ok (.if_icmp .lt off, 3)) (ht : (pc : Int) + off = (t : Int)) (kt : a < b → M ph Γ y d mc ms kc ks Q t L S σ) (kf : ¬ (a < b) → M ph Γ y d mc ms kc ks Q (pc + 3) L S σ) : M ph Γ y d mc ms kc ks Q pc L (vi b :: vi a :: S) σ := by
  intro p l e s m args below meth c H locs ad0 ad ls st hc hG hst he hR hS hB hl hk
  obtain ⟨st1, rfl, hk1⟩ := mk_i hk
  obtain ⟨st2, rfl, hk2⟩ := mk_i hk1
  exact lv_icmp_lt hc.1 hc.2.1 hd ht (fun h => kt (by first | exact h | simpa using h) p l e s m args below meth c H locs ad0 ad ls _ hc hG hst he hR hS hB hl hk2) (fun h => kf (by first | exact h | simpa using h) p l e s m args below meth c H locs ad0 ad ls _ hc hG hst he hR hS hB hl hk2)
theorem M_if_ge {a : Int32} {off : Int} {t : Nat} (hd : decode y.2.1 pc = .ok (.ifCond .ge off, 3)) (ht : (pc : Int) + off = (t : Int)) (kt : 0 ≤ a → M ph Γ y d mc ms kc ks Q t L S σ) (kf : ¬ (0 ≤ a) → M ph Γ y d mc ms kc ks Q (pc + 3) L S σ) : M ph Γ y d mc ms kc ks Q pc L (vi a :: S) σ := by
  intro p l e s m args below meth c H locs ad0 ad ls st hc hG hst he hR hS hB hl hk
  obtain ⟨st1, rfl, hk1⟩ := mk_i hk
  exact lv_if_ge hc.1 hc.2.1 hd ht (fun h => kt (by first | exact h | simpa using h) p l e s m args below meth c H locs ad0 ad ls _ hc hG hst he hR hS hB hl hk1) (fun h => kf (by first | exact h | simpa using h) p l e s m args below meth c H locs ad0 ad ls _ hc hG hst he hR hS hB hl hk1)
theorem M_icmp_ge {a b : Int32} {off : Int} {t : Nat} (hd : decode y.2.1 pc = .ok (.if_icmp .ge off, 3)) (ht : (pc : Int) + off = (t : Int)) (kt : b ≤ a → M ph Γ y d mc ms kc ks Q t L S σ) (kf : ¬ (b ≤ a) → M ph Γ y d mc ms kc ks Q (pc + 3) L S σ) : M ph Γ y d mc ms kc ks Q pc L (vi b :: vi a :: S) σ := by
  intro p l e s m args below meth c H locs ad0 ad ls st hc hG hst he hR hS hB hl hk
  obtain ⟨st1, rfl, hk1⟩ := mk_i hk
  obtain ⟨st2, rfl, hk2⟩ := mk_i hk1
  exact lv_icmp_ge hc.1 hc.2.1 hd ht (fun h => kt (by first | exact h | simpa using h) p l e s m args below meth c H locs ad0 ad ls _ hc hG hst he hR hS hB hl hk2) (fun h => kf (by first | exact h | simpa using h) p l e s m args below meth c H locs ad0 ad ls _ hc hG hst he hR hS hB hl hk2)
theorem M_if_gt {a : Int32} {off : Int} {t : Nat} (hd : decode y.2.1 pc = .ok (.ifCond .gt off, 3)) (ht : (pc : Int) + off = (t : Int)) (kt : 0 < a → M ph Γ y d mc ms kc ks Q t L S σ) (kf : ¬ (0 < a) → M ph Γ y d mc ms kc ks Q (pc + 3) L S σ) : M ph Γ y d mc ms kc ks Q pc L (vi a :: S) σ := by
  intro p l e s m args below meth c H locs ad0 ad ls st hc hG hst he hR hS hB hl hk
  obtain ⟨st1, rfl, hk1⟩ := mk_i hk
  exact lv_if_gt hc.1 hc.2.1 hd ht (fun h => kt (by first | exact h | simpa using h) p l e s m args below meth c H locs ad0 ad ls _ hc hG hst he hR hS hB hl hk1) (fun h => kf (by first | exact h | simpa using h) p l e s m args below meth c H locs ad0 ad ls _ hc hG hst he hR hS hB hl hk1)
theorem M_icmp_gt {a b : Int32} {off : Int} {t : Nat} (hd : decode y.2.1 pc = .ok (.if_icmp .gt off, 3)) (ht : (pc : Int) + off = (t : Int)) (kt : b < a → M ph Γ y d mc ms kc ks Q t L S σ) (kf : ¬ (b < a) → M ph Γ y d mc ms kc ks Q (pc + 3) L S σ) : M ph Γ y d mc ms kc ks Q pc L (vi b :: vi a :: S) σ := by
  intro p l e s m args below meth c H locs ad0 ad ls st hc hG hst he hR hS hB hl hk
  obtain ⟨st1, rfl, hk1⟩ := mk_i hk
  obtain ⟨st2, rfl, hk2⟩ := mk_i hk1
  exact lv_icmp_gt hc.1 hc.2.1 hd ht (fun h => kt (by first | exact h | simpa using h) p l e s m args below meth c H locs ad0 ad ls _ hc hG hst he hR hS hB hl hk2) (fun h => kf (by first | exact h | simpa using h) p l e s m args below meth c H locs ad0 ad ls _ hc hG hst he hR hS hB hl hk2)
theorem M_if_le {a : Int32} {off : Int} {t : Nat} (hd : decode y.2.1 pc = .ok (.ifCond .le off, 3)) (ht : (pc : Int) + off = (t : Int)) (kt : a ≤ 0 → M ph Γ y d mc ms kc ks Q t L S σ) (kf : ¬ (a ≤ 0) → M ph Γ y d mc ms kc ks Q (pc + 3) L S σ) : M ph Γ y d mc ms kc ks Q pc L (vi a :: S) σ := by
  intro p l e s m args below meth c H locs ad0 ad ls st hc hG hst he hR hS hB hl hk
  obtain ⟨st1, rfl, hk1⟩ := mk_i hk
  exact lv_if_le hc.1 hc.2.1 hd ht (fun h => kt (by first | exact h | simpa using h) p l e s m args below meth c H locs ad0 ad ls _ hc hG hst he hR hS hB hl hk1) (fun h => kf (by first | exact h | simpa using h) p l e s m args below meth c H locs ad0 ad ls _ hc hG hst he hR hS hB hl hk1)
theorem M_icmp_le {a b : Int32} {off : Int} {t : Nat} (hd : decode y.2.1 pc = .ok (.if_icmp .le off, 3)) (ht : (pc : Int) + off = (t : Int)) (kt : a ≤ b → M ph Γ y d mc ms kc ks Q t L S σ) (kf : ¬ (a ≤ b) → M ph Γ y d mc ms kc ks Q (pc + 3) L S σ) : M ph Γ y d mc ms kc ks Q pc L (vi b :: vi a :: S) σ := by
  intro p l e s m args below meth c H locs ad0 ad ls st hc hG hst he hR hS hB hl hk
  obtain ⟨st1, rfl, hk1⟩ := mk_i hk
  obtain ⟨st2, rfl, hk2⟩ := mk_i hk1
  exact lv_icmp_le hc.1 hc.2.1 hd ht (fun h => kt (by first | exact h | simpa using h) p l e s m args below meth c H locs ad0 ad ls _ hc hG hst he hR hS hB hl hk2) (fun h => kf (by first | exact h | simpa using h) p l e s m args below meth c H locs ad0 ad ls _ hc hG hst he hR hS hB hl hk2)
theorem M_ifnull {x : Option MA} {off : Int} {t : Nat} (hd : decode y.2.1 pc = .ok (.ifnull off, 3)) (ht : (pc : Int) + off = (t : Int)) (kt : x = none → M ph Γ y d mc ms kc ks Q t L S σ) (kf : ¬ x = none → M ph Γ y d mc ms kc ks Q (pc + 3) L S σ) : M ph Γ y d mc ms kc ks Q pc L (vq x :: S) σ := by
  intro p l e s m args below meth c H locs ad0 ad ls st hc hG hst he hR hS hB hl hk
  obtain ⟨r, st1, rfl, h1, hk1⟩ := mk_top hk
  rcases mk_q h1 with ⟨hx, rfl⟩ | ⟨a, q, hx, -, rfl⟩
  · exact lv_ifnullN hc.1 hc.2.1 hd ht (kt hx p l e s m args below meth c H locs ad0 ad ls _ hc hG hst he hR hS hB hl hk1)
  · exact lv_ifnull hc.1 hc.2.1 hd (kf (by rw [hx]; simp) p l e s m args below meth c H locs ad0 ad ls _ hc hG hst he hR hS hB hl hk1)
theorem M_ifnonnull {x : Option MA} {off : Int} {t : Nat} (hd : decode y.2.1 pc = .ok (.ifnonnull off, 3)) (ht : (pc : Int) + off = (t : Int)) (kt : ¬ x = none → M ph Γ y d mc ms kc ks Q t L S σ) (kf : x = none → M ph Γ y d mc ms kc ks Q (pc + 3) L S σ) : M ph Γ y d mc ms kc ks Q pc L (vq x :: S) σ := by
  intro p l e s m args below meth c H locs ad0 ad ls st hc hG hst he hR hS hB hl hk
  obtain ⟨r, st1, rfl, h1, hk1⟩ := mk_top hk
  rcases mk_q h1 with ⟨hx, rfl⟩ | ⟨a, q, hx, -, rfl⟩
  · exact lv_ifnonnullN hc.1 hc.2.1 hd (kf hx p l e s m args below meth c H locs ad0 ad ls _ hc hG hst he hR hS hB hl hk1)
  · exact lv_ifnonnull hc.1 hc.2.1 hd ht (kt (by rw [hx]; simp) p l e s m args below meth c H locs ad0 ad ls _ hc hG hst he hR hS hB hl hk1)
theorem M_tableIn {dflt lo hi : Int} {offs : Array Int} {len : Nat} {x : Int32} {off : Int} {t : Nat} (hd : decode y.2.1 pc = .ok (.tableswitch dflt lo hi offs, len)) (h1 : ¬ x.toInt < lo) (h2 : ¬ hi < x.toInt) (ho : offs[(x.toInt - lo).toNat]? = some off) (ht : (pc : Int) + off = (t : Int)) (k : M ph Γ y d mc ms kc ks Q t L S σ) : M ph Γ y d mc ms kc ks Q pc L (vi x :: S) σ := by
  intro p l e s m args below meth c H locs ad0 ad ls st hc hG hst he hR hS hB hl hk
  obtain ⟨st1, rfl, hk1⟩ := mk_i hk
  exact lv_tableIn hc.1 hc.2.1 hd h1 h2 ho ht (k p l e s m args below meth c H locs ad0 ad ls _ hc hG hst he hR hS hB hl hk1)
theorem M_tableOut {dflt lo hi : Int} {offs : Array Int} {len : Nat} {x : Int32} {t : Nat} (hd : decode y.2.1 pc = .ok (.tableswitch dflt lo hi offs, len)) (h : x.toInt < lo ∨ hi < x.toInt) (ht : (pc : Int) + dflt = (t : Int)) (k : M ph Γ y d mc ms kc ks Q t L S σ) : M ph Γ y d mc ms kc ks Q pc L (vi x :: S) σ := by
  intro p l e s m args below meth c H locs ad0 ad ls st hc hG hst he hR hS hB hl hk
  obtain ⟨st1, rfl, hk1⟩ := mk_i hk
  exact lv_tableOut hc.1 hc.2.1 hd h ht (k p l e s m args below meth c H locs ad0 ad ls _ hc hG hst he hR hS hB hl hk1)
theorem M_lookup {dflt : Int} {ps : Array (Int × Int)} {len : Nat} {x : Int32} {off : Int} {t : Nat} (hd : decode y.2.1 pc = .ok (.lookupswitch dflt ps, len)) (hp : (ps.toList.zip (ps.toList.drop 1)).all (fun (a, next) => a.1 < next.1) = true) (ho : Op.lookupswitch.offset ps.toList dflt x.toInt = off) (ht : (pc : Int) + off = (t : Int)) (k : M ph Γ y d mc ms kc ks Q t L S σ) : M ph Γ y d mc ms kc ks Q pc L (vi x :: S) σ := by
  intro p l e s m args below meth c H locs ad0 ad ls st hc hG hst he hR hS hB hl hk
  obtain ⟨st1, rfl, hk1⟩ := mk_i hk
  exact lv_lookup hc.1 hc.2.1 hd hp ho ht (k p l e s m args below meth c H locs ad0 ad ls _ hc hG hst he hR hS hB hl hk1)
/-! returns -/
theorem mRet {v : MV} {s t : State} {H : Heap} {locs : List Loc} {ad0 ad : MA → Option Nat} {r : Value} {args : Array Value} (hq : Q (some v) σ) (he : ∀ a q, ad0 a = some q → ad a = some q) (hR : Rep ph Γ s ad σ H) (hS : va_S (mA Γ) s.heap H locs) (hB : Γ.1 ≤ s.heap.size) (hv : mv ad v = some r) (ht : t.heap = H) (hW : s.WarmedH t.vm) : mQ ph Γ Q ad0 args s (.returned (some r)) t :=
  ⟨some v, some r, σ, ad, rfl, by simp [hv], hq, he, by rw [ht]; exact hR.warm hW.alike, by rw [ht]; exact hS.1, fun q hq' => by rw [ht]; exact hS.2.1 q (Nat.lt_of_lt_of_le hq' hB) (Nat.not_le.mpr hq')⟩
theorem M_ireturn {x : Int32} (hret : y.2.2.2 = some .int) (hd : decode y.2.1 pc = .ok (.ireturn, 1)) (h1 : kc ≤ mc) (h2 : ks ≤ ms) (hq : Q (some (vi x)) σ) : M ph Γ y d mc ms kc ks Q pc L [vi x] σ := by
  intro p l e s m args below meth c H locs ad0 ad ls st hc hG hst he hR hS hB hl hk
  obtain ⟨st1, rfl, hk1⟩ := mk_i hk
  cases st1 with
  | cons a b => simp at hk1
  | nil =>
    refine W.widen h1 h2 ?_
    exact W.iret hc.1 hc.2.1 (hc.2.2.1.trans hret) (fun t ht hW => mRet hq he hR hS hB rfl ht hW) hS.2.2 hd (hlocks := hc.2.2.2.2.2.1)
theorem M_zreturn {x : Int32} (hret : y.2.2.2 = some .boolean) (hd : decode y.2.1 pc = .ok (.ireturn, 1)) (hx : x = 0 ∨ x = 1) (h1 : kc ≤ mc) (h2 : ks ≤ ms) (hq : Q (some (vi x)) σ) : M ph Γ y d mc ms kc ks Q pc L [vi x] σ := by
  intro p l e s m args below meth c H locs ad0 ad ls st hc hG hst he hR hS hB hl hk
  obtain ⟨st1, rfl, hk1⟩ := mk_i hk
  cases st1 with
  | cons a b => simp at hk1
  | nil =>
    refine W.widen h1 h2 ?_
    exact W.zret hc.1 hc.2.1 (hc.2.2.1.trans hret) (by rcases hx with rfl | rfl <;> rfl) (fun t ht hW => mRet hq he hR hS hB rfl ht hW) hS.2.2 hd (hlocks := hc.2.2.2.2.2.1)
theorem M_lreturn {x : Int64} (hret : y.2.2.2 = some .long) (hd : decode y.2.1 pc = .ok (.lreturn, 1)) (h1 : kc ≤ mc) (h2 : ks ≤ ms) (hq : Q (some (vl x)) σ) : M ph Γ y d mc ms kc ks Q pc L [vl x] σ := by
  intro p l e s m args below meth c H locs ad0 ad ls st hc hG hst he hR hS hB hl hk
  obtain ⟨st1, rfl, hk1⟩ := mk_l hk
  cases st1 with
  | cons a b => simp at hk1
  | nil =>
    refine W.widen h1 h2 ?_
    exact W.lret hc.1 hc.2.1 (hc.2.2.1.trans hret) (fun t ht hW => mRet hq he hR hS hB rfl ht hW) hS.2.2 hd (hlocks := hc.2.2.2.2.2.1)
theorem M_areturn {x : Option MA} {C : String} (hret : y.2.2.2 = some (.object C)) (hd : decode y.2.1 pc = .ok (.areturn, 1)) (h1 : kc ≤ mc) (h2 : ks ≤ ms) (hq : Q (some (vq x)) σ) : M ph Γ y d mc ms kc ks Q pc L [vq x] σ := by
  intro p l e s m args below meth c H locs ad0 ad ls st hc hG hst he hR hS hB hl hk
  obtain ⟨r, st1, rfl, hr, hk1⟩ := mk_top hk
  cases st1 with
  | cons a b => simp at hk1
  | nil =>
    refine W.widen h1 h2 ?_
    refine W.aret hc.1 hc.2.1 (hc.2.2.1.trans hret) (Or.inl ⟨C, rfl⟩) ?_ (fun t ht hW => mRet hq he hR hS hB hr ht hW) hS.2.2 hd (hlocks := hc.2.2.2.2.2.1)
    rcases mk_q hr with ⟨-, rfl⟩ | ⟨a, q, -, -, rfl⟩
    · exact Or.inl rfl
    · exact Or.inr ⟨q, rfl⟩
theorem M_return (hret : y.2.2.2 = none) (hd : decode y.2.1 pc = .ok (.return_, 1)) (h1 : kc ≤ mc) (h2 : ks ≤ ms) (hq : Q none σ) : M ph Γ y d mc ms kc ks Q pc L [] σ := by
  intro p l e s m args below meth c H locs ad0 ad ls st hc hG hst he hR hS hB hl hk
  cases st with
  | cons a b => simp at hk
  | nil =>
    refine W.widen h1 h2 ?_
    exact W.vret hc.1 hc.2.1 (hc.2.2.1.trans hret) (fun t ht hW => ⟨none, none, σ, ad, rfl, rfl, hq, he, by rw [ht]; exact hR.warm hW.alike, by rw [ht]; exact hS.1, fun q hq' => by rw [ht]; exact hS.2.1 q (Nat.lt_of_lt_of_le hq' hB) (Nat.not_le.mpr hq')⟩) hS.2.2 hd (hlocks := hc.2.2.2.2.2.1)
end Steps2
end
section
/-! THE STEPS: fields and arrays -/
theorem mref_arr {k : Nat} (hk : 10 ≤ k) (j : Nat) : mref k j = mref k 0 := by
  have h : mobjR[k]? = none := List.getElem?_eq_none hk
  simp only [mref, h]
theorem mcls_lt {k : Nat} {q : vw_C} (h : vwCl[k]? = some q) : k < 10 := (List.getElem?_eq_some_iff.mp h).1
theorem mlen_obj {k Ln : Nat} {q : vw_C} (h : vwCl[k]? = some q) : mlen Ln k = q.2.2 := by
  match k, h with
  | 0, h => cases h; rfl
  | 1, h => cases h; rfl
  | 2, h => cases h; rfl
  | 3, h => cases h; rfl
  | 4, h => cases h; rfl
  | 5, h => cases h; rfl
  | 6, h => cases h; rfl
  | 7, h => cases h; rfl
  | 8, h => cases h; rfl
  | 9, h => cases h; rfl
  | k + 10, h => exact absurd (mcls_lt h) (by omega)
theorem good_lay (C : String) (T : u_T) (k : Nat) : goodWord (u_lay C T k) = true := by
  unfold u_lay
  split <;> rfl
theorem mlays {Γ : GG} {s : State} (hG : mG Γ s) {k : Nat} {q : vw_C} (h : vwCl[k]? = some q) (a : Array Value) : ∀ w ∈ u_ws q.1 q.2.1 q.2.2, w.before a s = true := by
  have key : ∀ w ∈ u_ws q.1 q.2.1 q.2.2, w ∈ lw_tbl := by
    match k, h with
    | 0, h => cases h; exact inX0
    | 1, h => cases h; exact inX1
    | 2, h => cases h; exact inX2
    | 3, h => cases h; exact inX3
    | 4, h => cases h; exact inX4
    | 5, h => cases h; exact inX5
    | 6, h => cases h; exact inX6
    | 7, h => cases h; exact inX7
    | 8, h => cases h; exact inX8
    | 9, h => cases h; exact inX9
    | k + 10, h => exact absurd (mcls_lt h) (by omega)
  intro w hw
  refine hG.1 w (key w hw) ?_ a
  obtain ⟨j, -, rfl⟩ := List.mem_map.mp hw
  exact good_lay _ _ _
/-- the types of the fields: int where mref says so, else of references -/
def mtyck (k : Nat) (q : vw_C) : Bool := (List.range q.2.2).all (fun j => match parseFieldDescriptor (q.2.1 j).2.2.1 with
  | some .int => !(mref k j)
  | some (.object _) => mref k j
  | some (.array _) => mref k j
  | _ => false)
theorem mty_all : (List.range 10).all (fun k => match vwCl[k]? with | some q => mtyck k q | none => false) = true := by decide +kernel
theorem mty {k : Nat} {q : vw_C} (h : vwCl[k]? = some q) {j : Nat} (hj : j < q.2.2) : ∃ ty, parseFieldDescriptor (q.2.1 j).2.2.1 = some ty ∧ ((mref k j = false ∧ ty = .int) ∨ (mref k j = true ∧ ((∃ n, ty = .object n) ∨ ∃ t, ty = .array t))) := by
  have h1 := List.all_eq_true.mp mty_all k (List.mem_range.mpr (mcls_lt h))
  rw [h] at h1
  have h2 := List.all_eq_true.mp h1 j (List.mem_range.mpr hj)
  split at h2
  · rename_i e; exact ⟨.int, e, Or.inl ⟨by simpa using h2, rfl⟩⟩
  · rename_i n e; exact ⟨_, e, Or.inr ⟨h2, Or.inl ⟨n, rfl⟩⟩⟩
  · rename_i n e; exact ⟨_, e, Or.inr ⟨h2, Or.inr ⟨n, rfl⟩⟩⟩
  · cases h2
def mnmck (q : vw_C) : Bool := (List.range q.2.2).all (fun a => (List.range q.2.2).all (fun b => decide (a = b) || decide ((q.2.1 a).2.1 ≠ (q.2.1 b).2.1)))
theorem mnm_all : vwCl.all mnmck = true := by decide +kernel
theorem mnm {k : Nat} {q : vw_C} (h : vwCl[k]? = some q) : ∀ a, a < q.2.2 → ∀ b, b < q.2.2 → a ≠ b → (q.2.1 a).2.1 ≠ (q.2.1 b).2.1 := by
  intro a ha b hb hab
  have h1 := List.all_eq_true.mp mnm_all q (List.mem_of_getElem? h)
  have h2 := List.all_eq_true.mp (List.all_eq_true.mp h1 a (List.mem_range.mpr ha)) b (List.mem_range.mpr hb)
  simp only [Bool.or_eq_true, decide_eq_true_eq] at h2
  exact h2.resolve_left hab
theorem mapart {Γ : GG} {s : State} (hG : mG Γ s) {k : Nat} {q : vw_C} (h : vwCl[k]? = some q) : ∀ a b, a < q.2.2 → b < q.2.2 → a ≠ b → Γ.2.2.2 k a ≠ Γ.2.2.2 k b := by
  intro a b ha hb hne
  obtain ⟨hS, -⟩ := hG.2.2.1 k q h
  obtain ⟨_, _, _, fa, hia, ea⟩ := hS a ha
  obtain ⟨_, _, _, fb, hib, eb⟩ := hS b hb
  obtain ⟨ta, hta, -⟩ := mty h ha
  obtain ⟨tb, htb, -⟩ := mty h hb
  rw [← ea, ← eb]
  refine u_apart (u_lays (mlays hG h #[]) (fun w hw => hw) ha) (u_lays (mlays hG h #[]) (fun w hw => hw) hb) hia hib ?_
  rw [(State.fieldFound?_type hia hta).1, (State.fieldFound?_type hib htb).1]
  exact mnm h a ha b hb hne
/-! one slot changes -/
theorem mpl_ne {Γ : GG} {s : State} (hG : mG Γ s) {k a b : Nat} (ha : a < mlen Γ.2.1 k) (hb : b < mlen Γ.2.1 k) (hne : a ≠ b) : mpl Γ k a ≠ mpl Γ k b := by
  unfold mpl
  by_cases hk : k < 10
  · rw [if_pos hk, if_pos hk]
    obtain ⟨q, hq⟩ : ∃ q, vwCl[k]? = some q := ⟨_, List.getElem?_eq_getElem hk⟩
    rw [mlen_obj hq] at ha hb
    exact mapart hG hq a b ha hb hne
  · rw [if_neg hk, if_neg hk]; exact hne
theorem mhdr.set {Γ : GG} {s : State} {k n : Nat} {cell : Cell} {v : Value} (h : mhdr Γ s k cell) : mhdr Γ s k (cell.setSlot n v) := by
  unfold mhdr at h ⊢
  split
  · rw [if_pos (by assumption)] at h; exact h
  · rw [if_neg (by assumption)] at h
    obtain ⟨h1, h2, h3, h4⟩ := h
    exact ⟨h1, h2, by show (cell.slots.setIfInBounds n v).size = _; rw [Array.size_setIfInBounds]; exact h3, h4⟩
theorem Rep.put {ph : Bool} {Γ : GG} {s : State} {ad : MA → Option Nat} {σ σ' : Sto} {H H' : Heap} {k i j q : Nat} {cell : Cell} {w : MV} {v : Value} (h : Rep ph Γ s ad σ H) (hG : mG Γ s) (hq : ad (k, i) = some q) (hc : H[q]? = some cell) (hj : j < mlen Γ.2.1 k)
    (hw : mv ad w = some v) (hs : sv ph σ' k i j = w) (ho : ∀ k' i' j', ¬ (k' = k ∧ i' = i ∧ j' = j) → sv ph σ' k' i' j' = sv ph σ k' i' j') (hN : ∀ k', gN σ' k' = gN σ k')
    (e1 : H'[q]? = some (cell.setSlot (mpl Γ k j) v)) (e2 : H'.size = H.size) (e3 : ∀ x, x ≠ q → H'[x]? = H[x]?) : Rep ph Γ s ad σ' H' := by
  refine ⟨h.1, fun k' i' q' hq' => ?_, by rw [e2]; exact h.2.2⟩
  obtain ⟨⟨cell', c1, c2, c3⟩, c4⟩ := h.2.1 k' i' q' hq'
  refine ⟨?_, fun hk => by rw [hN]; exact c4 hk⟩
  by_cases hqq : q' = q
  · subst hqq
    have hki := h.1 _ _ _ hq' hq
    simp only [Prod.mk.injEq] at hki
    obtain ⟨rfl, rfl⟩ := hki
    cases c1.symm.trans hc
    refine ⟨_, e1, c2.set, fun j' hj' => ?_⟩
    by_cases hjj : j' = j
    · subst hjj
      obtain ⟨v0, -, hv0⟩ := c3 j' hj'
      exact ⟨v, by rw [hs]; exact hw, Cell.slots_setSlot_self _ (k2_hasslot hv0)⟩
    · obtain ⟨v0, g1, g2⟩ := c3 j' hj'
      exact ⟨v0, by rw [ho _ _ _ (fun z => hjj z.2.2)]; exact g1, by rw [slot_ne _ _ (mpl_ne hG hj hj' (Ne.symm hjj))]; exact g2⟩
  · have hne : ¬ (k' = k ∧ i' = i) := fun z => hqq (Option.some.inj (hq'.symm.trans (by rw [z.1, z.2]; exact hq)))
    exact ⟨cell', (e3 q' hqq).trans c1, c2, fun j' hj' => by rw [ho _ _ _ (fun z => hne ⟨z.1, z.2.1⟩)]; exact c3 j' hj'⟩
theorem sv_sI {ph : Bool} {σ : Sto} {k i j : Nat} {x : Int32} (h : mref k j = false) : sv ph (sI σ k i j x) k i j = vi x := by simp [sv, h, gI, sI]
theorem sv_sI_ne {ph : Bool} {σ : Sto} {k i j k' i' j' : Nat} {x : Int32} (h : ¬ (k' = k ∧ i' = i ∧ j' = j)) : sv ph (sI σ k i j x) k' i' j' = sv ph σ k' i' j' := by
  unfold sv
  split
  · rfl
  · simp [gI, sI, h]
theorem sv_sR {ph : Bool} {σ : Sto} {k i j : Nat} {x : Option MA} (h : mref k j = true) (hf : ph = false ∨ mfin k i j = none) : sv ph (sR σ k i j x) k i j = vq x := by
  unfold sv
  rw [h]
  rcases hf with rfl | hf
  · simp [mrf, gR, sR]
  · cases ph <;> simp [mrf, hf, gR, sR]
theorem sv_sR_ne {ph : Bool} {σ : Sto} {k i j k' i' j' : Nat} {x : Option MA} (h : ¬ (k' = k ∧ i' = i ∧ j' = j)) : sv ph (sR σ k i j x) k' i' j' = sv ph σ k' i' j' := by
  unfold sv
  split
  · congr 1
    unfold mrf
    cases ph <;> simp [gR, sR, h]
  · rfl
/-- the fields that a class names: pool index, slot, classes of the object, the name's class, how it may be written (0: always, 1: in a constructor, 2: never) -/
abbrev mFT : Type := List (Nat × Nat × List Nat × String × Nat)
def mFck (own : String) (x : Nat × Nat × List Nat × String × Nat) (q : vw_C) : Bool :=
  decide (x.2.1 < q.2.2) && decide (Cond.fieldLink own x.1 x.2.2.2.1 (q.2.1 x.2.1).2.1 (q.2.1 x.2.1).2.2.1 ∈ lw_tbl) && (decide (x.2.2.2.1 = (q.2.1 x.2.1).1) || decide (Cond.sameField x.2.2.2.1 (q.2.1 x.2.1).1 (q.2.1 x.2.1).2.1 (q.2.1 x.2.1).2.2.1 ∈ lw_tbl)) &&
  (match x.2.2.2.2 with | 0 => !((q.2.1 x.2.1).2.2.2) | 1 => (q.2.1 x.2.1).2.2.2 && decide ((q.2.1 x.2.1).1 = own) | _ => true)
def mFchk (own : String) (F : mFT) : Bool := F.all (fun x => x.2.2.1.all (fun ci => match vwCl[ci]? with | some q => mFck own x q | none => false))
theorem mFget {own : String} {F : mFT} (h : mFchk own F = true) {x : Nat × Nat × List Nat × String × Nat} (hx : x ∈ F) {ci : Nat} (hc : ci ∈ x.2.2.1) : ∃ q, vwCl[ci]? = some q ∧ x.2.1 < q.2.2 ∧ Cond.fieldLink own x.1 x.2.2.2.1 (q.2.1 x.2.1).2.1 (q.2.1 x.2.1).2.2.1 ∈ lw_tbl ∧
    (x.2.2.2.1 = (q.2.1 x.2.1).1 ∨ Cond.sameField x.2.2.2.1 (q.2.1 x.2.1).1 (q.2.1 x.2.1).2.1 (q.2.1 x.2.1).2.2.1 ∈ lw_tbl) ∧ (x.2.2.2.2 = 0 → (q.2.1 x.2.1).2.2.2 = false) ∧ (x.2.2.2.2 = 1 → (q.2.1 x.2.1).2.2.2 = true ∧ (q.2.1 x.2.1).1 = own) := by
  have h1 := List.all_eq_true.mp (List.all_eq_true.mp h x hx) ci hc
  cases hq : vwCl[ci]? with
  | none => rw [hq] at h1; cases h1
  | some q =>
    rw [hq] at h1
    simp only [mFck, Bool.and_eq_true, Bool.or_eq_true, decide_eq_true_eq] at h1
    obtain ⟨⟨⟨a1, a2⟩, a3⟩, a4⟩ := h1
    refine ⟨q, rfl, a1, a2, a3, fun e => ?_, fun e => ?_⟩
    · rw [e] at a4; simpa using a4
    · rw [e] at a4; simpa using a4
theorem msame {Γ : GG} {s : State} (hG : mG Γ s) {ref : String} {t : String × String × String × Bool} (h : ref = t.1 ∨ Cond.sameField ref t.1 t.2.1 t.2.2.1 ∈ lw_tbl) (z : ClassId × Class × Nat × Field) (hz : s.fieldFound? t.1 t.2.1 t.2.2.1 = some z) : s.fieldFound? ref t.2.1 t.2.2.1 = some z := by
  rcases h with rfl | h
  · exact hz
  · exact u_same (hG.1 _ h rfl #[]) z hz
section Heap1
variable {ph : Bool} {Γ : GG} {y : Mth} {d mc ms kc ks : Nat} {Q : Option MV → Sto → Prop} {pc : Nat} {L : List (Option MV)} {S : List MV} {σ : Sto}
theorem M_getfield {F : mFT} (hF : mFchk y.1.cls F = true) {x : Nat × Nat × List Nat × String × Nat} {k i : Nat} (hx : x ∈ F) (hk : k ∈ x.2.2.1) (hd : decode y.2.1 pc = .ok (.getfield x.1, 3)) (kk : M ph Γ y d mc ms kc ks Q (pc + 3) L (sv ph σ k i x.2.1 :: S) σ) : M ph Γ y d mc ms kc ks Q pc L (vq (some (k, i)) :: S) σ := by
  intro p l e s m args below meth c H locs ad0 ad ls st hc hG hst he hR hS hB hl hkk
  obtain ⟨q, st', rfl, hq, hk'⟩ := mk_r hkk
  obtain ⟨w, hw, hj, hlink, hsm, -, -⟩ := mFget hF hx hk
  obtain ⟨⟨cell, c1, c2, c3⟩, -⟩ := hR.2.1 k i q hq
  obtain ⟨v, v1, v2⟩ := c3 x.2.1 (by rw [mlen_obj hw]; exact hj)
  have hk10 := mcls_lt hw
  unfold mhdr at c2
  rw [if_pos hk10] at c2
  unfold mpl at v2
  rw [if_pos hk10] at v2
  obtain ⟨hSl, hfc, kC, hkC, hkind⟩ := hG.2.2.1 k w hw
  obtain ⟨cf, kf, fi, f, hi, hsl⟩ := hSl x.2.1 hj
  have hst0 := (u_facts hfc hkC (u_lays (mlays hG hw args) (fun w hw => hw) hj) hi).1
  refine W.getf hc.1 hc.2.1 hc.2.2.2.2.1 (hG.1 _ hlink rfl args) (msame hG hsm _ hi) hst0 c1 (by rw [c2.2]; exact fun h => by cases h) (v := v) (by rw [hsl]; exact v2) rfl rfl hd ?_
  exact kk p l e s m args below meth c H locs ad0 ad ls _ hc hG hst he hR hS hB hl (by simp only [List.map_cons, v1, hk'])
/-- the word that a field's write rests on -/
theorem M_putraw {F : mFT} (hF : mFchk y.1.cls F = true) {x : Nat × Nat × List Nat × String × Nat} {k i : Nat} {w : MV} {σ' : Sto} (hx : x ∈ F) (hk : k ∈ x.2.2.1) (hp : x.2.2.2.2 = 0 ∨ (x.2.2.2.2 = 1 ∧ y.1.name = "<init>")) (hd : decode y.2.1 pc = .ok (.putfield x.1, 3))
    (hty : (mref k x.2.1 = false ∧ ∃ z, w = vi z) ∨ (mref k x.2.1 = true ∧ ∃ z, w = vq z)) (hs : sv ph σ' k i x.2.1 = w) (ho : ∀ k' i' j', ¬ (k' = k ∧ i' = i ∧ j' = x.2.1) → sv ph σ' k' i' j' = sv ph σ k' i' j') (hN : ∀ k', gN σ' k' = gN σ k')
    (kk : M ph Γ y d mc ms kc ks Q (pc + 3) L S σ') : M ph Γ y d mc ms kc ks Q pc L (w :: vq (some (k, i)) :: S) σ := by
  intro p l e s m args below meth c H locs ad0 ad ls st hc hG hst he hR hS hB hl hkk
  obtain ⟨v, st1, rfl, hv, hk1⟩ := mk_top hkk
  obtain ⟨q, st', rfl, hq, hk'⟩ := mk_r hk1
  obtain ⟨r, hr, hj, hlink, hsm, hp0, hp1⟩ := mFget hF hx hk
  obtain ⟨⟨cell, c1, c2, c3⟩, c4⟩ := hR.2.1 k i q hq
  have hk10 := mcls_lt hr
  have hjl : x.2.1 < mlen Γ.2.1 k := by rw [mlen_obj hr]; exact hj
  obtain ⟨v0, -, v2⟩ := c3 x.2.1 hjl
  have c2' := c2
  unfold mhdr at c2
  rw [if_pos hk10] at c2
  have hpl : mpl Γ k x.2.1 = Γ.2.2.2 k x.2.1 := by unfold mpl; rw [if_pos hk10]
  rw [hpl] at v2
  obtain ⟨hSl, hfc, kC, hkC, hkind⟩ := hG.2.2.1 k r hr
  obtain ⟨cf, kf, fi, f, hi, hsl⟩ := hSl x.2.1 hj
  have hst0 := (u_facts hfc hkC (u_lays (mlays hG hr args) (fun w hw => hw) hj) hi).1
  obtain ⟨ty, hpd, hty'⟩ := mty hr hj
  have hnf : narrow ty v = v ∧ fits ty v = true := by
    rcases hty with ⟨m0, z, rfl⟩ | ⟨m1, z, rfl⟩
    · cases hv
      rcases hty' with ⟨-, rfl⟩ | ⟨m2, -⟩
      · exact ⟨rfl, rfl⟩
      · rw [m0] at m2; cases m2
    · rcases hty' with ⟨m2, -⟩ | ⟨-, ⟨n, rfl⟩ | ⟨n, rfl⟩⟩
      · rw [m1] at m2; cases m2
      · rcases mk_q hv with ⟨-, rfl⟩ | ⟨a, q2, -, -, rfl⟩ <;> exact ⟨rfl, rfl⟩
      · rcases mk_q hv with ⟨-, rfl⟩ | ⟨a, q2, -, -, rfl⟩ <;> exact ⟨rfl, rfl⟩
  have hlay := mlays hG hr args _ (u_in_lay hj)
  have fin : ∀ H' : Heap, H'[q]? = some (cell.setSlot f.slot v) → H'.size = H.size → (∀ z, z ≠ q → H'[z]? = H[z]?) → W p l e (mRm d mc ms) s m args below meth c H' (locs ++ [⟨q, f.slot⟩]) kc ks (MQ below (mQ ph Γ Q ad0) args s mc ms (mA Γ)) (F0 m (pc + 3) ls st') := by
    intro H' e1 e2 e3
    rw [hsl] at e1
    exact kk p l e s m args below meth c H' _ ad0 ad ls _ hc hG hst he (hR.put hG hq c1 hjl hv hs ho hN (by rw [hpl]; exact e1) e2 e3) (hS.put e2 e3 (c4 (by omega)).1) hB hl hk'
  rcases hp with hp | ⟨hp, hini⟩
  · unfold u_lay at hlay
    rw [if_neg (by rw [hp0 hp]; decide)] at hlay
    have h6 := u_store hfc hkC hkind hlay hi hpd hnf.1 hnf.2
    exact W.putK hc.1 hc.2.1 (f := f) ⟨hc.2.2.2.2.1, hG.1 _ hlink rfl args, ⟨_, _, _, msame hG hsm _ hi⟩, hst0⟩ (by rw [c2.1]; exact h6) c1 c2.2 (by rw [hsl]; exact k2_hasslot v2) rfl rfl hd fin
  · unfold u_lay at hlay
    rw [if_pos (hp1 hp).1] at hlay
    have hcf : m.cls = cf := by
      obtain ⟨_, _, c', _, _, _, -, -, hf', -, -, -, hown2, -⟩ := Cond.laysFinal_spec hlay
      have e1 : c' = cf := by have := hi.symm.trans hf'; simp at this; exact this.1.symm
      rw [(hp1 hp).2] at hown2
      rw [← e1]; exact Option.some.inj (hc.2.2.2.2.1.symm.trans hown2)
    have h6 := u_fits hfc hkC hkind (Or.inr hlay) hi hpd hnf.1 hnf.2
    exact W.putFinK hc.1 hc.2.1 hc.2.2.2.2.1 (hG.1 _ hlink rfl args) (msame hG hsm _ hi) hst0 hcf (hc.2.2.2.2.2.2.trans hini) (by rw [c2.1]; exact h6) c1 c2.2 (by rw [hsl]; exact k2_hasslot v2) rfl rfl hd fin
theorem M_putI {F : mFT} (hF : mFchk y.1.cls F = true) {x : Nat × Nat × List Nat × String × Nat} {k i : Nat} {z : Int32} (hx : x ∈ F) (hk : k ∈ x.2.2.1) (hp : x.2.2.2.2 = 0 ∨ (x.2.2.2.2 = 1 ∧ y.1.name = "<init>")) (hm : mref k x.2.1 = false) (hd : decode y.2.1 pc = .ok (.putfield x.1, 3))
    (kk : M ph Γ y d mc ms kc ks Q (pc + 3) L S (sI σ k i x.2.1 z)) : M ph Γ y d mc ms kc ks Q pc L (vi z :: vq (some (k, i)) :: S) σ :=
  M_putraw hF hx hk hp hd (Or.inl ⟨hm, z, rfl⟩) (sv_sI hm) (fun _ _ _ h => sv_sI_ne h) (fun _ => rfl) kk
theorem M_putR {F : mFT} (hF : mFchk y.1.cls F = true) {x : Nat × Nat × List Nat × String × Nat} {k i : Nat} {z : Option MA} (hx : x ∈ F) (hk : k ∈ x.2.2.1) (hp : x.2.2.2.2 = 0 ∨ (x.2.2.2.2 = 1 ∧ y.1.name = "<init>")) (hm : mref k x.2.1 = true) (hf : ph = false ∨ mfin k i x.2.1 = none) (hd : decode y.2.1 pc = .ok (.putfield x.1, 3))
    (kk : M ph Γ y d mc ms kc ks Q (pc + 3) L S (sR σ k i x.2.1 z)) : M ph Γ y d mc ms kc ks Q pc L (vq z :: vq (some (k, i)) :: S) σ :=
  M_putraw hF hx hk hp hd (Or.inr ⟨hm, z, rfl⟩) (sv_sR hm hf) (fun _ _ _ h => sv_sR_ne h) (fun _ => rfl) kk
abbrev Ix (x : Int32) (n : Nat) : Prop := ¬ x < 0 ∧ x.toNatClampNeg < n
theorem Ix.not {x : Int32} {n : Nat} (h : Ix x n) : ¬ (x < 0 ∨ n ≤ x.toNatClampNeg) := fun z => z.elim h.1 (Nat.not_le.mpr h.2)
theorem mety_int {k : Nat} (h : mref k 0 = false) : mety k = .int := by simp [mety, h]
theorem mety_ref {k : Nat} (h : mref k 0 = true) : mety k = .object (melc k) := by simp [mety, h]
theorem M_iaload {k i : Nat} {x : Int32} (hk : 10 ≤ k) (hm : mref k 0 = false) (hx : Ix x (mlen Γ.2.1 k)) (hd : decode y.2.1 pc = .ok (.iaload, 1)) (kk : M ph Γ y d mc ms kc ks Q (pc + 1) L (vi (gI σ k i x.toNatClampNeg) :: S) σ) : M ph Γ y d mc ms kc ks Q pc L (vi x :: vq (some (k, i)) :: S) σ := by
  intro p l e s m args below meth c H locs ad0 ad ls st hc hG hst he hR hS hB hl hkk
  obtain ⟨st1, rfl, hk1⟩ := mk_i hkk
  obtain ⟨q, st', rfl, hq, hk'⟩ := mk_r hk1
  obtain ⟨⟨cell, c1, c2, c3⟩, -⟩ := hR.2.1 k i q hq
  obtain ⟨v, v1, v2⟩ := c3 x.toNatClampNeg hx.2
  unfold mhdr at c2
  rw [if_neg (by omega)] at c2
  unfold mpl at v2
  rw [if_neg (by omega)] at v2
  have hsv : sv ph σ k i x.toNatClampNeg = vi (gI σ k i x.toNatClampNeg) := by unfold sv; rw [mref_arr hk, hm]
  rw [hsv] at v1
  cases v1
  refine W.iald hc.1 hc.2.1 c1 (by rw [← mety_int hm]; exact c2.1) c2.2.1 (by rw [c2.2.2.1]; exact hx.not) v2 rfl rfl hd ?_
  exact kk p l e s m args below meth c H locs ad0 ad ls _ hc hG hst he hR hS hB hl (by simp [mv, hk'])
theorem M_iastore {k i : Nat} {x z : Int32} (hk : 10 ≤ k) (hk2 : k < 42) (hm : mref k 0 = false) (hx : Ix x (mlen Γ.2.1 k)) (hd : decode y.2.1 pc = .ok (.iastore, 1)) (kk : M ph Γ y d mc ms kc ks Q (pc + 1) L S (sI σ k i x.toNatClampNeg z)) : M ph Γ y d mc ms kc ks Q pc L (vi z :: vi x :: vq (some (k, i)) :: S) σ := by
  intro p l e s m args below meth c H locs ad0 ad ls st hc hG hst he hR hS hB hl hkk
  obtain ⟨st1, rfl, hk1⟩ := mk_i hkk
  obtain ⟨st2, rfl, hk2'⟩ := mk_i hk1
  obtain ⟨q, st', rfl, hq, hk'⟩ := mk_r hk2'
  obtain ⟨⟨cell, c1, c2, c3⟩, c4⟩ := hR.2.1 k i q hq
  unfold mhdr at c2
  rw [if_neg (by omega)] at c2
  have hpl : mpl Γ k x.toNatClampNeg = x.toNatClampNeg := by unfold mpl; rw [if_neg (by omega)]
  refine W.iast hc.1 hc.2.1 c1 (by rw [← mety_int hm]; exact c2.1) c2.2.1 (by rw [c2.2.2.1]; exact hx.not) rfl rfl hd fun H' e1 e2 e3 => ?_
  exact kk p l e s m args below meth c H' _ ad0 ad ls _ hc hG hst he (hR.put hG hq c1 hx.2 (w := vi z) rfl (sv_sI (by rw [mref_arr hk]; exact hm)) (fun _ _ _ h => sv_sI_ne h) (fun _ => rfl) (by rw [hpl]; exact e1) e2 e3) (hS.put e2 e3 (c4 hk2).1) hB hl hk'
theorem M_aaload {k i : Nat} {x : Int32} (hk : 10 ≤ k) (hm : mref k 0 = true) (hx : Ix x (mlen Γ.2.1 k)) (hd : decode y.2.1 pc = .ok (.aaload, 1)) (kk : M ph Γ y d mc ms kc ks Q (pc + 1) L (vq (mrf ph σ k i x.toNatClampNeg) :: S) σ) : M ph Γ y d mc ms kc ks Q pc L (vi x :: vq (some (k, i)) :: S) σ := by
  intro p l e s m args below meth c H locs ad0 ad ls st hc hG hst he hR hS hB hl hkk
  obtain ⟨st1, rfl, hk1⟩ := mk_i hkk
  obtain ⟨q, st', rfl, hq, hk'⟩ := mk_r hk1
  obtain ⟨⟨cell, c1, c2, c3⟩, -⟩ := hR.2.1 k i q hq
  obtain ⟨v, v1, v2⟩ := c3 x.toNatClampNeg hx.2
  unfold mhdr at c2
  rw [if_neg (by omega)] at c2
  unfold mpl at v2
  rw [if_neg (by omega)] at v2
  have hsv : sv ph σ k i x.toNatClampNeg = vq (mrf ph σ k i x.toNatClampNeg) := by unfold sv; rw [mref_arr hk, hm]
  rw [hsv] at v1
  refine W.aald (ty := .object (melc k)) hc.1 hc.2.1 c1 (by rw [← mety_ref hm]; exact c2.1) rfl c2.2.1 (by rw [c2.2.2.1]; exact hx.not) v2 rfl rfl hd ?_
  exact kk p l e s m args below meth c H locs ad0 ad ls _ hc hG hst he hR hS hB hl (by simp only [List.map_cons, v1, hk'])
theorem M_alen {k i : Nat} (hk : 10 ≤ k) (hd : decode y.2.1 pc = .ok (.arraylength, 1)) (kk : M ph Γ y d mc ms kc ks Q (pc + 1) L (vi (Int32.ofNat (mlen Γ.2.1 k)) :: S) σ) : M ph Γ y d mc ms kc ks Q pc L (vq (some (k, i)) :: S) σ := by
  intro p l e s m args below meth c H locs ad0 ad ls st hc hG hst he hR hS hB hl hkk
  obtain ⟨q, st', rfl, hq, hk'⟩ := mk_r hkk
  obtain ⟨⟨cell, c1, c2, c3⟩, -⟩ := hR.2.1 k i q hq
  unfold mhdr at c2
  rw [if_neg (by omega)] at c2
  refine W.alen (n := Int32.ofNat (mlen Γ.2.1 k)) hc.1 hc.2.1 c1 c2.1 (by rw [c2.2.2.1] <;> rfl) rfl rfl hd ?_
  exact kk p l e s m args below meth c H locs ad0 ad ls _ hc hG hst he hR hS hB hl (by simp [mv, hk'])
theorem M_ldc2 {idx : Nat} {v : Int64} (hw : Cond.constantLong y.1.cls idx v ∈ lw_tbl) (hd : decode y.2.1 pc = .ok (.ldc2_w idx, 3)) (kk : M ph Γ y d mc ms kc ks Q (pc + 3) L (vl v :: S) σ) : M ph Γ y d mc ms kc ks Q pc L S σ := by
  intro p l e s m args below meth c H locs ad0 ad ls st hc hG hst he hR hS hB hl hk
  exact lv_ldc2 hc.1 hc.2.1 hc.2.2.2.2.1 (hG.1 _ hw rfl args) hd (kk p l e s m args below meth c H locs ad0 ad ls _ hc hG hst he hR hS hB hl (by simp [mv, hk]))
theorem M_ldcw {idx : Nat} {v : Int32} (hw : Cond.constant y.1.cls idx v ∈ lw_tbl) (hd : decode y.2.1 pc = .ok (.ldc_w idx, 3)) (kk : M ph Γ y d mc ms kc ks Q (pc + 3) L (vi v :: S) σ) : M ph Γ y d mc ms kc ks Q pc L S σ := by
  intro p l e s m args below meth c H locs ad0 ad ls st hc hG hst he hR hS hB hl hk
  exact lv_ldcw hc.1 hc.2.1 hc.2.2.2.2.1 (hG.1 _ hw rfl args) hd (kk p l e s m args below meth c H locs ad0 ad ls _ hc hG hst he hR hS hB hl (by simp [mv, hk]))
theorem M_gets {k idx : Nat} {nm : String} (hk : (k, nm) ∈ mstats) (hw : Cond.fieldLink y.1.cls idx "PlatePeas" nm "[I" ∈ lw_tbl) (hd : decode y.2.1 pc = .ok (.getstatic idx, 3)) (kk : M ph Γ y d mc ms kc ks Q (pc + 3) L (vq (some (k, 0)) :: S) σ) : M ph Γ y d mc ms kc ks Q pc L S σ := by
  intro p l e s m args below meth c H locs ad0 ad ls st hc hG hst he hR hS hB hl hkk
  obtain ⟨q, h1, h2⟩ := hst _ hk
  exact va_gets hc.1 hc.2.1 h2 hS hc.2.2.2.2.1 (hG.1 _ hw rfl args) (fun _ h => h) hd (kk p l e s m args below meth c H locs ad0 ad ls _ hc hG hst he hR hS hB hl (by simp [mv, he _ _ h1, hkk]))
theorem M_getsN {k idx : Nat} {nm host : String} (hk : (k, nm) ∈ mstats) (hw : Cond.fieldLinkNest y.1.cls idx "PlatePeas" nm "[I" host ∈ lw_tbl) (hd : decode y.2.1 pc = .ok (.getstatic idx, 3)) (kk : M ph Γ y d mc ms kc ks Q (pc + 3) L (vq (some (k, 0)) :: S) σ) : M ph Γ y d mc ms kc ks Q pc L S σ := by
  intro p l e s m args below meth c H locs ad0 ad ls st hc hG hst he hR hS hB hl hkk
  obtain ⟨q, h1, h2⟩ := hst _ hk
  exact va_getsN hc.1 hc.2.1 h2 hS hc.2.2.2.2.1 (va_Nw.use rfl (hG.2.1 _ hw rfl)) (fun _ h => h) hd (kk p l e s m args below meth c H locs ad0 ad ls _ hc hG hst he hR hS hB hl (by simp [mv, he _ _ h1, hkk]))
end Heap1
end
section
/-! CALLS: a method's entry, and the ways a method is called -/
def mLa : List MV → List (Option MV)
  | [] => []
  | v :: vs => match mcat v with
    | 2 => some v :: none :: mLa vs
    | _ => some v :: mLa vs
theorem mcat_12 (v : MV) : mcat v = 1 ∨ mcat v = 2 := by
  rcases v with x | x | x
  · exact Or.inl rfl
  · exact Or.inr rfl
  · exact Or.inl rfl
theorem mLa_cons1 {v : MV} {vs : List MV} (h : mcat v = 1) : mLa (v :: vs) = some v :: mLa vs := by simp [mLa, h]
theorem mLa_cons2 {v : MV} {vs : List MV} (h : mcat v = 2) : mLa (v :: vs) = some v :: none :: mLa vs := by simp [mLa, h]
theorem mLa_ok {ad : MA → Option Nat} : ∀ {as : List MV} {ras : List Value}, as.map (mv ad) = ras.map some → (mLa as).length = (lg_sl ras).length ∧ ∀ (off k : Nat) (v : MV), (mLa as)[k]? = some (some v) → ∃ rv, mv ad v = some rv ∧ (off + k, rv) ∈ lv_args off ras
  | [], [], _ => ⟨rfl, fun off k v h => by simp [mLa] at h⟩
  | [], _ :: _, h => by simp at h
  | _ :: _, [], h => by simp at h
  | a :: as, r :: ras, h => by
    simp only [List.map_cons, List.cons.injEq] at h
    obtain ⟨ih1, ih2⟩ := mLa_ok h.2
    have hc := mv_cat1 h.1
    rcases mcat_12 a with e | e
    · have e' : ¬ r.category = 2 := by rw [hc, e]; decide
      rw [mLa_cons1 e]
      refine ⟨by simp only [List.length_cons, ih1, lg_sl, List.flatMap_cons, if_neg e', List.length_append, List.length_nil]; omega, fun off k v hk => ?_⟩
      cases k with
      | zero =>
        simp only [List.getElem?_cons_zero, Option.some.injEq] at hk
        subst hk
        exact ⟨r, h.1, List.mem_cons_self⟩
      | succ k =>
        rw [List.getElem?_cons_succ] at hk
        obtain ⟨rv, g1, g2⟩ := ih2 (off + 1) k v hk
        refine ⟨rv, g1, List.mem_cons_of_mem _ ?_⟩
        rw [if_neg e', show off + (k + 1) = off + 1 + k by omega]
        exact g2
    · have e' : r.category = 2 := by rw [hc, e]
      rw [mLa_cons2 e]
      refine ⟨by simp only [List.length_cons, ih1, lg_sl, List.flatMap_cons, if_pos e', List.length_append, List.length_nil]; omega, fun off k v hk => ?_⟩
      cases k with
      | zero =>
        simp only [List.getElem?_cons_zero, Option.some.injEq] at hk
        subst hk
        exact ⟨r, h.1, List.mem_cons_self⟩
      | succ k =>
        cases k with
        | zero => simp at hk
        | succ k =>
          rw [List.getElem?_cons_succ, List.getElem?_cons_succ] at hk
          obtain ⟨rv, g1, g2⟩ := ih2 (off + 2) k v hk
          refine ⟨rv, g1, List.mem_cons_of_mem _ ?_⟩
          rw [if_pos e', show off + (k + 1 + 1) = off + 2 + k by omega]
          exact g2
/-- the locals at a method's entry -/
def mL0 (as : List MV) (n : Nat) : List (Option MV) := mLa as ++ List.replicate (n - (mLa as).length) none
theorem Ct_intro {ph : Bool} {Γ : GG} {y : Mth} {d mc ms : Nat} {Q : Option MV → Sto → Prop} {as : List MV} {σ : Sto} (hpl : plainName y.1.cls = true) (hn : Nat.ble (mLa as).length y.2.2.1 = true) (h : M ph Γ y d mc ms 0 0 Q 0 (mL0 as y.2.2.1) [] σ) : Ct ph Γ y d mc ms as σ Q := by
  intro l ad ras hras
  have hn' : (mLa as).length ≤ y.2.2.1 := Nat.le_of_ble_eq_true hn
  refine Met.ofW (cc := y.2.1) (maxL := y.2.2.1) (ret := y.2.2.2) hpl rfl ?_
  intro p e s m args below meth c s₁ B hml hv
  obtain ⟨rfl, hG, hst, hR⟩ := hv
  obtain ⟨q1, q2⟩ := mLa_ok hras
  have hl := lv_entry ras (n := y.2.2.1) (by rw [← q1]; exact hn')
  rw [lg_entry_eq]
  refine h p l e s m _ below meth c s.heap [] ad ad _ [] ⟨B.exec, B.bytes, B.returns, hml, findClass_of_methodNamed B.named, B.notSynchronized, (name_of_methodNamed B.named B.method).1⟩ hG hst (fun _ _ h => h) hR va_S.rf hR.2.2 ⟨⟨hl.1, ?_⟩, hl.2.1, fun k v hk => ?_⟩ rfl
  · simp only [mL0, List.length_append, List.length_replicate]; omega
  · unfold mL0 at hk
    rcases Nat.lt_or_ge k (mLa as).length with hlt | hge
    · rw [List.getElem?_append_left hlt] at hk
      obtain ⟨rv, g1, g2⟩ := q2 0 k v hk
      exact ⟨rv, g1, by simpa using hl.2.2 _ g2⟩
    · rw [List.getElem?_append_right hge] at hk
      have := List.mem_of_getElem? hk
      simp at this
/-- how a call site runs the method y' (C: the receiver's class, or nothing) -/
def mRun (y : Mth) (pc : Nat) (y' : Mth) (C : String) (np : Nat) : Prop := ∀ (Γ : GG) (d mc ms kc ks d' mc' ms' : Nat) (p : Program) (l : Launch) (e : Env) (s : State) (m : MethodId) (args : Array Value) (below : List Frame) (meth : Method) (c : Code) (H : Heap) (locs : List Loc) (ls : Array Slot) (ras rest : List Value)
  (Pc : Array Value → State → Prop) (Qc : Array Value → State → Outcome → State → Prop) (free : Addr → Prop), mctx y p s m meth c → mG Γ s → Met l y'.1 [mcode y'] (mRm d' mc' ms') Pc Qc mc' ms' free → FrameBlind Pc → (∀ U : State, U.heap = H → s.WarmedH U.vm → Pc ras.toArray U) →
  (C = "" ∨ ∃ (b : Nat) (cellB : Cell) (cC : ClassId), ras.head? = some (.ref b) ∧ H[b]? = some cellB ∧ cellB.vm.isStatics = false ∧ s.vm.findClass C = some cellB.cls ∧ ClassAt s C cC) → d' + 1 ≤ d → ras.length = np → ls.size = y.2.2.1 → (rest.map fun v => v.category).sum ≤ 8 → kc + mc' ≤ mc → ks + ms' ≤ ms →
  va_Run p l e (mRm d mc ms) s m args below meth c H locs kc ks mc' ms' (F0 m pc ls (ras.reverse ++ rest)) rest (Qc ras.toArray) free
theorem mP_blind {ph : Bool} {Γ : GG} {ad : MA → Option Nat} {σ : Sto} {ras : List Value} : FrameBlind (mP ph Γ ad σ ras) := by
  intro a U g mk h
  obtain ⟨h1, h2, h3, h4⟩ := h
  have hal : U.vm.Alike (U.calling g mk a).vm := Vm.Alike.refl U.vm
  refine ⟨h1, ?_, h3.warm hal, h4.warm hal⟩
  obtain ⟨a1, a2, a3, ⟨b1, b2, b3⟩, ⟨c1, c2, c3⟩, ⟨d1, d2, d3⟩⟩ := h2
  have hvm : U.vm = (U.calling g mk a).vm := rfl
  refine ⟨fun w hw hg z => ?_, fun w hw hn => ?_, fun c q hq => u_Kn_moved hal (a3 c q hq), ⟨b1.moved hal, b2.moved hal, b3.moved hal⟩, ⟨va_Nw.same rfl hvm c1, va_Nw.same rfl hvm c2, va_Nw.same rfl hvm c3⟩, ⟨d1.moved hal, d2.moved hal, d3.moved hal⟩⟩
  · have h := a1 w hw hg z
    rcases good_of_word hg with hg' | ⟨ty, rfl⟩
    · simp only [Bool.and_eq_true] at hg'
      exact va_tabs hg'.1 hvm h
    · exact h
  · have h := a2 w hw hn
    cases w <;> first | (simp [nestW] at hn; done) | exact va_Nw.same rfl hvm h
section Calls1
variable {ph : Bool} {Γ : GG} {y : Mth} {d mc ms kc ks : Nat} {Q : Option MV → Sto → Prop} {pc : Nat} {L : List (Option MV)} {S : List MV} {σ : Sto}
/-- the receiver's kind and its class -/
def mrecv (C : String) (as : List MV) : Bool := decide (C = "") || (match as with
  | .inr (.inr (some (k, _))) :: _ => (match vwCl[k]? with | some q => decide (q.1 = C) | none => false)
  | _ => false)
theorem mcatS {ad : MA → Option Nat} : ∀ {S : List MV} {st : List Value}, S.map (mv ad) = st.map some → (st.map fun v => v.category).sum = (S.map mcat).sum
  | [], [], _ => rfl
  | [], _ :: _, h => by simp at h
  | _ :: _, [], h => by simp at h
  | v :: S, r :: st, h => by
    simp only [List.map_cons, List.cons.injEq] at h
    simp only [List.map_cons, List.sum_cons, mv_cat1 h.1, mcatS h.2]
theorem mapp_split {ad : MA → Option Nat} : ∀ {A B : List MV} {st : List Value}, (A ++ B).map (mv ad) = st.map some → ∃ a b, st = a ++ b ∧ A.map (mv ad) = a.map some ∧ B.map (mv ad) = b.map some
  | [], B, st, h => ⟨[], st, rfl, rfl, h⟩
  | v :: A, B, [], h => by simp at h
  | v :: A, B, r :: st, h => by
    simp only [List.cons_append, List.map_cons, List.cons.injEq] at h
    obtain ⟨a, b, rfl, h1, h2⟩ := mapp_split h.2
    exact ⟨r :: a, b, rfl, by simp only [List.map_cons, h.1, h1], h2⟩
theorem M_call {y' : Mth} {C : String} {np d' mc' ms' : Nat} {Q' : Option MV → Sto → Prop} {as rest : List MV} (hrun : mRun y pc y' C np) (hC : Ct ph Γ y' d' mc' ms' as σ Q') (hS : S = as.reverse ++ rest) (hlen : as.length = np) (hrec : mrecv C as = true) (hcat : (rest.map mcat).sum ≤ 8) (hd : d' + 1 ≤ d) (hkc : kc + mc' ≤ mc) (hks : ks + ms' ≤ ms)
    (kk : ∀ v σ', Q' v σ' → M ph Γ y d mc ms (kc + mc') (ks + ms') Q (pc + 3) L (v.toList ++ rest) σ') : M ph Γ y d mc ms kc ks Q pc L S σ := by
  subst hS
  intro p l e s m args below meth c H locs ad0 ad ls st hc hG hst he hR hS hB hl hk
  obtain ⟨ra, rrest, rfl, hra, hrr⟩ := mapp_split hk
  have hras : as.map (mv ad) = ra.reverse.map some := by
    have h := congrArg List.reverse hra
    simpa only [← List.map_reverse, List.reverse_reverse] using h
  have hk1 : ∀ q, q < Γ.1 → H[q]? = s.heap[q]? := fun q hq => hS.2.1 q (Nat.lt_of_lt_of_le hq hB) (Nat.not_le.mpr hq)
  have hrc : C = "" ∨ ∃ (b : Nat) (cellB : Cell) (cC : ClassId), ra.reverse.head? = some (.ref b) ∧ H[b]? = some cellB ∧ cellB.vm.isStatics = false ∧ s.vm.findClass C = some cellB.cls ∧ ClassAt s C cC := by
    simp only [mrecv, Bool.or_eq_true, decide_eq_true_eq] at hrec
    rcases hrec with h | h
    · exact Or.inl h
    · right
      split at h
      · rename_i k i tl
        cases hq : vwCl[k]? with
        | none => rw [hq] at h; cases h
        | some q =>
          rw [hq] at h
          simp only [decide_eq_true_eq] at h
          cases hrr2 : ra.reverse with
          | nil => rw [hrr2] at hras; simp at hras
          | cons r0 rt =>
            rw [hrr2] at hras
            simp only [List.map_cons, List.cons.injEq] at hras
            rcases mk_q hras.1 with ⟨e0, -⟩ | ⟨a, b, e0, hb, rfl⟩
            · cases e0
            · cases e0
              obtain ⟨⟨cell, c1, c2, -⟩, -⟩ := hR.2.1 k i b hb
              unfold mhdr at c2
              rw [if_pos (mcls_lt hq)] at c2
              have hkn := hG.2.2.1 k q hq
              exact ⟨b, cell, _, rfl, c1, by rw [c2.2]; rfl, by rw [← h, c2.1]; exact hkn.2.1, by rw [← h]; exact hkn.2⟩
      · cases h
  have hr := hrun Γ d mc ms kc ks d' mc' ms' p l e s m args below meth c H locs ls ra.reverse rrest (mP ph Γ ad σ ra.reverse) (mQ ph Γ Q' ad) (mA Γ) hc hG (hC l ad _ hras) mP_blind
    (fun U hU hW => ⟨rfl, hG.warm hW, ((hst.warm hW.alike).ext he).kept (by rw [hU]; exact hk1), by rw [hU]; exact hR.warm hW.alike⟩) hrc hd
    (by rw [← hlen, ← List.length_map (f := mv ad), hras, List.length_map]) hl.1.1 (by rw [mcatS hrr]; exact hcat) hkc hks
  rw [List.reverse_reverse] at hr
  intro T hT X
  obtain ⟨v, st₀, t, T', L', h0, X', hL', e1, e2, ⟨mvv, rv, σ', ad', hv, hm, hQ', hext, hR', hz, hfr⟩, stp⟩ := hr T hT X
  cases hv
  rw [h0] at hz hfr
  have hS' : va_S (mA Γ) s.heap t.heap (locs ++ L') := by
    refine ⟨Nat.le_trans hS.1 hz, fun q h1 h2 => ?_, fun q hq => ?_⟩
    · rw [hfr q (Nat.not_le.mp h2)]; exact hS.2.1 q h1 h2
    · rcases List.mem_append.mp hq with h | h
      · exact hS.2.2 q h
      · exact hL' q h
  have hal : t.vm.Alike s.vm := by rw [← e2]; exact X'.warmed.alike.symm
  obtain ⟨t2, a1, b1⟩ := kk mvv σ' hQ' p l e s m args below meth c t.heap (locs ++ L') ad0 ad' ls (v.toList ++ rrest) hc hG hst (fun a q h => hext a q (he a q h)) (hR'.warm hal) hS' hB (hl.ext hext) (by
    cases mvv with
    | none => cases v with
      | none => exact mv_exts hext hrr
      | some _ => simp at hm
    | some w => cases v with
      | none => simp at hm
      | some r =>
        simp only [Option.map_some, Option.some.injEq] at hm
        simp only [Option.toList, List.cons_append, List.nil_append, List.map_cons, hm, mv_exts hext hrr]) T' e1 X'
  exact ⟨t2, stp t2 a1, b1⟩
end Calls1
/-! the flavours -/
def mlensig (y : MethodName) (n : Nat) : Bool := decide ((parseMethodDescriptor y.desc).map (fun d => d.parameters.length) = some n)
theorem mlensig_spec {y : MethodName} {n : Nat} (h : mlensig y n = true) : ∀ sig, parseMethodDescriptor y.desc = some sig → n = sig.parameters.length := by
  intro sig hs
  have h2 := of_decide_eq_true h
  rw [hs] at h2
  exact (Option.some.inj h2).symm
def mnoMH (c : String) : Bool := decide (c ≠ "java/lang/invoke/MethodHandle") && decide (c ≠ "java/lang/invoke/VarHandle")
theorem mnoMH_spec {c : String} (h : mnoMH c = true) : c ≠ "java/lang/invoke/MethodHandle" ∧ c ≠ "java/lang/invoke/VarHandle" := by
  simpa [mnoMH] using h
theorem mws {Γ : GG} {s : State} (hG : mG Γ s) {y' : Mth} (hw : mcode y' ∈ lw_tbl) : ∀ w ∈ [mcode y'], ∀ (a' : Array Value) (U : State), s.WarmedH U.vm → w.before a' U = true := by
  intro w h a' U hW
  rw [List.mem_singleton.mp h]
  exact (hG.warm hW).1 _ hw rfl a'
theorem run_S {y y' : Mth} {pc idx np : Nat} (hd : decode y.2.1 pc = .ok (.invokestatic idx, 3)) (h1 : Cond.methodLink y.1.cls idx y'.1 ∈ lw_tbl) (h2 : Cond.static y'.1 ∈ lw_tbl) (h3 : Cond.initialized y'.1.cls ∈ lw_tbl) (h4 : mcode y' ∈ lw_tbl) (h5 : mlensig y'.1 np = true) (h6 : mnoMH y'.1.cls = true) (h7 : y'.2.2.1 ≤ 45) : mRun y pc y' "" np := by
  intro Γ d mc ms kc ks d' mc' ms' p l e s m args below meth c H locs ls ras rest Pc Qc free hc hG hM hbl hPc hrec hdd hlen hls hcat hkc hks
  exact va_runS (Ts := []) ⟨hc.1, hc.2.1, hc.2.2.2.1, hc.2.2.2.2.1, fun w h => by cases h⟩ hM ⟨⟨rfl, rfl, hdd, by show 8 + (y'.2.2.1 + 11) + 64 * d' ≤ 64 * d; omega, mws hG h4, List.mem_singleton.mpr rfl, hG.1 _ h4 rfl args, hG.1 _ h3 rfl args, mnoMH_spec h6, mlensig_spec h5, hG.1 _ h1 rfl args⟩, hG.1 _ h2 rfl args⟩ ⟨hbl, hPc⟩ rfl hlen hls rfl (by show 2 * 0 + _ ≤ 8; omega) hd ⟨hkc, hks⟩
theorem run_SN {y y' : Mth} {pc idx np : Nat} {host : String} (hd : decode y.2.1 pc = .ok (.invokestatic idx, 3)) (h1 : Cond.methodLinkNest y.1.cls idx y'.1 host ∈ lw_tbl) (h2 : Cond.static y'.1 ∈ lw_tbl) (h3 : Cond.initialized y'.1.cls ∈ lw_tbl) (h4 : mcode y' ∈ lw_tbl) (h5 : mlensig y'.1 np = true) (h6 : mnoMH y'.1.cls = true) (h7 : y'.2.2.1 ≤ 45) : mRun y pc y' "" np := by
  intro Γ d mc ms kc ks d' mc' ms' p l e s m args below meth c H locs ls ras rest Pc Qc free hc hG hM hbl hPc hrec hdd hlen hls hcat hkc hks
  exact va_runSN (Ts := []) ⟨hc.1, hc.2.1, hc.2.2.2.1, hc.2.2.2.2.1, fun w h => by cases h⟩ hM ⟨⟨⟨rfl, rfl, hdd, by show 8 + (y'.2.2.1 + 11) + 64 * d' ≤ 64 * d; omega, mws hG h4, List.mem_singleton.mpr rfl⟩, hG.1 _ h4 rfl args, hG.1 _ h3 rfl args, mnoMH_spec h6, mlensig_spec h5, va_Nw.use rfl (hG.2.1 _ h1 rfl)⟩, hG.1 _ h2 rfl args, trivial⟩ ⟨hbl, hPc⟩ rfl hlen hls rfl (by show 2 * 0 + _ ≤ 8; omega) hd ⟨hkc, hks⟩
theorem ras_cons {ras : List Value} {b : Nat} (h : ras.head? = some (.ref b)) : ∃ As, ras = .ref b :: As := by
  cases ras with
  | nil => cases h
  | cons r As => simp only [List.head?_cons, Option.some.injEq] at h; exact ⟨As, by rw [h]⟩
theorem run_V {y y' : Mth} {pc idx np : Nat} {C : String} (hd : decode y.2.1 pc = .ok (.invokevirtual idx, 3)) (hC : C ≠ "") (h1 : Cond.methodLink y.1.cls idx y'.1 ∈ lw_tbl) (h2 : Cond.instanceMethod y'.1 ∈ lw_tbl) (h2s : Cond.selects C y'.1 y'.1 ∈ lw_tbl) (h3 : Cond.initialized y'.1.cls ∈ lw_tbl) (h4 : mcode y' ∈ lw_tbl) (h5 : mlensig y'.1 np = true) (h6 : mnoMH y'.1.cls = true) (h7 : y'.2.2.1 ≤ 45) : mRun y pc y' C (np + 1) := by
  intro Γ d mc ms kc ks d' mc' ms' p l e s m args below meth c H locs ls ras rest Pc Qc free hc hG hM hbl hPc hrec hdd hlen hls hcat hkc hks
  obtain ⟨b, cellB, cC, r1, r2, r3, r4, r5⟩ := hrec.resolve_left hC
  obtain ⟨As, rfl⟩ := ras_cons r1
  exact va_runV (Ts := []) (As := As) ⟨hc.1, hc.2.1, hc.2.2.2.1, hc.2.2.2.2.1, fun w h => by cases h⟩ hM ⟨⟨rfl, rfl, hdd, by show 8 + (y'.2.2.1 + 11) + 64 * d' ≤ 64 * d; omega, mws hG h4, List.mem_singleton.mpr rfl, hG.1 _ h4 rfl args, hG.1 _ h3 rfl args, mnoMH_spec h6, mlensig_spec h5, hG.1 _ h1 rfl args⟩, hG.1 _ h2 rfl args, hG.1 _ h2s rfl args⟩ ⟨hbl, ⟨cellB, r2, r3, r4⟩, hPc⟩ rfl (by simpa using hlen) hls (by simp) (by show 2 * 0 + _ ≤ 8; omega) hd ⟨hkc, hks⟩
theorem run_U {y y' : Mth} {pc idx np : Nat} {C owner : String} {xm : MethodName} {b0 : ByteArray} {m0 : Nat} {r0 : Option FieldType} (hd : decode y.2.1 pc = .ok (.invokevirtual idx, 3)) (hC : C ≠ "") (h1 : Cond.methodLink y.1.cls idx xm ∈ lw_tbl) (hsm : Cond.sameMethod xm.cls owner xm.name xm.desc ∈ lw_tbl) (hi0 : Cond.instanceMethod ⟨owner, xm.name, xm.desc⟩ ∈ lw_tbl) (hc0 : Cond.code ⟨owner, xm.name, xm.desc⟩ b0 m0 r0 ∈ lw_tbl) (h2 : Cond.instanceMethod y'.1 ∈ lw_tbl) (h2s : Cond.selects C xm y'.1 ∈ lw_tbl) (h3 : Cond.initialized y'.1.cls ∈ lw_tbl) (h4 : mcode y' ∈ lw_tbl) (h5 : mlensig xm np = true) (h6 : mnoMH owner = true) (h7 : y'.2.2.1 ≤ 45) : mRun y pc y' C (np + 1) := by
  intro Γ d mc ms kc ks d' mc' ms' p l e s m args below meth c H locs ls ras rest Pc Qc free hc hG hM hbl hPc hrec hdd hlen hls hcat hkc hks
  obtain ⟨b, cellB, cC, r1, r2, r3, r4, r5⟩ := hrec.resolve_left hC
  obtain ⟨As, rfl⟩ := ras_cons r1
  exact va_runU (Ts := []) (As := As) ⟨hc.1, hc.2.1, hc.2.2.2.1, hc.2.2.2.2.1, fun w h => by cases h⟩ hM ⟨⟨rfl, rfl, hdd, by show 8 + (y'.2.2.1 + 11) + 64 * d' ≤ 64 * d; omega, mws hG h4, List.mem_singleton.mpr rfl⟩, hG.1 _ h4 rfl args, hG.1 _ h3 rfl args, mnoMH_spec h6, mlensig_spec h5, hG.1 _ h1 rfl args, hG.1 _ hsm rfl args, va_Decl.of (hG.1 _ hi0 rfl args) (hG.1 _ hc0 rfl args), hG.1 _ h2s rfl args, hG.1 _ h2 rfl args⟩ ⟨hbl, ⟨cellB, r2, r3, r4⟩, hPc⟩ rfl (by simpa using hlen) hls (by simp) (by show 2 * 0 + _ ≤ 8; omega) hd ⟨hkc, hks⟩
theorem run_SU {y y' : Mth} {pc idx np : Nat} {C : String} (hd : decode y.2.1 pc = .ok (.invokespecial idx, 3)) (hC : C ≠ "") (h1 : Cond.methodLink y.1.cls idx y'.1 ∈ lw_tbl) (hsm : Cond.sameMethod y'.1.cls y'.1.cls y'.1.name y'.1.desc ∈ lw_tbl) (hsup : Cond.superclass y.1.cls y'.1.cls ∈ lw_tbl) (h2 : Cond.instanceMethod y'.1 ∈ lw_tbl) (h3 : Cond.initialized y'.1.cls ∈ lw_tbl) (h4 : mcode y' ∈ lw_tbl) (h5 : mlensig y'.1 np = true) (h6 : y'.1.name ≠ "<init>") (h7 : y'.2.2.1 ≤ 45) : mRun y pc y' C (np + 1) := by
  intro Γ d mc ms kc ks d' mc' ms' p l e s m args below meth c H locs ls ras rest Pc Qc free hc hG hM hbl hPc hrec hdd hlen hls hcat hkc hks
  obtain ⟨b, cellB, cC, r1, r2, r3, r4, r5⟩ := hrec.resolve_left hC
  obtain ⟨As, rfl⟩ := ras_cons r1
  exact va_runSU (Ts := []) (As := As) r5 ⟨hc.1, hc.2.1, hc.2.2.2.1, hc.2.2.2.2.1, fun w h => by cases h⟩ hM ⟨⟨rfl, rfl, hdd, by show 8 + (y'.2.2.1 + 11) + 64 * d' ≤ 64 * d; omega, mws hG h4, List.mem_singleton.mpr rfl⟩, hG.1 _ h1 rfl args, hG.1 _ hsm rfl args, hG.1 _ hsup rfl args, hG.1 _ h2 rfl args, hG.1 _ h3 rfl args, hG.1 _ h4 rfl args, h6, mlensig_spec h5⟩ ⟨hbl, ⟨cellB, r2, r3, r4⟩, hPc⟩ rfl (by simpa using hlen) hls (by simp) (by show 2 * 0 + _ ≤ 8; omega) hd ⟨hkc, hks⟩
theorem run_I {y y' : Mth} {pc idx np : Nat} {C : String} (hd : decode y.2.1 pc = .ok (.invokespecial idx, 3)) (hC : C ≠ "") (hret : y'.2.2.2 = none) (hy : y'.1.name = "<init>") (h1 : Cond.methodLink y.1.cls idx y'.1 ∈ lw_tbl) (h2 : Cond.instanceMethod y'.1 ∈ lw_tbl) (h3 : Cond.initialized y'.1.cls ∈ lw_tbl) (h4 : mcode y' ∈ lw_tbl) (h5 : mlensig y'.1 np = true) (h6 : mnoMH y'.1.cls = true) (h7 : y'.2.2.1 ≤ 45) : mRun y pc y' C (np + 1) := by
  intro Γ d mc ms kc ks d' mc' ms' p l e s m args below meth c H locs ls ras rest Pc Qc free hc hG hM hbl hPc hrec hdd hlen hls hcat hkc hks
  obtain ⟨b, cellB, cC, r1, r2, r3, r4, r5⟩ := hrec.resolve_left hC
  obtain ⟨As, rfl⟩ := ras_cons r1
  obtain ⟨n', c', l', rt'⟩ := y'
  dsimp only at hret; subst hret
  exact va_runI (Ts := []) (As := As) ⟨hc.1, hc.2.1, hc.2.2.2.1, hc.2.2.2.2.1, fun w h => by cases h⟩ hM ⟨⟨rfl, rfl, hdd, by show 8 + (l' + 11) + 64 * d' ≤ 64 * d; dsimp only at h7; omega, mws hG h4, List.mem_singleton.mpr rfl, hG.1 _ h4 rfl args, hG.1 _ h3 rfl args, mnoMH_spec h6, mlensig_spec h5, hG.1 _ h1 rfl args⟩, hy, hG.1 _ h2 rfl args⟩ ⟨hbl, hPc⟩ rfl (by simpa using hlen) hls (by simp) (by show 2 * 0 + _ ≤ 8; omega) hd ⟨hkc, hks⟩
theorem run_IN {y y' : Mth} {pc idx np : Nat} {C host : String} (hd : decode y.2.1 pc = .ok (.invokespecial idx, 3)) (hC : C ≠ "") (hret : y'.2.2.2 = none) (hy : y'.1.name = "<init>") (h1 : Cond.methodLinkNest y.1.cls idx y'.1 host ∈ lw_tbl) (h2 : Cond.instanceMethod y'.1 ∈ lw_tbl) (h3 : Cond.initialized y'.1.cls ∈ lw_tbl) (h4 : mcode y' ∈ lw_tbl) (h5 : mlensig y'.1 np = true) (h6 : mnoMH y'.1.cls = true) (h7 : y'.2.2.1 ≤ 45) : mRun y pc y' C (np + 1) := by
  intro Γ d mc ms kc ks d' mc' ms' p l e s m args below meth c H locs ls ras rest Pc Qc free hc hG hM hbl hPc hrec hdd hlen hls hcat hkc hks
  obtain ⟨b, cellB, cC, r1, r2, r3, r4, r5⟩ := hrec.resolve_left hC
  obtain ⟨As, rfl⟩ := ras_cons r1
  obtain ⟨n', c', l', rt'⟩ := y'
  dsimp only at hret; subst hret
  exact va_runIN (Ts := []) (As := As) ⟨hc.1, hc.2.1, hc.2.2.2.1, hc.2.2.2.2.1, fun w h => by cases h⟩ hM ⟨⟨⟨rfl, rfl, hdd, by show 8 + (l' + 11) + 64 * d' ≤ 64 * d; dsimp only at h7; omega, mws hG h4, List.mem_singleton.mpr rfl⟩, hG.1 _ h4 rfl args, hG.1 _ h3 rfl args, mnoMH_spec h6, mlensig_spec h5, va_Nw.use rfl (hG.2.1 _ h1 rfl)⟩, hy, hG.1 _ h2 rfl args⟩ ⟨hbl, hPc⟩ rfl (by simpa using hlen) hls (by simp) (by show 2 * 0 + _ ≤ 8; omega) hd ⟨hkc, hks⟩
end
section
/-! NEW CELLS, references stored, instanceof, the JDK's own calls -/
theorem gN_sN_self (σ : Sto) (k : Nat) : gN (sN σ k) k = gN σ k + 1 := by simp [gN, sN]
theorem gN_sN_ne (σ : Sto) {k k' : Nat} (h : k' ≠ k) : gN (sN σ k) k' = gN σ k' := by simp [gN, sN, h]
theorem sv_sN_ne {ph : Bool} {σ : Sto} {k k' i' j' : Nat} (h : ¬ (k' = k ∧ i' = gN σ k)) : sv ph (sN σ k) k' i' j' = sv ph σ k' i' j' := by
  unfold sv
  have h' : ¬ (k' = k ∧ i' = σ.2.2 k) := h
  split
  · congr 1
    unfold mrf
    cases ph <;> simp [gR, sN, h']
  · simp [gI, sN, h']
/-- no reference of that kind is known ahead -/
def mplain (ph : Bool) (k : Nat) : Prop := ph = false ∨ ∀ j, mref k j = false
theorem sv_sN {ph : Bool} {σ : Sto} {k j : Nat} (h : mplain ph k) : sv ph (sN σ k) k (gN σ k) j = match mref k j with | true => vq none | false => vi 0 := by
  unfold sv
  cases hm : mref k j with
  | true =>
    rcases h with rfl | h
    · simp [mrf, gR, sN, gN]
    · rw [h j] at hm; cases hm
  | false => simp [gI, sN, gN]
theorem Rep.new {ph : Bool} {Γ : GG} {s : State} {ad : MA → Option Nat} {σ : Sto} {H H' : Heap} {k : Nat} {cell : Cell} (h : Rep ph Γ s ad σ H) (hk : k < 42) (e1 : H'[H.size]? = some cell) (e2 : H'.size = H.size + 1) (e3 : ∀ q, q < H.size → H'[q]? = H[q]?) (hh : mhdr Γ s k cell)
    (hp : mplain ph k) (hsl : ∀ j, j < mlen Γ.2.1 k → cell.slots[mpl Γ k j]? = some (match mref k j with | true => .null | false => .int 0)) :
    ∃ ad', ad' (k, gN σ k) = some H.size ∧ (∀ a q, ad a = some q → ad' a = some q) ∧ Rep ph Γ s ad' (sN σ k) H' := by
  have hfresh : ad (k, gN σ k) = none := by
    cases hq : ad (k, gN σ k) with
    | none => rfl
    | some q => exact absurd ((h.2.1 _ _ _ hq).2 hk).2 (Nat.lt_irrefl _)
  have hold : ∀ a q, ad a = some q → q < H.size := fun a q hq => by
    obtain ⟨⟨c0, c1, -⟩, -⟩ := h.2.1 a.1 a.2 q hq
    exact (Array.getElem?_eq_some_iff.mp c1).1
  have hext : ∀ a q, ad a = some q → (fun a => if a = (k, gN σ k) then some H.size else ad a) a = some q := fun a q hq => by
    have hne : a ≠ (k, gN σ k) := fun z => by rw [z, hfresh] at hq; cases hq
    simp only [if_neg hne, hq]
  refine ⟨fun a => if a = (k, gN σ k) then some H.size else ad a, by simp, hext, fun a b q ha hb => ?_, fun k' i' q hq => ?_, by rw [e2]; exact Nat.le_trans h.2.2 (Nat.le_succ _)⟩
  · by_cases ea : a = (k, gN σ k) <;> by_cases eb : b = (k, gN σ k)
    · rw [ea, eb]
    · simp only [if_pos ea, if_neg eb, Option.some.injEq] at ha hb
      exact absurd (hold _ _ hb) (by omega)
    · simp only [if_neg ea, if_pos eb, Option.some.injEq] at ha hb
      exact absurd (hold _ _ ha) (by omega)
    · simp only [if_neg ea, if_neg eb] at ha hb
      exact h.1 a b q ha hb
  · by_cases ea : (k', i') = (k, gN σ k)
    · simp only [if_pos ea, Option.some.injEq] at hq
      simp only [Prod.mk.injEq] at ea
      obtain ⟨rfl, rfl⟩ := ea
      subst hq
      refine ⟨⟨cell, e1, hh, fun j hj => ⟨_, ?_, hsl j hj⟩⟩, fun _ => ⟨h.2.2, by rw [gN_sN_self]; exact Nat.lt_succ_self _⟩⟩
      rw [sv_sN hp]
      cases mref k' j <;> rfl
    · simp only [if_neg ea] at hq
      obtain ⟨⟨c0, c1, c2, c3⟩, c4⟩ := h.2.1 k' i' q hq
      have hne : ¬ (k' = k ∧ i' = gN σ k) := fun z => ea (by rw [z.1, z.2])
      refine ⟨⟨c0, (e3 q (hold _ _ hq)).trans c1, c2, fun j hj => ?_⟩, fun hk' => ⟨(c4 hk').1, ?_⟩⟩
      · obtain ⟨v, v1, v2⟩ := c3 j hj
        exact ⟨v, by rw [sv_sN_ne hne]; exact mv_ext hext v1, v2⟩
      · have := (c4 hk').2
        by_cases hkk : k' = k
        · subst hkk; rw [gN_sN_self]; omega
        · rw [gN_sN_ne _ hkk]; exact this
theorem va_S.grow {A : Nat → Prop} {H0 H H1 : Heap} {locs : List Loc} (h : va_S A H0 H locs) (z : H1.size = H.size + 1) (oq : ∀ q : Nat, q < H.size → H1[q]? = H[q]?) : va_S A H0 H1 locs :=
  ⟨Nat.le_trans h.1 (by omega), fun x h1 h2 => (oq x (Nat.lt_of_lt_of_le h1 h.1)).trans (h.2.1 x h1 h2), h.2.2⟩
section Alloc1
variable {ph : Bool} {Γ : GG} {y : Mth} {d mc ms kc ks : Nat} {Q : Option MV → Sto → Prop} {pc : Nat} {L : List (Option MV)} {S : List MV} {σ : Sto}
theorem M_new {k idx : Nat} {r : vw_C} (hr : vwCl[k]? = some r) (hp : mplain ph k) (h1 : Cond.classLink y.1.cls idx r.1 ∈ lw_tbl) (h2 : Cond.instantiable r.1 r.2.2 ∈ lw_tbl) (h3 : Cond.initialized r.1 ∈ lw_tbl) (hd : decode y.2.1 pc = .ok (.new idx, 3)) (hkc : kc + 1 ≤ mc) (hks : ks + r.2.2 ≤ ms)
    (kk : M ph Γ y d mc ms (kc + 1) (ks + r.2.2) Q (pc + 3) L (vq (some (k, gN σ k)) :: S) (sN σ k)) : M ph Γ y d mc ms kc ks Q pc L S σ := by
  intro p l e s m args below meth c H locs ad0 ad ls st hc hG hst he hR hS hB hl hk
  have hKn := hG.2.2.1 k r hr
  have hk10 := mcls_lt hr
  refine W.newcK hc.1 hc.2.1 hc.2.2.2.2.1 (hG.1 _ h1 rfl args) (hG.1 _ h2 rfl args) (hG.1 _ h3 rfl args) rfl hd hkc hks hKn.2.1 rfl fun H1 kC hkC e1 z1 o1 => ?_
  obtain ⟨cell, b1, b2, b3, b4⟩ := u_born (fun j => (parseFieldDescriptor (r.2.1 j).2.2.1).getD .int) (mlays hG hr args) (fun w hw => hw) hKn hkC e1 (fun j hj => by obtain ⟨ty, ht, -⟩ := mty hr hj; rw [ht]; rfl)
  obtain ⟨ad', a1, a2, a3⟩ := hR.new (k := k) (by omega) b1 z1 o1 (by unfold mhdr; rw [if_pos hk10]; exact ⟨b2, b3⟩) hp (fun j hj => by
    rw [mlen_obj hr] at hj
    unfold mpl
    rw [if_pos hk10, b4 j hj]
    dsimp only
    obtain ⟨ty, ht, ⟨m0, rfl⟩ | ⟨m1, ⟨n, rfl⟩ | ⟨n, rfl⟩⟩⟩ := mty hr hj
    · rw [ht, m0]; rfl
    · rw [ht, m1]; rfl
    · rw [ht, m1]; rfl)
  exact kk p l e s m args below meth c H1 locs ad0 ad' ls _ hc hG hst (fun a q h => a2 a q (he a q h)) a3 (hS.grow z1 o1) hB (hl.ext a2) (by simp only [List.map_cons, mv, a1, Option.map_some, mv_exts a2 hk])
theorem M_newarr {k : Nat} {n : Int32} {N : Nat} (hk : 10 ≤ k) (hk2 : k < 42) (hm : mref k 0 = false) (hw : Cond.arrayClass .int ∈ lw_tbl) (hn : ¬ n < 0) (hN : n.toNatClampNeg = N) (hlen : mlen Γ.2.1 k = N) (hb4 : N * 4 ≤ 536870912) (hd : decode y.2.1 pc = .ok (.newarray .int, 2)) (hkc : kc + 1 ≤ mc) (hks : ks + N ≤ ms)
    (kk : M ph Γ y d mc ms (kc + 1) (ks + N) Q (pc + 2) L (vq (some (k, gN σ k)) :: S) (sN σ k)) : M ph Γ y d mc ms kc ks Q pc L (vi n :: S) σ := by
  intro p l e s m args below meth c H locs ad0 ad ls st hc hG hst he hR hS hB hl hkk
  obtain ⟨st', rfl, hk'⟩ := mk_i hkk
  refine va_newaK (atype := .int) hc.1 hc.2.1 (hG.1 _ hw rfl args) rfl hd rfl hn hN hb4 hkc hks rfl fun H1 cA e1 z1 o1 hAr hNm => ?_
  obtain ⟨ad', a1, a2, a3⟩ := hR.new (k := k) hk2 e1 z1 o1 (by
      unfold mhdr
      rw [if_neg (by omega)]
      exact ⟨by rw [mety_int hm]; exact hAr _ _, (fun h => by cases h), (by rw [arrV_size, hlen]), (fun h => by rw [hm] at h; cases h)⟩) (Or.inr (fun j => by rw [mref_arr hk]; exact hm)) (fun j hj => by
      unfold mpl
      rw [if_neg (by omega), mref_arr hk, hm, arrV_read _ _ (by rw [← hlen]; exact hj)]
      rfl)
  exact kk p l e s m args below meth c H1 locs ad0 ad' ls _ hc hG hst (fun a q h => a2 a q (he a q h)) a3 (hS.grow z1 o1) hB (hl.ext a2) (by simp only [List.map_cons, mv, a1, Option.map_some, mv_exts a2 hk'])
theorem M_anew {k idx : Nat} {n : Int32} {N : Nat} (hph : ph = false) (hk : 10 ≤ k) (hk2 : k < 42) (hm : mref k 0 = true) (h1 : Cond.classLink y.1.cls idx (melc k) ∈ lw_tbl) (hn : ¬ n < 0) (hN : n.toNatClampNeg = N) (hlen : mlen Γ.2.1 k = N) (hb4 : N * 4 ≤ 536870912) (hd : decode y.2.1 pc = .ok (.anewarray idx, 3)) (hkc : kc + 1 ≤ mc) (hks : ks + N ≤ ms)
    (kk : M ph Γ y d mc ms (kc + 1) (ks + N) Q (pc + 3) L (vq (some (k, gN σ k)) :: S) (sN σ k)) : M ph Γ y d mc ms kc ks Q pc L (vi n :: S) σ := by
  intro p l e s m args below meth c H locs ad0 ad ls st hc hG hst he hR hS hB hl hkk
  obtain ⟨st', rfl, hk'⟩ := mk_i hkk
  subst hN
  have hAO : va_AO (melc k) s := by
    obtain ⟨a1, a2, a3⟩ := hG.2.2.2.1
    unfold melc
    split
    · exact a2
    · split
      · exact a3
      · exact a1
  refine W.anew hc.1 hc.2.1 hc.2.2.2.2.1 (hG.1 _ h1 rfl args) hAO.use rfl hd rfl hn hb4 hkc hks fun cA kA comp f1 f2 f3 f4 => ?_
  have z1 : (H.push ({ cls := cA, slots := Array.replicate n.toNatClampNeg .null, vm := .none } : Cell)).size = H.size + 1 := by simp
  have o1 : ∀ q, q < H.size → (H.push ({ cls := cA, slots := Array.replicate n.toNatClampNeg .null, vm := .none } : Cell))[q]? = H[q]? := fun q hq => by rw [Array.getElem?_push, if_neg (Nat.ne_of_lt hq)]
  obtain ⟨ad', a1, a2, a3⟩ := hR.new (k := k) (cell := ({ cls := cA, slots := Array.replicate n.toNatClampNeg .null, vm := .none } : Cell)) hk2 (by simp) z1 o1 (by
      unfold mhdr
      rw [if_neg (by omega)]
      exact ⟨⟨(fun z h => by cases h), kA, f2, comp, (by rw [mety_ref hm]; exact f3)⟩, (fun h => by cases h), (by simp [hlen]), fun _ => ⟨kA, comp, f2, (by rw [mety_ref hm]; exact f3), f4⟩⟩) (Or.inl hph) (fun j hj => by
      unfold mpl
      rw [if_neg (by omega), mref_arr hk, hm]
      rw [hlen] at hj
      simp [hj])
  exact kk p l e s m args below meth c _ locs ad0 ad' ls _ hc hG hst (fun a q h => a2 a q (he a q h)) a3 (hS.grow z1 o1) hB (hl.ext a2) (by simp only [List.map_cons, mv, a1, Option.map_some, mv_exts a2 hk'])
/-- objects of kind k' may stand in an array of kind k -/
def mmay (k k' : Nat) : Bool := (Nat.beq k 13 && (Nat.beq k' 0 || Nat.beq k' 1 || Nat.beq k' 5)) || (Nat.beq k 17 && Nat.beq k' 6) || (Nat.beq k 23 && Nat.beq k' 4)
theorem mmay_spec {Γ : GG} {s : State} (hG : mG Γ s) {k k' : Nat} (h : mmay k k' = true) : ∃ r, vwCl[k']? = some r ∧ ∃ (comp : ClassId) (kc : Class), s.vm.findClass (melc k) = some comp ∧ s.vm.classes[comp]? = some kc ∧ s.vm.assignable (Γ.2.2.1 k') comp = true := by
  have own : ∀ (n : Nat) (r : vw_C), vwCl[n]? = some r → ∃ kc : Class, s.vm.findClass r.1 = some (Γ.2.2.1 n) ∧ s.vm.classes[Γ.2.2.1 n]? = some kc := fun n r hr => by
    obtain ⟨-, h1, kc, h2, -⟩ := hG.2.2.1 n r hr
    exact ⟨kc, h1, h2⟩
  simp only [mmay, Bool.or_eq_true, Bool.and_eq_true, Nat.beq_eq] at h
  rcases h with (⟨rfl, (rfl | rfl) | rfl⟩ | ⟨rfl, rfl⟩) | ⟨rfl, rfl⟩
  · obtain ⟨kc, h1, h2⟩ := own 0 _ rfl
    exact ⟨_, rfl, _, kc, h1, h2, va_assign (hG.2.2.1 0 _ rfl).2⟩
  · obtain ⟨kc, h1, h2⟩ := own 0 _ rfl
    obtain ⟨kc1, h3, h4⟩ := own 1 _ rfl
    exact ⟨_, rfl, _, kc, h1, h2, vb_asgC hG.2.2.2.2.1.1 _ _ h1 h3⟩
  · obtain ⟨kc, h1, h2⟩ := own 0 _ rfl
    obtain ⟨kc1, h3, h4⟩ := own 5 _ rfl
    exact ⟨_, rfl, _, kc, h1, h2, vb_asgC hG.2.2.2.2.1.2.1 _ _ h1 h3⟩
  · obtain ⟨kc, h1, h2⟩ := own 6 _ rfl
    exact ⟨_, rfl, _, kc, h1, h2, va_assign (hG.2.2.1 6 _ rfl).2⟩
  · obtain ⟨kc, h1, h2⟩ := own 4 _ rfl
    exact ⟨_, rfl, _, kc, h1, h2, va_assign (hG.2.2.1 4 _ rfl).2⟩
theorem M_aastore {k i k' i' : Nat} {x : Int32} (hk : 10 ≤ k) (hk2 : k < 42) (hm : mref k 0 = true) (hmay : mmay k k' = true) (hf : ph = false ∨ mfin k i x.toNatClampNeg = none) (hx : Ix x (mlen Γ.2.1 k)) (hd : decode y.2.1 pc = .ok (.aastore, 1))
    (kk : M ph Γ y d mc ms kc ks Q (pc + 1) L S (sR σ k i x.toNatClampNeg (some (k', i')))) : M ph Γ y d mc ms kc ks Q pc L (vq (some (k', i')) :: vi x :: vq (some (k, i)) :: S) σ := by
  intro p l e s m args below meth c H locs ad0 ad ls st hc hG hst he hR hS hB hl hkk
  obtain ⟨v, st1, rfl, hv, hk1⟩ := mk_r hkk
  obtain ⟨st2, rfl, hk2'⟩ := mk_i hk1
  obtain ⟨q, st', rfl, hq, hk'⟩ := mk_r hk2'
  obtain ⟨⟨cell, c1, c2, c3⟩, c4⟩ := hR.2.1 k i q hq
  obtain ⟨⟨cellV, v1, v2, -⟩, -⟩ := hR.2.1 k' i' v hv
  obtain ⟨r, hr, comp, kcm, g1, g2, g3⟩ := mmay_spec hG hmay
  have hV : cellV.cls = Γ.2.2.1 k' ∧ cellV.vm = .none := by
    unfold mhdr at v2
    rw [if_pos (mcls_lt hr)] at v2
    exact v2
  obtain ⟨-, -, kV, hkV, -⟩ := hG.2.2.1 k' r hr
  unfold mhdr at c2
  rw [if_neg (by omega)] at c2
  have hpl : mpl Γ k x.toNatClampNeg = x.toNatClampNeg := by unfold mpl; rw [if_neg (by omega)]
  obtain ⟨kA, comp', b1, b2, b3⟩ := c2.2.2.2 hm
  cases g1.symm.trans b3
  rw [mety_ref hm] at b2
  refine W.aast hc.1 hc.2.1 c1 c2.1.1 c2.2.1 b1 b2 rfl g2 ⟨hx.1, by rw [c2.2.2.1]; exact hx.2⟩ v1 (fun z h => by rw [hV.2] at h; cases h) (by rw [hV.1]; exact hkV) (by rw [hV.1]; exact g3) rfl rfl hd fun H' e1 e2 e3 => ?_
  exact kk p l e s m args below meth c H' _ ad0 ad ls _ hc hG hst he (hR.put hG hq c1 hx.2 (w := vq (some (k', i'))) (v := .ref v) (by simp [mv, hv]) (sv_sR (by rw [mref_arr hk]; exact hm) hf) (fun _ _ _ h => sv_sR_ne h) (fun _ => rfl) (by rw [hpl]; exact e1) e2 e3) (hS.put e2 e3 (c4 hk2).1) hB hl hk'
def minst (k : Nat) (nm : String) : Option Int32 := if nm = "PlatePeas$Knife" then (if k = 0 then some 0 else if k = 1 then some 1 else if k = 5 then some 1 else none) else if nm = "PlatePeas$Spoon" then (if k = 0 then some 0 else if k = 1 then some 0 else if k = 5 then some 1 else none) else none
theorem M_instanceof {k i idx : Nat} {nm : String} {r : Int32} (hr : minst k nm = some r) (h1 : Cond.classLink y.1.cls idx nm ∈ lw_tbl) (hd : decode y.2.1 pc = .ok (.instanceof idx, 3)) (kk : M ph Γ y d mc ms kc ks Q (pc + 3) L (vi r :: S) σ) : M ph Γ y d mc ms kc ks Q pc L (vq (some (k, i)) :: S) σ := by
  intro p l e s m args below meth c H locs ad0 ad ls st hc hG hst he hR hS hB hl hkk
  obtain ⟨q, st', rfl, hq, hk'⟩ := mk_r hkk
  obtain ⟨⟨cell, c1, c2, -⟩, -⟩ := hR.2.1 k i q hq
  have K : W p l e (mRm d mc ms) s m args below meth c H locs kc ks (MQ below (mQ ph Γ Q ad0) args s mc ms (mA Γ)) (F0 m (pc + 3) ls (.int r :: st')) := kk p l e s m args below meth c H locs ad0 ad ls _ hc hG hst he hR hS hB hl (by simp [mv, hk'])
  have hlk := hG.1 _ h1 rfl args
  obtain ⟨k1, k2, k3⟩ := hG.2.2.2.2.1
  obtain ⟨n1, n2, n3⟩ := hG.2.2.2.2.2
  have rc : ∀ (n : Nat) (w : vw_C), vwCl[n]? = some w → k = n → ∃ cell : Cell, H[q]? = some cell ∧ cell.vm.isStatics = false ∧ s.vm.findClass w.1 = some cell.cls := fun n w hw e0 => by
    subst e0
    unfold mhdr at c2
    rw [if_pos (mcls_lt hw)] at c2
    exact ⟨cell, c1, by rw [c2.2]; rfl, by rw [c2.1]; exact (hG.2.2.1 k w hw).2.1⟩
  unfold minst at hr
  split at hr
  · rename_i e1; subst e1
    split at hr
    · rename_i e0; cases hr; exact va_instNo hc.1 hc.2.1 hc.2.2.2.2.1 hlk n1 (rc 0 _ rfl e0) hd K
    · split at hr
      · rename_i e0; cases hr; exact va_instS hc.1 hc.2.1 hc.2.2.2.2.1 hlk (hG.2.2.1 1 _ rfl).2 (rc 1 _ rfl e0) hd K
      · split at hr
        · rename_i e0; cases hr; exact va_instY hc.1 hc.2.1 hc.2.2.2.2.1 hlk k3 (rc 5 _ rfl e0) hd K
        · cases hr
  · split at hr
    · rename_i e1; subst e1
      split at hr
      · rename_i e0; cases hr; exact va_instNo hc.1 hc.2.1 hc.2.2.2.2.1 hlk n2 (rc 0 _ rfl e0) hd K
      · split at hr
        · rename_i e0; cases hr; exact va_instNo hc.1 hc.2.1 hc.2.2.2.2.1 hlk n3 (rc 1 _ rfl e0) hd K
        · split at hr
          · rename_i e0; cases hr; exact va_instS hc.1 hc.2.1 hc.2.2.2.2.1 hlk (hG.2.2.1 5 _ rfl).2 (rc 5 _ rfl e0) hd K
          · cases hr
    · cases hr
theorem M_objInit {k i idx : Nat} (hk : k < 10) (h1 : Cond.methodLink y.1.cls idx Lib.objectInit ∈ lw_tbl) (h2 : Cond.instanceMethod Lib.objectInit ∈ lw_tbl) (h3 : Cond.code Lib.objectInit ⟨#[0xb1]⟩ 1 none ∈ lw_tbl) (hcat : (S.map mcat).sum ≤ 8) (hdd : 1 ≤ d) (hd : decode y.2.1 pc = .ok (.invokespecial idx, 3)) (kk : M ph Γ y d mc ms kc ks Q (pc + 3) L S σ) : M ph Γ y d mc ms kc ks Q pc L (vq (some (k, i)) :: S) σ := by
  intro p l e s m args below meth c H locs ad0 ad ls st hc hG hst he hR hS hB hl hkk
  obtain ⟨q, st', rfl, hq, hk'⟩ := mk_r hkk
  refine W.objInit hc.1 hc.2.1 hc.2.2.2.2.1 (hG.1 _ h1 rfl args) (hG.1 _ h2 rfl args) (hG.1 _ h3 rfl args) rfl (hl.1.1.trans hc.2.2.2.1.symm) rfl hd hdd (by
    have hcs := mcatS hk'
    show 2 * 0 + (st'.map fun v => v.category).sum + 12 ≤ 64 * d
    rw [hcs]; omega) ?_
  exact kk p l e s m args below meth c H locs ad0 ad ls _ hc hG hst he hR hS hB hl hk'
theorem M_max {a b : Int32} {idx : Nat} (h1 : Cond.methodLink y.1.cls idx Lib.Math.max.name ∈ lw_tbl) (h2 : Cond.static Lib.Math.max.name ∈ lw_tbl) (h3 : Cond.initialized "java/lang/Math" ∈ lw_tbl) (h4 : Cond.code Lib.Math.max.name Lib.Math.max.code 2 (some .int) ∈ lw_tbl) (hcat : (S.map mcat).sum ≤ 8) (hdd : 1 ≤ d) (hkc : kc ≤ mc) (hks : ks ≤ ms) (hd : decode y.2.1 pc = .ok (.invokestatic idx, 3))
    (kk : M ph Γ y d mc ms kc ks Q (pc + 3) L (vi (if a < b then b else a) :: S) σ) : M ph Γ y d mc ms kc ks Q pc L (vi b :: vi a :: S) σ := by
  intro p l e s m args below meth c H locs ad0 ad ls st hc hG hst he hR hS hB hl hkk
  obtain ⟨st1, rfl, hk1⟩ := mk_i hkk
  obtain ⟨st2, rfl, hk2⟩ := mk_i hk1
  exact va_mmax hc.1 hc.2.1 (hc.2.2.2.1.trans hl.1.1.symm) hc.2.2.2.2.1 (hG.1 _ h1 rfl args) (hG.1 _ h2 rfl args) (hG.1 _ h3 rfl args) (hG.1 _ h4 rfl args) hdd (by rw [mcatS hk2]; show _ + 13 ≤ 64 * d; omega) hkc hks hd (kk p l e s m args below meth c H locs ad0 ad ls _ hc hG hst he hR hS hB hl (by simp [mv, hk2]))
theorem M_min {a b : Int32} {idx : Nat} (h1 : Cond.methodLink y.1.cls idx Lib.Math.min.name ∈ lw_tbl) (h2 : Cond.static Lib.Math.min.name ∈ lw_tbl) (h3 : Cond.initialized "java/lang/Math" ∈ lw_tbl) (h4 : Cond.code Lib.Math.min.name Lib.Math.min.code 2 (some .int) ∈ lw_tbl) (hcat : (S.map mcat).sum ≤ 8) (hdd : 1 ≤ d) (hkc : kc ≤ mc) (hks : ks ≤ ms) (hd : decode y.2.1 pc = .ok (.invokestatic idx, 3))
    (kk : M ph Γ y d mc ms kc ks Q (pc + 3) L (vi (if b < a then b else a) :: S) σ) : M ph Γ y d mc ms kc ks Q pc L (vi b :: vi a :: S) σ := by
  intro p l e s m args below meth c H locs ad0 ad ls st hc hG hst he hR hS hB hl hkk
  obtain ⟨st1, rfl, hk1⟩ := mk_i hkk
  obtain ⟨st2, rfl, hk2⟩ := mk_i hk1
  exact va_mmin hc.1 hc.2.1 (hc.2.2.2.1.trans hl.1.1.symm) hc.2.2.2.2.1 (hG.1 _ h1 rfl args) (hG.1 _ h2 rfl args) (hG.1 _ h3 rfl args) (hG.1 _ h4 rfl args) hdd (by rw [mcatS hk2]; show _ + 13 ≤ 64 * d; omega) hkc hks hd (kk p l e s m args below meth c H locs ad0 ad ls _ hc hG hst he hR hS hB hl (by simp [mv, hk2]))
end Alloc1
end
section
/-! System.arraycopy between rows of ints -/
def cpI (σ : Sto) (k i sp k2 i2 dp n : Nat) : Sto := (fun a b c => if a = k2 ∧ b = i2 ∧ dp ≤ c ∧ c < dp + n then σ.1 k i (sp + (c - dp)) else σ.1 a b c, σ.2.1, σ.2.2)
theorem Rep.upd {ph : Bool} {Γ : GG} {s : State} {ad : MA → Option Nat} {σ σ' : Sto} {H H' : Heap} {k i q : Nat} {cell' : Cell} (h : Rep ph Γ s ad σ H) (hq : ad (k, i) = some q) (hN : ∀ k', gN σ' k' = gN σ k') (ho : ∀ k' i' j', ¬ (k' = k ∧ i' = i) → sv ph σ' k' i' j' = sv ph σ k' i' j')
    (e1 : H'[q]? = some cell') (e2 : H'.size = H.size) (e3 : ∀ x, x ≠ q → H'[x]? = H[x]?) (hh : mhdr Γ s k cell') (hs : ∀ j, j < mlen Γ.2.1 k → ∃ v, mv ad (sv ph σ' k i j) = some v ∧ cell'.slots[mpl Γ k j]? = some v) : Rep ph Γ s ad σ' H' := by
  refine ⟨h.1, fun k' i' q' hq' => ?_, by rw [e2]; exact h.2.2⟩
  obtain ⟨⟨c0, c1, c2, c3⟩, c4⟩ := h.2.1 k' i' q' hq'
  refine ⟨?_, fun hk => by rw [hN]; exact c4 hk⟩
  by_cases hqq : q' = q
  · subst hqq
    have hki := h.1 _ _ _ hq' hq
    simp only [Prod.mk.injEq] at hki
    obtain ⟨rfl, rfl⟩ := hki
    exact ⟨cell', e1, hh, hs⟩
  · have hne : ¬ (k' = k ∧ i' = i) := fun z => hqq (Option.some.inj (hq'.symm.trans (by rw [z.1, z.2]; exact hq)))
    exact ⟨c0, (e3 q' hqq).trans c1, c2, fun j' hj' => by rw [ho _ _ _ hne]; exact c3 j' hj'⟩
theorem nn_clamp {z : Int32} (hz : ¬ z < 0) : z.toInt = (z.toNatClampNeg : Int) := by
  have hz0 : (0 : Int) ≤ z.toInt := by
    have := Int32.not_lt.mp hz
    simpa using Int32.le_iff_toInt_le.mp this
  show z.toInt = ((z.toInt.toNat : Nat) : Int)
  omega
theorem nfw : nativeFrameWords "java/lang/System" "arraycopy" 5 + 11 ≤ 56 := by decide +kernel
section Copy1
variable {ph : Bool} {Γ : GG} {y : Mth} {d mc ms kc ks : Nat} {Q : Option MV → Sto → Prop} {pc : Nat} {L : List (Option MV)} {S : List MV} {σ : Sto}
theorem M_arraycopy {k i k2 i2 idx : Nat} {sp dp n : Int32} (hk : 10 ≤ k) (hm : mref k 0 = false) (hk2 : 10 ≤ k2) (hk3 : k2 < 42) (hm2 : mref k2 0 = false) (h1 : ¬ sp < 0) (h2 : ¬ dp < 0) (h3 : ¬ n < 0) (h4 : sp.toNatClampNeg + n.toNatClampNeg ≤ mlen Γ.2.1 k) (h5 : dp.toNatClampNeg + n.toNatClampNeg ≤ mlen Γ.2.1 k2)
    (w1 : Cond.methodLink y.1.cls idx arraycopyName ∈ lw_tbl) (w2 : Cond.native arraycopyName ∈ lw_tbl) (w3 : Cond.static arraycopyName ∈ lw_tbl) (w4 : Cond.initialized "java/lang/System" ∈ lw_tbl) (hcat : (S.map mcat).sum ≤ 8) (hdd : 1 ≤ d) (hd : decode y.2.1 pc = .ok (.invokestatic idx, 3))
    (kk : M ph Γ y d mc ms kc ks Q (pc + 3) L S (cpI σ k i sp.toNatClampNeg k2 i2 dp.toNatClampNeg n.toNatClampNeg)) : M ph Γ y d mc ms kc ks Q pc L (vi n :: vi dp :: vq (some (k2, i2)) :: vi sp :: vq (some (k, i)) :: S) σ := by
  intro p l e s m args below meth c H locs ad0 ad ls st hc hG hst he hR hS hB hl hkk
  obtain ⟨st1, rfl, hk1⟩ := mk_i hkk
  obtain ⟨st2, rfl, hk2'⟩ := mk_i hk1
  obtain ⟨q2, st3, rfl, hq2, hk3'⟩ := mk_r hk2'
  obtain ⟨st4, rfl, hk4⟩ := mk_i hk3'
  obtain ⟨q, st5, rfl, hq, hk5⟩ := mk_r hk4
  obtain ⟨⟨cs, c1, c2, c3⟩, -⟩ := hR.2.1 k i q hq
  obtain ⟨⟨cd, d1, d2, d3⟩, d4⟩ := hR.2.1 k2 i2 q2 hq2
  have d2' := d2
  unfold mhdr at c2 d2
  rw [if_neg (by omega)] at c2 d2
  have cint : ∀ j, j < mlen Γ.2.1 k → cs.slots[j]? = some (.int (gI σ k i j)) := fun j hj => by
    obtain ⟨v, v1, v2⟩ := c3 j hj
    unfold mpl at v2
    rw [if_neg (by omega)] at v2
    unfold sv at v1
    rw [mref_arr hk, hm] at v1
    cases v1
    exact v2
  obtain ⟨hco, kS, hkS, cmS, hkkS⟩ := c2.1
  obtain ⟨hdo, kD, hkD, cmD, hkkD⟩ := d2.1
  rw [mety_int hm] at hkkS
  rw [mety_int hm2] at hkkD
  intro T hT X
  obtain ⟨vm', X', step⟩ := X.arraycopy hc.1 hc.2.2.2.2.1 (hG.1 _ w1 rfl args) (hG.1 _ w2 rfl args) (hG.1 _ w3 rfl args) (hG.1 _ w4 rfl args) (src := q) (dst := q2) (cs := cs) (cd := cd) (srcPos := sp) (destPos := dp) (n := n) (by rw [hT]; exact c1) (by rw [hT]; exact d1)
    hco hdo c2.2.1 d2.2.1 hkS hkD hkkS hkkD (by decide) h1 h2 h3
    (by rw [nn_clamp h1, nn_clamp h3, c2.2.2.1]; omega)
    (by rw [nn_clamp h2, nn_clamp h3, d2.2.2.1]; omega)
    (fun vm₁ _ j hj => by
      have e0 : cs.slots.getD (sp.toNatClampNeg + j) .null = .int (gI σ k i (sp.toNatClampNeg + j)) := by
        rw [Array.getD_eq_getD_getElem?, cint _ (by omega)]
        rfl
      rw [e0]
      exact ⟨rfl, trivial⟩)
    (g := F0 m pc ls (.int n :: .int dp :: .ref q2 :: .int sp :: .ref q :: st5)) rfl (hl.1.1.trans hc.2.2.2.1.symm) (rest := st5) rfl (by rw [hc.2.1]; exact hd) hdd (by
      have h0 := mcatS hk5
      have h9 := nfw
      show 2 * 0 + (st5.map fun v => v.category).sum + _ ≤ 64 * d
      rw [h0]; omega)
  have hlt : q2 < H.size := (Array.getElem?_eq_some_iff.mp d1).1
  have hlen : (cs.stretch sp.toNatClampNeg n.toNatClampNeg).length = n.toNatClampNeg := by simp [Cell.stretch]
  have hfacts := cd.storeRun_facts dp.toNatClampNeg (cs.stretch sp.toNatClampNeg n.toNatClampNeg)
  have hget := fun j => cd.storeRun_get dp.toNatClampNeg (cs.stretch sp.toNatClampNeg n.toNatClampNeg) j (by rw [hlen, d2.2.2.1]; exact h5)
  have hRep : Rep ph Γ s ad (cpI σ k i sp.toNatClampNeg k2 i2 dp.toNatClampNeg n.toNatClampNeg) (H.setIfInBounds q2 (cd.storeRun dp.toNatClampNeg (cs.stretch sp.toNatClampNeg n.toNatClampNeg))) := by
    refine hR.upd (cell' := cd.storeRun dp.toNatClampNeg (cs.stretch sp.toNatClampNeg n.toNatClampNeg)) hq2 (fun _ => rfl) (fun k' i' j' hne => ?_) (by simp [Array.getElem?_setIfInBounds, hlt]) (by simp) (fun x hx => by simp [Array.getElem?_setIfInBounds, Ne.symm hx]) ?_ (fun j hj => ?_)
    · unfold sv
      split
      · rfl
      · congr 1
        show (if _ then _ else _) = _
        rw [if_neg (fun z => hne ⟨z.1, z.2.1⟩)]
        rfl
    · unfold mhdr
      rw [if_neg (by omega)]
      obtain ⟨f1, f2, f3, -⟩ := hfacts
      refine ⟨⟨fun z => by rw [f2]; exact hdo z, kD, by rw [f1]; exact hkD, cmD, by rw [mety_int hm2]; exact hkkD⟩, by rw [f2]; exact d2.2.1, by rw [f3]; exact d2.2.2.1, fun h => by rw [hm2] at h; cases h⟩
    · have hsv : sv ph (cpI σ k i sp.toNatClampNeg k2 i2 dp.toNatClampNeg n.toNatClampNeg) k2 i2 j = vi (gI (cpI σ k i sp.toNatClampNeg k2 i2 dp.toNatClampNeg n.toNatClampNeg) k2 i2 j) := by unfold sv; rw [mref_arr hk2, hm2]
      refine ⟨_, by rw [hsv]; rfl, ?_⟩
      unfold mpl
      rw [if_neg (by omega), hget j, hlen]
      by_cases hin : dp.toNatClampNeg ≤ j ∧ j < dp.toNatClampNeg + n.toNatClampNeg
      · rw [if_pos hin]
        have e5 : gI (cpI σ k i sp.toNatClampNeg k2 i2 dp.toNatClampNeg n.toNatClampNeg) k2 i2 j = gI σ k i (sp.toNatClampNeg + (j - dp.toNatClampNeg)) := by
          show (if _ then _ else _) = _
          rw [if_pos ⟨rfl, rfl, hin.1, hin.2⟩]
          rfl
        rw [e5]
        unfold Cell.stretch
        rw [List.getElem?_map, List.getElem?_range (by omega)]
        simp only [Option.map_some]
        rw [Array.getD_eq_getD_getElem?, cint _ (by omega)]
        rfl
      · rw [if_neg hin]
        have e5 : gI (cpI σ k i sp.toNatClampNeg k2 i2 dp.toNatClampNeg n.toNatClampNeg) k2 i2 j = gI σ k2 i2 j := by
          show (if _ then _ else _) = _
          rw [if_neg (fun z => hin z.2.2)]
          rfl
        rw [e5]
        obtain ⟨v, v1, v2⟩ := d3 j hj
        unfold mpl at v2
        rw [if_neg (by omega)] at v2
        unfold sv at v1
        rw [mref_arr hk2, hm2] at v1
        cases v1
        exact v2
  have hA2 : Γ.1 ≤ q2 := (d4 hk3).1
  obtain ⟨t, a1, b1⟩ := kk p l e s m args below meth c _ (locs ++ (cs.stretch sp.toNatClampNeg n.toNatClampNeg).zipIdx.map fun z => ⟨q2, dp.toNatClampNeg + z.2⟩) ad0 ad ls st5 hc hG hst he hRep
    ⟨by simp; exact hS.1, fun x g1 g2 => by
      have hne : x ≠ q2 := fun z => g2 (by rw [z]; exact hA2)
      rw [show (H.setIfInBounds q2 (cd.storeRun dp.toNatClampNeg (cs.stretch sp.toNatClampNeg n.toNatClampNeg)))[x]? = H[x]? by simp [Array.getElem?_setIfInBounds, Ne.symm hne]]
      exact hS.2.1 x g1 g2, fun z hz => by
      rcases List.mem_append.mp hz with h | h
      · exact hS.2.2 z h
      · obtain ⟨w, -, hw⟩ := List.mem_map.mp h
        rw [← hw]
        exact hA2⟩ hB hl hk5 _ (by rw [← hT]; rfl) X'
  exact ⟨t, step t a1, b1⟩
end Copy1
end
