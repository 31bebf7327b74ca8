section
-- ===== PART A: goes FIRST, ahead of the names: the tables' words, and 'selects' of the private methods out of them =====
/-- a private method of a class that the tables say can be made, by its rows of tables_1 -/
def lw_okq (q : MethodName × Nat) : Prop := (q.1.cls ≠ "java/lang/invoke/MethodHandle" ∧ q.1.cls ≠ "java/lang/invoke/VarHandle") ∧ Cond.instantiable q.1.cls q.2 ∈ tables_1 ∧ Cond.privateMethod q.1 ∈ tables_1 ∧ Cond.instanceMethod q.1 ∈ tables_1
theorem lw_p0 : lw_okq (⟨"WetWalls$Wall", "addInside", "(IIII)V"⟩, 12) := ⟨⟨by decide +kernel, by decide +kernel⟩, List.mem_of_getElem? (i := 16) (by decide +kernel), List.mem_of_getElem? (i := 128) (by decide +kernel), List.mem_of_getElem? (i := 129) (by decide +kernel)⟩
theorem lw_p1 : lw_okq (⟨"WetWalls$Wall", "empty", "()V"⟩, 12) := ⟨⟨by decide +kernel, by decide +kernel⟩, List.mem_of_getElem? (i := 16) (by decide +kernel), List.mem_of_getElem? (i := 136) (by decide +kernel), List.mem_of_getElem? (i := 137) (by decide +kernel)⟩
theorem lw_p2 : lw_okq (⟨"WetWalls$Wall", "has", "(I)Z"⟩, 12) := ⟨⟨by decide +kernel, by decide +kernel⟩, List.mem_of_getElem? (i := 16) (by decide +kernel), List.mem_of_getElem? (i := 148) (by decide +kernel), List.mem_of_getElem? (i := 149) (by decide +kernel)⟩
theorem lw_p3 : lw_okq (⟨"WetWalls$Wall", "tellOf", "(II)I"⟩, 12) := ⟨⟨by decide +kernel, by decide +kernel⟩, List.mem_of_getElem? (i := 16) (by decide +kernel), List.mem_of_getElem? (i := 156) (by decide +kernel), List.mem_of_getElem? (i := 157) (by decide +kernel)⟩
theorem lw_p4 : lw_okq (⟨"WetWalls$Wall", "dampOf", "(I)I"⟩, 12) := ⟨⟨by decide +kernel, by decide +kernel⟩, List.mem_of_getElem? (i := 16) (by decide +kernel), List.mem_of_getElem? (i := 160) (by decide +kernel), List.mem_of_getElem? (i := 161) (by decide +kernel)⟩
theorem lw_p5 : lw_okq (⟨"WetWalls", "nothingCanPass", "()Z"⟩, 10) := ⟨⟨by decide +kernel, by decide +kernel⟩, List.mem_of_getElem? (i := 8) (by decide +kernel), List.mem_of_getElem? (i := 189) (by decide +kernel), List.mem_of_getElem? (i := 190) (by decide +kernel)⟩
theorem lw_p6 : lw_okq (⟨"WetWalls$Wall", "letHourPass", "([II)V"⟩, 12) := ⟨⟨by decide +kernel, by decide +kernel⟩, List.mem_of_getElem? (i := 16) (by decide +kernel), List.mem_of_getElem? (i := 193) (by decide +kernel), List.mem_of_getElem? (i := 194) (by decide +kernel)⟩
theorem lw_p7 : lw_okq (⟨"WetWalls$Wall", "moveWater", "([II)V"⟩, 12) := ⟨⟨by decide +kernel, by decide +kernel⟩, List.mem_of_getElem? (i := 16) (by decide +kernel), List.mem_of_getElem? (i := 197) (by decide +kernel), List.mem_of_getElem? (i := 198) (by decide +kernel)⟩
theorem lw_p8 : lw_okq (⟨"WetWalls$Wall", "takeRain", "(I)V"⟩, 12) := ⟨⟨by decide +kernel, by decide +kernel⟩, List.mem_of_getElem? (i := 16) (by decide +kernel), List.mem_of_getElem? (i := 201) (by decide +kernel), List.mem_of_getElem? (i := 202) (by decide +kernel)⟩
theorem lw_p9 : lw_okq (⟨"WetWalls$Wall", "freeRoom", "(I)I"⟩, 12) := ⟨⟨by decide +kernel, by decide +kernel⟩, List.mem_of_getElem? (i := 16) (by decide +kernel), List.mem_of_getElem? (i := 205) (by decide +kernel), List.mem_of_getElem? (i := 206) (by decide +kernel)⟩
theorem lw_p10 : lw_okq (⟨"WetWalls$Wall", "crossBorder", "(I[I)V"⟩, 12) := ⟨⟨by decide +kernel, by decide +kernel⟩, List.mem_of_getElem? (i := 16) (by decide +kernel), List.mem_of_getElem? (i := 214) (by decide +kernel), List.mem_of_getElem? (i := 215) (by decide +kernel)⟩
theorem lw_p11 : lw_okq (⟨"WetWalls$Wall", "steamResist", "(I)I"⟩, 12) := ⟨⟨by decide +kernel, by decide +kernel⟩, List.mem_of_getElem? (i := 16) (by decide +kernel), List.mem_of_getElem? (i := 218) (by decide +kernel), List.mem_of_getElem? (i := 219) (by decide +kernel)⟩
theorem lw_p12 : lw_okq (⟨"WetWalls$Wall", "waterToGive", "(I)I"⟩, 12) := ⟨⟨by decide +kernel, by decide +kernel⟩, List.mem_of_getElem? (i := 16) (by decide +kernel), List.mem_of_getElem? (i := 225) (by decide +kernel), List.mem_of_getElem? (i := 226) (by decide +kernel)⟩
theorem lw_p13 : lw_okq (⟨"WetWalls$Wall", "addWater", "(II)V"⟩, 12) := ⟨⟨by decide +kernel, by decide +kernel⟩, List.mem_of_getElem? (i := 16) (by decide +kernel), List.mem_of_getElem? (i := 229) (by decide +kernel), List.mem_of_getElem? (i := 230) (by decide +kernel)⟩
theorem lw_p14 : lw_okq (⟨"WetWalls$Wall", "feelWarmth", "(II)V"⟩, 12) := ⟨⟨by decide +kernel, by decide +kernel⟩, List.mem_of_getElem? (i := 16) (by decide +kernel), List.mem_of_getElem? (i := 233) (by decide +kernel), List.mem_of_getElem? (i := 234) (by decide +kernel)⟩
theorem lw_p15 : lw_okq (⟨"WetWalls$Wall", "resistOf", "([II)I"⟩, 12) := ⟨⟨by decide +kernel, by decide +kernel⟩, List.mem_of_getElem? (i := 16) (by decide +kernel), List.mem_of_getElem? (i := 240) (by decide +kernel), List.mem_of_getElem? (i := 241) (by decide +kernel)⟩
def lw_privs_1 : List (MethodName × Nat) := [(⟨"WetWalls$Wall", "addInside", "(IIII)V"⟩, 12), (⟨"WetWalls$Wall", "empty", "()V"⟩, 12), (⟨"WetWalls$Wall", "has", "(I)Z"⟩, 12), (⟨"WetWalls$Wall", "tellOf", "(II)I"⟩, 12), (⟨"WetWalls$Wall", "dampOf", "(I)I"⟩, 12), (⟨"WetWalls", "nothingCanPass", "()Z"⟩, 10), (⟨"WetWalls$Wall", "letHourPass", "([II)V"⟩, 12), (⟨"WetWalls$Wall", "moveWater", "([II)V"⟩, 12), (⟨"WetWalls$Wall", "takeRain", "(I)V"⟩, 12), (⟨"WetWalls$Wall", "freeRoom", "(I)I"⟩, 12), (⟨"WetWalls$Wall", "crossBorder", "(I[I)V"⟩, 12), (⟨"WetWalls$Wall", "steamResist", "(I)I"⟩, 12), (⟨"WetWalls$Wall", "waterToGive", "(I)I"⟩, 12), (⟨"WetWalls$Wall", "addWater", "(II)V"⟩, 12), (⟨"WetWalls$Wall", "feelWarmth", "(II)V"⟩, 12), (⟨"WetWalls$Wall", "resistOf", "([II)I"⟩, 12)]
theorem lw_r1 : ∀ q ∈ lw_privs_1, lw_okq q := List.forall_mem_cons.mpr ⟨lw_p0, List.forall_mem_cons.mpr ⟨lw_p1, List.forall_mem_cons.mpr ⟨lw_p2, List.forall_mem_cons.mpr ⟨lw_p3, List.forall_mem_cons.mpr ⟨lw_p4, List.forall_mem_cons.mpr ⟨lw_p5, List.forall_mem_cons.mpr ⟨lw_p6, List.forall_mem_cons.mpr ⟨lw_p7, List.forall_mem_cons.mpr ⟨lw_p8, List.forall_mem_cons.mpr ⟨lw_p9, List.forall_mem_cons.mpr ⟨lw_p10, List.forall_mem_cons.mpr ⟨lw_p11, List.forall_mem_cons.mpr ⟨lw_p12, List.forall_mem_cons.mpr ⟨lw_p13, List.forall_mem_cons.mpr ⟨lw_p14, List.forall_mem_cons.mpr ⟨lw_p15, fun _ h => absurd h List.not_mem_nil⟩⟩⟩⟩⟩⟩⟩⟩⟩⟩⟩⟩⟩⟩⟩⟩
theorem lw_p16 : lw_okq (⟨"WetWalls$Wall", "countFrost", "(I)V"⟩, 12) := ⟨⟨by decide +kernel, by decide +kernel⟩, List.mem_of_getElem? (i := 16) (by decide +kernel), List.mem_of_getElem? (i := 244) (by decide +kernel), List.mem_of_getElem? (i := 245) (by decide +kernel)⟩
theorem lw_p17 : lw_okq (⟨"WetWalls$Wall", "countMould", "(I)V"⟩, 12) := ⟨⟨by decide +kernel, by decide +kernel⟩, List.mem_of_getElem? (i := 16) (by decide +kernel), List.mem_of_getElem? (i := 248) (by decide +kernel), List.mem_of_getElem? (i := 249) (by decide +kernel)⟩
theorem lw_p18 : lw_okq (⟨"WetWalls", "hourBehind", "(I)I"⟩, 10) := ⟨⟨by decide +kernel, by decide +kernel⟩, List.mem_of_getElem? (i := 8) (by decide +kernel), List.mem_of_getElem? (i := 255) (by decide +kernel), List.mem_of_getElem? (i := 256) (by decide +kernel)⟩
theorem lw_p19 : lw_okq (⟨"WetWalls", "roundKeepsWater", "()Z"⟩, 10) := ⟨⟨by decide +kernel, by decide +kernel⟩, List.mem_of_getElem? (i := 8) (by decide +kernel), List.mem_of_getElem? (i := 263) (by decide +kernel), List.mem_of_getElem? (i := 264) (by decide +kernel)⟩
theorem lw_p20 : lw_okq (⟨"WetWalls$Wall", "becomeAs", "(LWetWalls$Wall;)V"⟩, 12) := ⟨⟨by decide +kernel, by decide +kernel⟩, List.mem_of_getElem? (i := 16) (by decide +kernel), List.mem_of_getElem? (i := 267) (by decide +kernel), List.mem_of_getElem? (i := 268) (by decide +kernel)⟩
theorem lw_p21 : lw_okq (⟨"WetWalls$Wall", "holdsSameWaterAs", "(LWetWalls$Wall;)Z"⟩, 12) := ⟨⟨by decide +kernel, by decide +kernel⟩, List.mem_of_getElem? (i := 16) (by decide +kernel), List.mem_of_getElem? (i := 274) (by decide +kernel), List.mem_of_getElem? (i := 275) (by decide +kernel)⟩
theorem lw_p22 : lw_okq (⟨"WetWalls", "faceRefusal", "(II)I"⟩, 10) := ⟨⟨by decide +kernel, by decide +kernel⟩, List.mem_of_getElem? (i := 8) (by decide +kernel), List.mem_of_getElem? (i := 287) (by decide +kernel), List.mem_of_getElem? (i := 288) (by decide +kernel)⟩
theorem lw_p23 : lw_okq (⟨"WetWalls", "hourRefusal", "(I)I"⟩, 10) := ⟨⟨by decide +kernel, by decide +kernel⟩, List.mem_of_getElem? (i := 8) (by decide +kernel), List.mem_of_getElem? (i := 291) (by decide +kernel), List.mem_of_getElem? (i := 292) (by decide +kernel)⟩
theorem lw_p24 : lw_okq (⟨"WetWalls$OldWay", "pressureAt", "(LWetWalls$Wall;[II)I"⟩, 2) := ⟨⟨by decide +kernel, by decide +kernel⟩, List.mem_of_getElem? (i := 75) (by decide +kernel), List.mem_of_getElem? (i := 295) (by decide +kernel), List.mem_of_getElem? (i := 296) (by decide +kernel)⟩
theorem lw_p25 : lw_okq (⟨"WetWalls$OldWay", "pressureBehind", "(LWetWalls$Wall;[II)I"⟩, 2) := ⟨⟨by decide +kernel, by decide +kernel⟩, List.mem_of_getElem? (i := 75) (by decide +kernel), List.mem_of_getElem? (i := 307) (by decide +kernel), List.mem_of_getElem? (i := 308) (by decide +kernel)⟩
theorem lw_p26 : lw_okq (⟨"WetWalls$OldWay", "warmthAt", "(LWetWalls$Wall;[II)I"⟩, 2) := ⟨⟨by decide +kernel, by decide +kernel⟩, List.mem_of_getElem? (i := 75) (by decide +kernel), List.mem_of_getElem? (i := 319) (by decide +kernel), List.mem_of_getElem? (i := 320) (by decide +kernel)⟩
theorem lw_p27 : lw_okq (⟨"WetWalls$OldWay", "warmthBehind", "(LWetWalls$Wall;[II)I"⟩, 2) := ⟨⟨by decide +kernel, by decide +kernel⟩, List.mem_of_getElem? (i := 75) (by decide +kernel), List.mem_of_getElem? (i := 323) (by decide +kernel), List.mem_of_getElem? (i := 324) (by decide +kernel)⟩
theorem lw_p28 : lw_okq (⟨"WetWalls$OldWay", "excessBehind", "(LWetWalls$Wall;[II)I"⟩, 2) := ⟨⟨by decide +kernel, by decide +kernel⟩, List.mem_of_getElem? (i := 75) (by decide +kernel), List.mem_of_getElem? (i := 332) (by decide +kernel), List.mem_of_getElem? (i := 333) (by decide +kernel)⟩
theorem lw_p29 : lw_okq (⟨"WetWalls$OldWay", "findBestOrder", "(LWetWalls$Wall;[I)I"⟩, 2) := ⟨⟨by decide +kernel, by decide +kernel⟩, List.mem_of_getElem? (i := 75) (by decide +kernel), List.mem_of_getElem? (i := 341) (by decide +kernel), List.mem_of_getElem? (i := 342) (by decide +kernel)⟩
theorem lw_p30 : lw_okq (⟨"WetWalls$OldWay", "weighSets", "(LWetWalls$Wall;[I)V"⟩, 2) := ⟨⟨by decide +kernel, by decide +kernel⟩, List.mem_of_getElem? (i := 75) (by decide +kernel), List.mem_of_getElem? (i := 345) (by decide +kernel), List.mem_of_getElem? (i := 346) (by decide +kernel)⟩
theorem lw_p31 : lw_okq (⟨"WetWalls$OldWay", "bestBehind", "(II)I"⟩, 2) := ⟨⟨by decide +kernel, by decide +kernel⟩, List.mem_of_getElem? (i := 75) (by decide +kernel), List.mem_of_getElem? (i := 349) (by decide +kernel), List.mem_of_getElem? (i := 350) (by decide +kernel)⟩
def lw_privs_2 : List (MethodName × Nat) := [(⟨"WetWalls$Wall", "countFrost", "(I)V"⟩, 12), (⟨"WetWalls$Wall", "countMould", "(I)V"⟩, 12), (⟨"WetWalls", "hourBehind", "(I)I"⟩, 10), (⟨"WetWalls", "roundKeepsWater", "()Z"⟩, 10), (⟨"WetWalls$Wall", "becomeAs", "(LWetWalls$Wall;)V"⟩, 12), (⟨"WetWalls$Wall", "holdsSameWaterAs", "(LWetWalls$Wall;)Z"⟩, 12), (⟨"WetWalls", "faceRefusal", "(II)I"⟩, 10), (⟨"WetWalls", "hourRefusal", "(I)I"⟩, 10), (⟨"WetWalls$OldWay", "pressureAt", "(LWetWalls$Wall;[II)I"⟩, 2), (⟨"WetWalls$OldWay", "pressureBehind", "(LWetWalls$Wall;[II)I"⟩, 2), (⟨"WetWalls$OldWay", "warmthAt", "(LWetWalls$Wall;[II)I"⟩, 2), (⟨"WetWalls$OldWay", "warmthBehind", "(LWetWalls$Wall;[II)I"⟩, 2), (⟨"WetWalls$OldWay", "excessBehind", "(LWetWalls$Wall;[II)I"⟩, 2), (⟨"WetWalls$OldWay", "findBestOrder", "(LWetWalls$Wall;[I)I"⟩, 2), (⟨"WetWalls$OldWay", "weighSets", "(LWetWalls$Wall;[I)V"⟩, 2), (⟨"WetWalls$OldWay", "bestBehind", "(II)I"⟩, 2)]
theorem lw_r2 : ∀ q ∈ lw_privs_2, lw_okq q := List.forall_mem_cons.mpr ⟨lw_p16, List.forall_mem_cons.mpr ⟨lw_p17, List.forall_mem_cons.mpr ⟨lw_p18, List.forall_mem_cons.mpr ⟨lw_p19, List.forall_mem_cons.mpr ⟨lw_p20, List.forall_mem_cons.mpr ⟨lw_p21, List.forall_mem_cons.mpr ⟨lw_p22, List.forall_mem_cons.mpr ⟨lw_p23, List.forall_mem_cons.mpr ⟨lw_p24, List.forall_mem_cons.mpr ⟨lw_p25, List.forall_mem_cons.mpr ⟨lw_p26, List.forall_mem_cons.mpr ⟨lw_p27, List.forall_mem_cons.mpr ⟨lw_p28, List.forall_mem_cons.mpr ⟨lw_p29, List.forall_mem_cons.mpr ⟨lw_p30, List.forall_mem_cons.mpr ⟨lw_p31, fun _ h => absurd h List.not_mem_nil⟩⟩⟩⟩⟩⟩⟩⟩⟩⟩⟩⟩⟩⟩⟩⟩
theorem lw_p32 : lw_okq (⟨"WetWalls$Wall", "standInOrder", "([I)V"⟩, 12) := ⟨⟨by decide +kernel, by decide +kernel⟩, List.mem_of_getElem? (i := 16) (by decide +kernel), List.mem_of_getElem? (i := 362) (by decide +kernel), List.mem_of_getElem? (i := 363) (by decide +kernel)⟩
theorem lw_p33 : lw_okq (⟨"WetWalls$Wall", "reorder", "([I[I)V"⟩, 12) := ⟨⟨by decide +kernel, by decide +kernel⟩, List.mem_of_getElem? (i := 16) (by decide +kernel), List.mem_of_getElem? (i := 366) (by decide +kernel), List.mem_of_getElem? (i := 367) (by decide +kernel)⟩
theorem lw_p34 : lw_okq (⟨"WetWalls", "lastHourRead", "()I"⟩, 10) := ⟨⟨by decide +kernel, by decide +kernel⟩, List.mem_of_getElem? (i := 8) (by decide +kernel), List.mem_of_getElem? (i := 382) (by decide +kernel), List.mem_of_getElem? (i := 383) (by decide +kernel)⟩
theorem lw_p35 : lw_okq (⟨"WetWalls", "readingsHoldWith", "(II)Z"⟩, 10) := ⟨⟨by decide +kernel, by decide +kernel⟩, List.mem_of_getElem? (i := 8) (by decide +kernel), List.mem_of_getElem? (i := 387) (by decide +kernel), List.mem_of_getElem? (i := 388) (by decide +kernel)⟩
theorem lw_p36 : lw_okq (⟨"WetWalls", "readingsHoldBehind", "(I)Z"⟩, 10) := ⟨⟨by decide +kernel, by decide +kernel⟩, List.mem_of_getElem? (i := 8) (by decide +kernel), List.mem_of_getElem? (i := 392) (by decide +kernel), List.mem_of_getElem? (i := 393) (by decide +kernel)⟩
theorem lw_p37 : lw_okq (⟨"WetWalls", "tellCount", "(I)I"⟩, 10) := ⟨⟨by decide +kernel, by decide +kernel⟩, List.mem_of_getElem? (i := 8) (by decide +kernel), List.mem_of_getElem? (i := 401) (by decide +kernel), List.mem_of_getElem? (i := 402) (by decide +kernel)⟩
theorem lw_p38 : lw_okq (⟨"WetWalls$Wall", "allWater", "()I"⟩, 12) := ⟨⟨by decide +kernel, by decide +kernel⟩, List.mem_of_getElem? (i := 16) (by decide +kernel), List.mem_of_getElem? (i := 405) (by decide +kernel), List.mem_of_getElem? (i := 406) (by decide +kernel)⟩
theorem lw_p39 : lw_okq (⟨"WetWallsModel", "isLayer", "(I)Z"⟩, 26) := ⟨⟨by decide +kernel, by decide +kernel⟩, List.mem_of_getElem? (i := 421) (by decide +kernel), List.mem_of_getElem? (i := 529) (by decide +kernel), List.mem_of_getElem? (i := 530) (by decide +kernel)⟩
theorem lw_p40 : lw_okq (⟨"WetWallsModel", "aboutOf", "(II)I"⟩, 26) := ⟨⟨by decide +kernel, by decide +kernel⟩, List.mem_of_getElem? (i := 421) (by decide +kernel), List.mem_of_getElem? (i := 537) (by decide +kernel), List.mem_of_getElem? (i := 538) (by decide +kernel)⟩
theorem lw_p41 : lw_okq (⟨"WetWallsModel", "damp", "(I)I"⟩, 26) := ⟨⟨by decide +kernel, by decide +kernel⟩, List.mem_of_getElem? (i := 421) (by decide +kernel), List.mem_of_getElem? (i := 541) (by decide +kernel), List.mem_of_getElem? (i := 542) (by decide +kernel)⟩
theorem lw_p42 : lw_okq (⟨"WetWallsModel", "mayGo", "()Z"⟩, 26) := ⟨⟨by decide +kernel, by decide +kernel⟩, List.mem_of_getElem? (i := 421) (by decide +kernel), List.mem_of_getElem? (i := 565) (by decide +kernel), List.mem_of_getElem? (i := 566) (by decide +kernel)⟩
theorem lw_p43 : lw_okq (⟨"WetWallsModel", "goOn", "()V"⟩, 26) := ⟨⟨by decide +kernel, by decide +kernel⟩, List.mem_of_getElem? (i := 421) (by decide +kernel), List.mem_of_getElem? (i := 569) (by decide +kernel), List.mem_of_getElem? (i := 570) (by decide +kernel)⟩
theorem lw_p44 : lw_okq (⟨"WetWallsModel", "cross", "(II)V"⟩, 26) := ⟨⟨by decide +kernel, by decide +kernel⟩, List.mem_of_getElem? (i := 421) (by decide +kernel), List.mem_of_getElem? (i := 573) (by decide +kernel), List.mem_of_getElem? (i := 574) (by decide +kernel)⟩
theorem lw_p45 : lw_okq (⟨"WetWallsModel", "heatOf", "(I)I"⟩, 26) := ⟨⟨by decide +kernel, by decide +kernel⟩, List.mem_of_getElem? (i := 421) (by decide +kernel), List.mem_of_getElem? (i := 577) (by decide +kernel), List.mem_of_getElem? (i := 578) (by decide +kernel)⟩
theorem lw_p46 : lw_okq (⟨"WetWallsModel", "refusal", "(I)I"⟩, 26) := ⟨⟨by decide +kernel, by decide +kernel⟩, List.mem_of_getElem? (i := 421) (by decide +kernel), List.mem_of_getElem? (i := 598) (by decide +kernel), List.mem_of_getElem? (i := 599) (by decide +kernel)⟩
theorem lw_p47 : lw_okq (⟨"WetWallsModel", "isHour", "(I)Z"⟩, 26) := ⟨⟨by decide +kernel, by decide +kernel⟩, List.mem_of_getElem? (i := 421) (by decide +kernel), List.mem_of_getElem? (i := 602) (by decide +kernel), List.mem_of_getElem? (i := 603) (by decide +kernel)⟩
def lw_privs_3 : List (MethodName × Nat) := [(⟨"WetWalls$Wall", "standInOrder", "([I)V"⟩, 12), (⟨"WetWalls$Wall", "reorder", "([I[I)V"⟩, 12), (⟨"WetWalls", "lastHourRead", "()I"⟩, 10), (⟨"WetWalls", "readingsHoldWith", "(II)Z"⟩, 10), (⟨"WetWalls", "readingsHoldBehind", "(I)Z"⟩, 10), (⟨"WetWalls", "tellCount", "(I)I"⟩, 10), (⟨"WetWalls$Wall", "allWater", "()I"⟩, 12), (⟨"WetWallsModel", "isLayer", "(I)Z"⟩, 26), (⟨"WetWallsModel", "aboutOf", "(II)I"⟩, 26), (⟨"WetWallsModel", "damp", "(I)I"⟩, 26), (⟨"WetWallsModel", "mayGo", "()Z"⟩, 26), (⟨"WetWallsModel", "goOn", "()V"⟩, 26), (⟨"WetWallsModel", "cross", "(II)V"⟩, 26), (⟨"WetWallsModel", "heatOf", "(I)I"⟩, 26), (⟨"WetWallsModel", "refusal", "(I)I"⟩, 26), (⟨"WetWallsModel", "isHour", "(I)Z"⟩, 26)]
theorem lw_r3 : ∀ q ∈ lw_privs_3, lw_okq q := List.forall_mem_cons.mpr ⟨lw_p32, List.forall_mem_cons.mpr ⟨lw_p33, List.forall_mem_cons.mpr ⟨lw_p34, List.forall_mem_cons.mpr ⟨lw_p35, List.forall_mem_cons.mpr ⟨lw_p36, List.forall_mem_cons.mpr ⟨lw_p37, List.forall_mem_cons.mpr ⟨lw_p38, List.forall_mem_cons.mpr ⟨lw_p39, List.forall_mem_cons.mpr ⟨lw_p40, List.forall_mem_cons.mpr ⟨lw_p41, List.forall_mem_cons.mpr ⟨lw_p42, List.forall_mem_cons.mpr ⟨lw_p43, List.forall_mem_cons.mpr ⟨lw_p44, List.forall_mem_cons.mpr ⟨lw_p45, List.forall_mem_cons.mpr ⟨lw_p46, List.forall_mem_cons.mpr ⟨lw_p47, fun _ h => absurd h List.not_mem_nil⟩⟩⟩⟩⟩⟩⟩⟩⟩⟩⟩⟩⟩⟩⟩⟩
theorem lw_p48 : lw_okq (⟨"WetWallsModel", "plain", "()V"⟩, 26) := ⟨⟨by decide +kernel, by decide +kernel⟩, List.mem_of_getElem? (i := 421) (by decide +kernel), List.mem_of_getElem? (i := 606) (by decide +kernel), List.mem_of_getElem? (i := 607) (by decide +kernel)⟩
theorem lw_p49 : lw_okq (⟨"WetWallsModel", "pressureOf", "(II)I"⟩, 26) := ⟨⟨by decide +kernel, by decide +kernel⟩, List.mem_of_getElem? (i := 421) (by decide +kernel), List.mem_of_getElem? (i := 610) (by decide +kernel), List.mem_of_getElem? (i := 611) (by decide +kernel)⟩
theorem lw_p50 : lw_okq (⟨"WetWallsModel", "between", "(IIIZ)I"⟩, 26) := ⟨⟨by decide +kernel, by decide +kernel⟩, List.mem_of_getElem? (i := 421) (by decide +kernel), List.mem_of_getElem? (i := 617) (by decide +kernel), List.mem_of_getElem? (i := 618) (by decide +kernel)⟩
theorem lw_p51 : lw_okq (⟨"WetWallsModel", "warmthOf", "(II)I"⟩, 26) := ⟨⟨by decide +kernel, by decide +kernel⟩, List.mem_of_getElem? (i := 421) (by decide +kernel), List.mem_of_getElem? (i := 625) (by decide +kernel), List.mem_of_getElem? (i := 626) (by decide +kernel)⟩
theorem lw_p52 : lw_okq (⟨"WetWallsModel", "excessOf", "(II)I"⟩, 26) := ⟨⟨by decide +kernel, by decide +kernel⟩, List.mem_of_getElem? (i := 421) (by decide +kernel), List.mem_of_getElem? (i := 633) (by decide +kernel), List.mem_of_getElem? (i := 634) (by decide +kernel)⟩
theorem lw_p53 : lw_okq (⟨"WetWallsModel", "findBest", "(I)I"⟩, 26) := ⟨⟨by decide +kernel, by decide +kernel⟩, List.mem_of_getElem? (i := 421) (by decide +kernel), List.mem_of_getElem? (i := 641) (by decide +kernel), List.mem_of_getElem? (i := 642) (by decide +kernel)⟩
theorem lw_p54 : lw_okq (⟨"WetWallsModel", "goOnOrder", "()Z"⟩, 26) := ⟨⟨by decide +kernel, by decide +kernel⟩, List.mem_of_getElem? (i := 421) (by decide +kernel), List.mem_of_getElem? (i := 645) (by decide +kernel), List.mem_of_getElem? (i := 646) (by decide +kernel)⟩
theorem lw_p55 : lw_okq (⟨"WetWallsModel", "swap", "(II)V"⟩, 26) := ⟨⟨by decide +kernel, by decide +kernel⟩, List.mem_of_getElem? (i := 421) (by decide +kernel), List.mem_of_getElem? (i := 649) (by decide +kernel), List.mem_of_getElem? (i := 650) (by decide +kernel)⟩
theorem lw_p56 : lw_okq (⟨"WetWallsModel", "layAside", "()V"⟩, 26) := ⟨⟨by decide +kernel, by decide +kernel⟩, List.mem_of_getElem? (i := 421) (by decide +kernel), List.mem_of_getElem? (i := 661) (by decide +kernel), List.mem_of_getElem? (i := 662) (by decide +kernel)⟩
theorem lw_p57 : lw_okq (⟨"WetWallsModel", "fetch", "(II)V"⟩, 26) := ⟨⟨by decide +kernel, by decide +kernel⟩, List.mem_of_getElem? (i := 421) (by decide +kernel), List.mem_of_getElem? (i := 665) (by decide +kernel), List.mem_of_getElem? (i := 666) (by decide +kernel)⟩
def lw_privs_4 : List (MethodName × Nat) := [(⟨"WetWallsModel", "plain", "()V"⟩, 26), (⟨"WetWallsModel", "pressureOf", "(II)I"⟩, 26), (⟨"WetWallsModel", "between", "(IIIZ)I"⟩, 26), (⟨"WetWallsModel", "warmthOf", "(II)I"⟩, 26), (⟨"WetWallsModel", "excessOf", "(II)I"⟩, 26), (⟨"WetWallsModel", "findBest", "(I)I"⟩, 26), (⟨"WetWallsModel", "goOnOrder", "()Z"⟩, 26), (⟨"WetWallsModel", "swap", "(II)V"⟩, 26), (⟨"WetWallsModel", "layAside", "()V"⟩, 26), (⟨"WetWallsModel", "fetch", "(II)V"⟩, 26)]
theorem lw_r4 : ∀ q ∈ lw_privs_4, lw_okq q := List.forall_mem_cons.mpr ⟨lw_p48, List.forall_mem_cons.mpr ⟨lw_p49, List.forall_mem_cons.mpr ⟨lw_p50, List.forall_mem_cons.mpr ⟨lw_p51, List.forall_mem_cons.mpr ⟨lw_p52, List.forall_mem_cons.mpr ⟨lw_p53, List.forall_mem_cons.mpr ⟨lw_p54, List.forall_mem_cons.mpr ⟨lw_p55, List.forall_mem_cons.mpr ⟨lw_p56, List.forall_mem_cons.mpr ⟨lw_p57, fun _ h => absurd h List.not_mem_nil⟩⟩⟩⟩⟩⟩⟩⟩⟩⟩
def lw_privs : List (MethodName × Nat) := lw_privs_1 ++ (lw_privs_2 ++ (lw_privs_3 ++ (lw_privs_4)))
def lw_tbl : List Cond := k2_sels lw_privs ++ tables_1
theorem lw_privs_ok : ∀ q ∈ lw_privs, lw_okq q := by
  show ∀ q ∈ lw_privs_1 ++ (lw_privs_2 ++ (lw_privs_3 ++ (lw_privs_4))), lw_okq q
  exact List.forall_mem_append.mpr ⟨lw_r1, List.forall_mem_append.mpr ⟨lw_r2, List.forall_mem_append.mpr ⟨lw_r3, lw_r4⟩⟩⟩
end
section
/-- (wanting in the kit: the printed row va_mna names it) -/
def va_AOA (ty : FieldType) (U : State) : Prop := (Cond.arrayOver (.array ty)).before #[] U = true
theorem va_AOA.use {ty : FieldType} {A : Array Value} {U : State} (h : va_AOA ty U) : (Cond.arrayOver (.array ty)).before A U = true := h
/-! ===== BEGIN words of one list among another's, by their places ===== -/
theorem goodIn_r {big : List Cond} (ws : List Cond) (ps : List Nat) (hp : ws = ps.filterMap (fun i => big[i]?)) (h : ws.all goodWord = true) : GoodIn big ws := by
  intro w hw
  have h1 := List.all_eq_true.mp h w hw
  rw [hp] at hw
  obtain ⟨i, -, hi⟩ := List.mem_filterMap.mp hw
  have hm : w ∈ big := by first | exact List.mem_of_getElem? hi | exact List.getElem?_mem hi
  exact ⟨hm, good_of_word h1⟩
theorem goodIn_app {big a b : List Cond} (ha : GoodIn big a) (hb : GoodIn big b) : GoodIn big (a ++ b) := fun w h => (List.mem_append.mp h).elim (ha w) (hb w)
theorem goodIn_ca {big a b : List Cond} {c : Cond} (ha : GoodIn big (c :: a)) (hb : GoodIn big b) : GoodIn big (c :: (a ++ b)) := fun w h => (List.mem_cons.mp h).elim (fun e => ha w (List.mem_cons.mpr (Or.inl e))) (fun h => (List.mem_append.mp h).elim (fun h => ha w (List.mem_cons.mpr (Or.inr h))) (hb w))
theorem goodIn_sub {big ws : List Cond} (hm : ∀ w ∈ ws, w ∈ big) (h : ws.all goodWord = true) : GoodIn big ws := fun w hw => ⟨hm w hw, good_of_word (List.all_eq_true.mp h w hw)⟩
/-! ===== END ===== -/

/-! ===== BEGIN new T[n][m]: the outer array a place, the inner ones among the pooled ===== -/
/-- f, but v at every address of l -/
def vr_up {α : Type} (f : Nat → α) (l : List Nat) (v : α) : Nat → α := fun a => if a ∈ l then v else f a
theorem vr_up_in {α : Type} {f : Nat → α} {l : List Nat} {v : α} {a : Nat} (h : a ∈ l) : vr_up f l v a = v := if_pos h
theorem vr_up_ne {α : Type} {f : Nat → α} {l : List Nat} {v : α} {a : Nat} (h : a ∉ l) : vr_up f l v a = f a := if_neg h
theorem vr_rows {L l : List Nat} {f : Nat → va_E} {e : va_E} (h : ∀ a, a ∈ l → a ∉ L) : va_pl L f ++ l.map (fun a => (a, e)) = va_pl (L ++ l) (vr_up f l e) := by
  unfold va_pl
  rw [List.map_append]
  congr 1
  · apply List.map_congr_left
    intro a ha
    rw [vr_up_ne (fun q => h a q ha)]
  · apply List.map_congr_left
    intro a ha
    rw [vr_up_in ha]
theorem vr_lay {X rows : va_W} {x : Nat × va_E} {pl : va_W} {D : va_G} {cl : List vw_C} {H : Heap} (hP : va_P D cl (((X ++ pl) ++ [x]) ++ rows) H) : va_P D cl ((X ++ [x]) ++ (pl ++ rows)) H := by
  rw [List.append_assoc (X ++ pl)] at hP
  have h := va_P.swap hP
  rw [← List.append_assoc X] at h
  have h2 := va_P.swap h
  rw [List.append_assoc (X ++ [x])] at h2
  exact h2
theorem vr_layD {X rows : va_W} {x : Nat × va_E} {pl : va_W} {A : Nat → Prop} (hD : va_D A (((X ++ pl) ++ [x]) ++ rows)) : va_D A ((X ++ [x]) ++ (pl ++ rows)) := by
  rw [List.append_assoc (X ++ pl)] at hD
  have h := va_D.swap hD
  rw [← List.append_assoc X] at h
  have h2 := va_D.swap h
  rw [List.append_assoc (X ++ [x])] at h2
  exact h2
theorem vr_outer (c : ClassId) (N h0 : Nat) : ∀ i : Nat, Jvm.Free.Multi.outerC c N h0 i = arrV c N (fun j => va_rf (if j < i then some (h0 + 1 + j) else none))
  | 0 => by
    show ({ cls := c, slots := Array.replicate N .null, vm := .none } : Cell) = _
    rw [arrV_new]
    refine congrArg (arrV c N) (funext fun j => ?_)
    simp [va_rf]
  | i + 1 => by
    show (Jvm.Free.Multi.outerC c N h0 i).setSlot i (.ref (h0 + 1 + i)) = _
    rw [vr_outer c N h0 i, arrV_store]
    refine congrArg (arrV c N) (funext fun j => ?_)
    by_cases e : j = i
    · subst e
      simp [updV, va_rf]
    · by_cases h : j < i
      · simp [updV, e, h, Nat.lt_succ_of_lt h]
      · simp [updV, e, h, show ¬ j < i + 1 by omega]
section VGM
variable {p : Program} {l : Launch} {e : Env} {R : Room} {s : State} {m : MethodId} {args : Array Value} {below : List Frame} {meth : Method} {c : Code} {H : Heap} {locs : List Loc} {cells slots : Nat} {Q : State → Prop}
variable {cc : ByteArray} {pc : Nat} {ls : Array Slot} {rest : List Value} {D : va_G} {cl : List vw_C} {A : Nat → Prop} {a : Nat} {tys : List (ClassId × FieldType)} {ws : va_W} {H0 : Heap}
theorem va_mna {X : va_W} {L : List Nat} {f : Nat → va_E} {cc : ByteArray} (hexec : p.tables.exec = Jvm.exec) (hb : c.code = cc) {own : String} {index : Nat} {ty : FieldType} {cy : ClassId} (hown : s.vm.findClass own = some m.cls) (hclink : (Cond.classLink own index ("[" ++ (FieldType.array ty).toString)).before args s = true) (hover : va_AOA ty s) (harr : (Cond.arrayClass ty).before args s = true) (hcy : s.vm.findClass (FieldType.array ty).toString = some cy)
    (hK : va_K D cl tys s) (hP : va_P D cl (X ++ va_pl L f) H) (hD : va_D A (X ++ va_pl L f)) (hS : va_S A H0 H locs) (hA : ∀ q, H0.size ≤ q → A q) {n k : Int32} {N' K' : Nat} {z : vp_A} (hn : ¬ n < 0) (hk : ¬ k < 0) (hN : n.toNatClampNeg = N') (hM : k.toNatClampNeg = K')
    (hb1 : N' * 4 ≤ 536870912) (hb2 : K' * componentBytes ty ≤ 536870912) (hb3 : K' ≤ 536870912) (hdf : fits ty (defaultValue ty) = true) (hdd : (defaultValue ty).isDefault = true) (hcells : cells + (1 + N') ≤ R.cells) (hslots : slots + (N' + N' * K') ≤ R.slots) (hz : ∀ c : ClassId, Jvm.Free.Multi.innerC c K' (defaultValue ty) = vp_cell c z) (hdg : decode cc pc = .ok (.multianewarray index 2, 4))
    (kk : ∀ (q : Nat) (r : Nat → Nat) (cA : ClassId) (H1 : Heap), (∀ i j : Nat, i < N' → j < N' → r i = r j → i = j) → (∀ i : Nat, i < N' → r i ∉ L) → va_K D cl (tys ++ [(cA, .array ty)]) s →
      va_P D cl ((X ++ [(q, .inl (cA, N', .inr (.inr (.inr (.inr (fun i => if i < N' then some (r i) else none))))))]) ++ va_pl (L ++ (List.range N').map r) (vr_up f ((List.range N').map r) (.inl (cy, z)))) H1 → va_D A ((X ++ [(q, .inl (cA, N', .inr (.inr (.inr (.inr (fun i => if i < N' then some (r i) else none))))))]) ++ va_pl (L ++ (List.range N').map r) (vr_up f ((List.range N').map r) (.inl (cy, z)))) → va_S A H0 H1 locs →
      W p l e R s m args below meth c H1 locs (cells + 1 + N') (slots + N' + N' * K') Q (F0 m (pc + 4) ls (.ref q :: rest))) : W p l e R s m args below meth c H locs cells slots Q (F0 m pc ls (.int k :: .int n :: rest)) := by
  subst hN
  subst hM
  intro T hT Xs
  obtain ⟨vm₁, cA, comp, -, fA, fC, hO, -, X', step⟩ := Xs.multianewarray2F hexec hown hclink (va_AOA.use hover) harr (g := F0 m pc ls (.int k :: .int n :: rest)) rfl (by rw [hb]; exact hdg) rfl hn hk hb1 hb2 hb3 hdf hdd hcells hslots
  have ec : some cy = some comp := hcy.symm.trans fC
  cases ec
  generalize hF : Jvm.Free.Multi.fill (T.setVm vm₁) cA cy n.toNatClampNeg k.toNatClampNeg (defaultValue ty) n.toNatClampNeg = F at X' step
  have hTh : (T.setVm vm₁).heap = H := hT
  obtain ⟨f1, f2, -, -⟩ := Jvm.Free.Multi.fill_facts (T.setVm vm₁) cA cy n.toNatClampNeg k.toNatClampNeg (defaultValue ty) n.toNatClampNeg
  rw [hF, hTh] at f1 f2
  have hold : ∀ x : Nat, x < H.size → F.heap[x]? = H[x]? := fun x hx => by
    have := Jvm.Free.Multi.fill_old (T.setVm vm₁) cA cy n.toNatClampNeg k.toNatClampNeg (defaultValue ty) (a := x) (by rw [hTh]; exact hx) n.toNatClampNeg
    rw [hF, hTh] at this
    exact this
  have hrow : ∀ j : Nat, j < n.toNatClampNeg → F.heap[H.size + 1 + j]? = some (vp_cell cy z) := fun j hj => by
    have := Jvm.Free.Multi.fill_inner (T.setVm vm₁) cA cy n.toNatClampNeg k.toNatClampNeg (defaultValue ty) n.toNatClampNeg j hj
    rw [hF, hTh, hz] at this
    exact this
  have hout : Jvm.Free.Multi.outerC cA n.toNatClampNeg H.size n.toNatClampNeg = vp_cell cA (n.toNatClampNeg, .inr (.inr (.inr (.inr (fun i => if i < n.toNatClampNeg then some (H.size + 1 + i) else none))))) := by
    rw [vp_cell_q]
    exact vr_outer cA n.toNatClampNeg H.size n.toNatClampNeg
  rw [hout] at f2
  have hlt : ∀ a, a ∈ L → a < H.size := fun a ha => by
    obtain ⟨k9, hk9⟩ := va_pl_get (X := X) (f := f) ha
    exact (hP k9 _ hk9).lt
  have hnl : ∀ i : Nat, i < n.toNatClampNeg → H.size + 1 + i ∉ L := fun i _ h => by
    have := hlt _ h
    omega
  have hnm : ∀ a, a ∈ (List.range n.toNatClampNeg).map (fun i => H.size + 1 + i) → a ∉ L := fun a ha h => by
    obtain ⟨i, -, rfl⟩ := List.mem_map.mp ha
    have := hlt _ h
    omega
  have hP0 : va_P D cl (X ++ va_pl L f) F.heap := hP.kept (fun k9 x hx => hold x.1 ((hP k9 x hx).lt))
  have hP1 : va_P D cl ((X ++ va_pl L f) ++ [(H.size, .inl (cA, n.toNatClampNeg, .inr (.inr (.inr (.inr (fun i => if i < n.toNatClampNeg then some (H.size + 1 + i) else none))))))]) F.heap := hP0.app (fun k9 x hx => by
    have h0 : k9 < 1 := (List.getElem?_eq_some_iff.mp hx).1
    rw [show k9 = 0 by omega] at hx
    cases hx
    exact f2)
  have hP2 : va_P D cl (((X ++ va_pl L f) ++ [(H.size, .inl (cA, n.toNatClampNeg, .inr (.inr (.inr (.inr (fun i => if i < n.toNatClampNeg then some (H.size + 1 + i) else none))))))]) ++ ((List.range n.toNatClampNeg).map (fun i => H.size + 1 + i)).map (fun a => (a, .inl (cy, z)))) F.heap := hP1.app (fun k9 x hx => by
    obtain ⟨a, ha, rfl⟩ := List.mem_map.mp (List.mem_of_getElem? hx)
    obtain ⟨i, hi, rfl⟩ := List.mem_map.mp ha
    exact hrow i (List.mem_range.mp hi))
  have hD2 : va_D A (((X ++ va_pl L f) ++ [(H.size, .inl (cA, n.toNatClampNeg, .inr (.inr (.inr (.inr (fun i => if i < n.toNatClampNeg then some (H.size + 1 + i) else none))))))]) ++ ((List.range n.toNatClampNeg).map (fun i => H.size + 1 + i)).map (fun a => (a, .inl (cy, z)))) := by
    have hD1 := hD.push (e := .inl (cA, n.toNatClampNeg, .inr (.inr (.inr (.inr (fun i => if i < n.toNatClampNeg then some (H.size + 1 + i) else none)))))) hP rfl (hA _ hS.1)
    generalize hW1 : (X ++ va_pl L f) ++ [(H.size, .inl (cA, n.toNatClampNeg, .inr (.inr (.inr (.inr (fun i => if i < n.toNatClampNeg then some (H.size + 1 + i) else none))))))] = W1 at hD1 hP1 ⊢
    have hle : ∀ (k9 : Nat) (x : Nat × va_E), W1[k9]? = some x → x.1 ≤ H.size := fun k9 x hx => by
      rw [← hW1] at hx
      by_cases hl : k9 < (X ++ va_pl L f).length
      · rw [List.getElem?_append_left hl] at hx
        exact Nat.le_of_lt ((hP k9 x hx).lt)
      · rw [List.getElem?_append_right (by omega)] at hx
        have h0 : k9 - (X ++ va_pl L f).length < 1 := (List.getElem?_eq_some_iff.mp hx).1
        rw [show k9 - (X ++ va_pl L f).length = 0 by omega] at hx
        cases hx
        exact Nat.le_refl _
    have hr : ∀ (k9 : Nat) (x : Nat × va_E), (((List.range n.toNatClampNeg).map (fun i => H.size + 1 + i)).map (fun a => ((a, .inl (cy, z)) : Nat × va_E)))[k9]? = some x → x.1 = H.size + 1 + k9 := fun k9 x hx => by
      rw [List.getElem?_map, List.getElem?_map] at hx
      by_cases h9 : k9 < n.toNatClampNeg
      · rw [List.getElem?_range h9] at hx
        cases hx
        rfl
      · have hn0 : (List.range n.toNatClampNeg)[k9]? = none := List.getElem?_eq_none (by rw [List.length_range]; omega)
        rw [hn0] at hx
        cases hx
    refine ⟨fun i j x y hi hj hxy => ?_, fun k9 x hx => ?_⟩
    · by_cases h1 : i < W1.length <;> by_cases h2 : j < W1.length
      · rw [List.getElem?_append_left h1] at hi
        rw [List.getElem?_append_left h2] at hj
        exact hD1.1 i j x y hi hj hxy
      · rw [List.getElem?_append_left h1] at hi
        rw [List.getElem?_append_right (by omega)] at hj
        have := hle _ _ hi
        have := hr _ _ hj
        omega
      · rw [List.getElem?_append_right (by omega)] at hi
        rw [List.getElem?_append_left h2] at hj
        have := hle _ _ hj
        have := hr _ _ hi
        omega
      · rw [List.getElem?_append_right (by omega)] at hi hj
        have := hr _ _ hi
        have := hr _ _ hj
        omega
    · by_cases h1 : k9 < W1.length
      · rw [List.getElem?_append_left h1] at hx
        exact hD1.2 k9 x hx
      · rw [List.getElem?_append_right (by omega)] at hx
        have := hr _ _ hx
        exact hA _ (by have := hS.1; omega)
  have hAr : ArrOfT s cA (.array ty) := fun N9 z9 => by
    obtain ⟨-, k9, hk9, cm9, hkk9⟩ := (hO 0 0 0).1
    exact ⟨(fun q hq => by cases hq), k9, hk9, cm9, hkk9⟩
  have hK2 : va_K D cl (tys ++ [(cA, .array ty)]) s := ⟨hK.1, fun k9 x hx => by
    by_cases hl : k9 < tys.length
    · rw [List.getElem?_append_left hl] at hx
      exact hK.2 k9 x hx
    · rw [List.getElem?_append_right (by omega)] at hx
      have h0 : k9 - tys.length < 1 := (List.getElem?_eq_some_iff.mp hx).1
      rw [show k9 - tys.length = 0 by omega] at hx
      cases hx
      exact ⟨hAr, fA⟩⟩
  obtain ⟨t, a1, b1⟩ := kk H.size (fun i => H.size + 1 + i) cA F.heap (fun i j _ _ h => by have h9 : H.size + 1 + i = H.size + 1 + j := h; omega) hnl hK2 (by rw [← vr_rows hnm]; exact vr_lay hP2) (by rw [← vr_rows hnm]; exact vr_layD hD2) ⟨by rw [f1]; have := hS.1; omega, fun x h1 h2 => (hold x (Nat.lt_of_lt_of_le h1 hS.1)).trans (hS.2.1 x h1 h2), hS.2.2⟩ F rfl X'
  refine ⟨t, step t ?_, b1⟩
  have e : T.heap.size = H.size := by rw [hT]
  rw [e]
  exact a1
end VGM
/-! ===== END ===== -/

def RX0 : String := "WetWalls$OldWay"
def TX0 : u_T := fun k => match k with
  | 0 => ("WetWalls$OldWay", "leastBehind", "[I", true)
  | _ => ("WetWalls$OldWay", "order", "[I", true)
def tyX0 : Nat → FieldType := fun k => match k with
  | 0 => .array .int
  | _ => .array .int
abbrev wsX00 : List Cond := u_ws RX0 TX0 2
theorem nmX0 : ∀ a, a < 2 → ∀ b, b < 2 → a ≠ b → (TX0 a).2.1 ≠ (TX0 b).2.1 := by decide +kernel
theorem tyX0_ok : ∀ k, k < 2 → parseFieldDescriptor (TX0 k).2.2.1 = some (tyX0 k) := by decide +kernel
abbrev cX0_init : ByteArray := prog_2_method_1_code
def yX0_init : MethodName := ⟨RX0, "<init>", "()V"⟩
abbrev cX0_saturation : ByteArray := prog_2_method_2_code
def yX0_saturation : MethodName := ⟨RX0, "saturation", "(I)I"⟩
abbrev cX0_pressureIn : ByteArray := prog_2_method_3_code
def yX0_pressureIn : MethodName := ⟨RX0, "pressureIn", "(II)I"⟩
abbrev cX0_between : ByteArray := prog_2_method_4_code
def yX0_between : MethodName := ⟨RX0, "between", "(IIII)I"⟩
abbrev cX0_pressureAt : ByteArray := prog_2_method_5_code
def yX0_pressureAt : MethodName := ⟨RX0, "pressureAt", "(LWetWalls$Wall;[II)I"⟩
abbrev cX0_warmthAt : ByteArray := prog_2_method_6_code
def yX0_warmthAt : MethodName := ⟨RX0, "warmthAt", "(LWetWalls$Wall;[II)I"⟩
abbrev cX0_pressureBehind : ByteArray := prog_2_method_7_code
def yX0_pressureBehind : MethodName := ⟨RX0, "pressureBehind", "(LWetWalls$Wall;[II)I"⟩
abbrev cX0_warmthBehind : ByteArray := prog_2_method_8_code
def yX0_warmthBehind : MethodName := ⟨RX0, "warmthBehind", "(LWetWalls$Wall;[II)I"⟩
abbrev cX0_excessBehind : ByteArray := prog_2_method_9_code
def yX0_excessBehind : MethodName := ⟨RX0, "excessBehind", "(LWetWalls$Wall;[II)I"⟩
abbrev cX0_findBestOrder : ByteArray := prog_2_method_10_code
def yX0_findBestOrder : MethodName := ⟨RX0, "findBestOrder", "(LWetWalls$Wall;[I)I"⟩
abbrev cX0_weighSets : ByteArray := prog_2_method_11_code
def yX0_weighSets : MethodName := ⟨RX0, "weighSets", "(LWetWalls$Wall;[I)V"⟩
abbrev cX0_bestBehind : ByteArray := prog_2_method_12_code
def yX0_bestBehind : MethodName := ⟨RX0, "bestBehind", "(II)I"⟩
def RX1 : String := "WetWalls$Wall"
def TX1 : u_T := fun k => match k with
  | 0 => ("WetWalls$Wall", "corners", "[[I", true)
  | 1 => ("WetWalls$Wall", "room", "[I", true)
  | 2 => ("WetWalls$Wall", "steam", "[I", true)
  | 3 => ("WetWalls$Wall", "heat", "[I", true)
  | 4 => ("WetWalls$Wall", "curve", "[I", true)
  | 5 => ("WetWalls$Wall", "held", "[I", true)
  | 6 => ("WetWalls$Wall", "frost", "[I", true)
  | 7 => ("WetWalls$Wall", "mould", "[I", true)
  | 8 => ("WetWalls$Wall", "warm", "[I", true)
  | 9 => ("WetWalls$Wall", "sums", "[I", true)
  | 10 => ("WetWalls$Wall", "spare", "[I", true)
  | _ => ("WetWalls$Wall", "size", "I", false)
def tyX1 : Nat → FieldType := fun k => match k with
  | 0 => .array (.array .int)
  | 1 => .array .int
  | 2 => .array .int
  | 3 => .array .int
  | 4 => .array .int
  | 5 => .array .int
  | 6 => .array .int
  | 7 => .array .int
  | 8 => .array .int
  | 9 => .array .int
  | 10 => .array .int
  | _ => .int
abbrev wsX10 : List Cond := u_ws RX1 TX1 12
theorem nmX1 : ∀ a, a < 12 → ∀ b, b < 12 → a ≠ b → (TX1 a).2.1 ≠ (TX1 b).2.1 := by decide +kernel
theorem tyX1_ok : ∀ k, k < 12 → parseFieldDescriptor (TX1 k).2.2.1 = some (tyX1 k) := by decide +kernel
abbrev cX1_init : ByteArray := prog_3_method_1_code
def yX1_init : MethodName := ⟨RX1, "<init>", "()V"⟩
abbrev cX1_firstLayers : ByteArray := prog_3_method_2_code
def yX1_firstLayers : MethodName := ⟨RX1, "firstLayers", "(I)I"⟩
abbrev cX1_has : ByteArray := prog_3_method_3_code
def yX1_has : MethodName := ⟨RX1, "has", "(I)Z"⟩
abbrev cX1_addInside : ByteArray := prog_3_method_4_code
def yX1_addInside : MethodName := ⟨RX1, "addInside", "(IIII)V"⟩
abbrev cX1_empty : ByteArray := prog_3_method_5_code
def yX1_empty : MethodName := ⟨RX1, "empty", "()V"⟩
abbrev cX1_becomeAs : ByteArray := prog_3_method_6_code
def yX1_becomeAs : MethodName := ⟨RX1, "becomeAs", "(LWetWalls$Wall;)V"⟩
abbrev cX1_copyRow : ByteArray := prog_3_method_7_code
def yX1_copyRow : MethodName := ⟨RX1, "copyRow", "([I[I)V"⟩
abbrev cX1_standInOrder : ByteArray := prog_3_method_8_code
def yX1_standInOrder : MethodName := ⟨RX1, "standInOrder", "([I)V"⟩
abbrev cX1_reorder : ByteArray := prog_3_method_9_code
def yX1_reorder : MethodName := ⟨RX1, "reorder", "([I[I)V"⟩
abbrev cX1_tellOf : ByteArray := prog_3_method_10_code
def yX1_tellOf : MethodName := ⟨RX1, "tellOf", "(II)I"⟩
abbrev cX1_dampOf : ByteArray := prog_3_method_11_code
def yX1_dampOf : MethodName := ⟨RX1, "dampOf", "(I)I"⟩
abbrev cX1_allWater : ByteArray := prog_3_method_12_code
def yX1_allWater : MethodName := ⟨RX1, "allWater", "()I"⟩
abbrev cX1_holdsSameWaterAs : ByteArray := prog_3_method_13_code
def yX1_holdsSameWaterAs : MethodName := ⟨RX1, "holdsSameWaterAs", "(LWetWalls$Wall;)Z"⟩
abbrev cX1_letHourPass : ByteArray := prog_3_method_14_code
def yX1_letHourPass : MethodName := ⟨RX1, "letHourPass", "([II)V"⟩
abbrev cX1_moveWater : ByteArray := prog_3_method_15_code
def yX1_moveWater : MethodName := ⟨RX1, "moveWater", "([II)V"⟩
abbrev cX1_takeRain : ByteArray := prog_3_method_16_code
def yX1_takeRain : MethodName := ⟨RX1, "takeRain", "(I)V"⟩
abbrev cX1_crossBorder : ByteArray := prog_3_method_17_code
def yX1_crossBorder : MethodName := ⟨RX1, "crossBorder", "(I[I)V"⟩
abbrev cX1_steamResist : ByteArray := prog_3_method_18_code
def yX1_steamResist : MethodName := ⟨RX1, "steamResist", "(I)I"⟩
abbrev cX1_waterToGive : ByteArray := prog_3_method_19_code
def yX1_waterToGive : MethodName := ⟨RX1, "waterToGive", "(I)I"⟩
abbrev cX1_freeRoom : ByteArray := prog_3_method_20_code
def yX1_freeRoom : MethodName := ⟨RX1, "freeRoom", "(I)I"⟩
abbrev cX1_addWater : ByteArray := prog_3_method_21_code
def yX1_addWater : MethodName := ⟨RX1, "addWater", "(II)V"⟩
abbrev cX1_feelWarmth : ByteArray := prog_3_method_22_code
def yX1_feelWarmth : MethodName := ⟨RX1, "feelWarmth", "(II)V"⟩
abbrev cX1_countFrost : ByteArray := prog_3_method_23_code
def yX1_countFrost : MethodName := ⟨RX1, "countFrost", "(I)V"⟩
abbrev cX1_countMould : ByteArray := prog_3_method_24_code
def yX1_countMould : MethodName := ⟨RX1, "countMould", "(I)V"⟩
abbrev cX1_resistOf : ByteArray := prog_3_method_25_code
def yX1_resistOf : MethodName := ⟨RX1, "resistOf", "([II)I"⟩
def RX2 : String := "WetWalls"
def TX2 : u_T := fun k => match k with
  | 0 => ("WetWalls", "wall", "LWetWalls$Wall;", true)
  | 1 => ("WetWalls", "trialWall", "LWetWalls$Wall;", true)
  | 2 => ("WetWalls", "oldWay", "LWetWalls$OldWay;", true)
  | 3 => ("WetWalls", "hours", "[[I", true)
  | 4 => ("WetWalls", "hoursHeld", "I", false)
  | 5 => ("WetWalls", "nextHour", "I", false)
  | 6 => ("WetWalls", "shareNow", "I", false)
  | 7 => ("WetWalls", "readings", "[[I", true)
  | 8 => ("WetWalls", "readingsHeld", "I", false)
  | _ => ("WetWalls", "fitsDone", "I", false)
def tyX2 : Nat → FieldType := fun k => match k with
  | 0 => .object "WetWalls$Wall"
  | 1 => .object "WetWalls$Wall"
  | 2 => .object "WetWalls$OldWay"
  | 3 => .array (.array .int)
  | 4 => .int
  | 5 => .int
  | 6 => .int
  | 7 => .array (.array .int)
  | 8 => .int
  | _ => .int
abbrev wsX20 : List Cond := u_ws RX2 TX2 10
theorem nmX2 : ∀ a, a < 10 → ∀ b, b < 10 → a ≠ b → (TX2 a).2.1 ≠ (TX2 b).2.1 := by decide +kernel
theorem tyX2_ok : ∀ k, k < 10 → parseFieldDescriptor (TX2 k).2.2.1 = some (tyX2 k) := by decide +kernel
abbrev cX2_init : ByteArray := prog_1_method_1_code
def yX2_init : MethodName := ⟨RX2, "<init>", "()V"⟩
abbrev cX2_layer : ByteArray := prog_1_method_2_code
def yX2_layer : MethodName := ⟨RX2, "layer", "(IIII)I"⟩
abbrev cX2_clear : ByteArray := prog_1_method_3_code
def yX2_clear : MethodName := ⟨RX2, "clear", "()I"⟩
abbrev cX2_corner : ByteArray := prog_1_method_4_code
def yX2_corner : MethodName := ⟨RX2, "corner", "(III)I"⟩
abbrev cX2_water : ByteArray := prog_1_method_5_code
def yX2_water : MethodName := ⟨RX2, "water", "(II)I"⟩
abbrev cX2_about : ByteArray := prog_1_method_6_code
def yX2_about : MethodName := ⟨RX2, "about", "(II)I"⟩
abbrev cX2_hour : ByteArray := prog_1_method_7_code
def yX2_hour : MethodName := ⟨RX2, "hour", "(IIIII)I"⟩
abbrev cX2_fair : ByteArray := prog_1_method_8_code
def yX2_fair : MethodName := ⟨RX2, "fair", "()I"⟩
abbrev cX2_share : ByteArray := prog_1_method_9_code
def yX2_share : MethodName := ⟨RX2, "share", "(I)I"⟩
abbrev cX2_pass : ByteArray := prog_1_method_10_code
def yX2_pass : MethodName := ⟨RX2, "pass", "(I)I"⟩
abbrev cX2_steady : ByteArray := prog_1_method_11_code
def yX2_steady : MethodName := ⟨RX2, "steady", "(I)I"⟩
abbrev cX2_sum : ByteArray := prog_1_method_12_code
def yX2_sum : MethodName := ⟨RX2, "sum", "(I)I"⟩
abbrev cX2_pressure : ByteArray := prog_1_method_13_code
def yX2_pressure : MethodName := ⟨RX2, "pressure", "(II)I"⟩
abbrev cX2_warmth : ByteArray := prog_1_method_14_code
def yX2_warmth : MethodName := ⟨RX2, "warmth", "(II)I"⟩
abbrev cX2_excess : ByteArray := prog_1_method_15_code
def yX2_excess : MethodName := ⟨RX2, "excess", "(II)I"⟩
abbrev cX2_best : ByteArray := prog_1_method_16_code
def yX2_best : MethodName := ⟨RX2, "best", "(I)I"⟩
abbrev cX2_placed : ByteArray := prog_1_method_17_code
def yX2_placed : MethodName := ⟨RX2, "placed", "(II)I"⟩
abbrev cX2_arrange : ByteArray := prog_1_method_18_code
def yX2_arrange : MethodName := ⟨RX2, "arrange", "(I)I"⟩
abbrev cX2_read : ByteArray := prog_1_method_19_code
def yX2_read : MethodName := ⟨RX2, "read", "(IIII)I"⟩
abbrev cX2_forget : ByteArray := prog_1_method_20_code
def yX2_forget : MethodName := ⟨RX2, "forget", "()I"⟩
abbrev cX2_fits : ByteArray := prog_1_method_21_code
def yX2_fits : MethodName := ⟨RX2, "fits", "()I"⟩
abbrev cX2_count : ByteArray := prog_1_method_22_code
def yX2_count : MethodName := ⟨RX2, "count", "(I)I"⟩
abbrev cX2_digest : ByteArray := prog_1_method_23_code
def yX2_digest : MethodName := ⟨RX2, "digest", "()J"⟩
abbrev cX2_within : ByteArray := prog_1_method_24_code
def yX2_within : MethodName := ⟨RX2, "within", "(III)Z"⟩
abbrev cX2_isDamp : ByteArray := prog_1_method_25_code
def yX2_isDamp : MethodName := ⟨RX2, "isDamp", "(I)Z"⟩
abbrev cX2_isWarmth : ByteArray := prog_1_method_26_code
def yX2_isWarmth : MethodName := ⟨RX2, "isWarmth", "(I)Z"⟩
abbrev cX2_partDown : ByteArray := prog_1_method_27_code
def yX2_partDown : MethodName := ⟨RX2, "partDown", "(II)I"⟩
abbrev cX2_partCut : ByteArray := prog_1_method_28_code
def yX2_partCut : MethodName := ⟨RX2, "partCut", "(II)I"⟩
abbrev cX2_mix : ByteArray := prog_1_method_29_code
def yX2_mix : MethodName := ⟨RX2, "mix", "(JJ)J"⟩
abbrev cX2_mixRow : ByteArray := prog_1_method_30_code
def yX2_mixRow : MethodName := ⟨RX2, "mixRow", "(J[II)J"⟩
abbrev cX2_nothingCanPass : ByteArray := prog_1_method_31_code
def yX2_nothingCanPass : MethodName := ⟨RX2, "nothingCanPass", "()Z"⟩
abbrev cX2_hourBehind : ByteArray := prog_1_method_32_code
def yX2_hourBehind : MethodName := ⟨RX2, "hourBehind", "(I)I"⟩
abbrev cX2_roundKeepsWater : ByteArray := prog_1_method_33_code
def yX2_roundKeepsWater : MethodName := ⟨RX2, "roundKeepsWater", "()Z"⟩
abbrev cX2_hourRefusal : ByteArray := prog_1_method_34_code
def yX2_hourRefusal : MethodName := ⟨RX2, "hourRefusal", "(I)I"⟩
abbrev cX2_faceRefusal : ByteArray := prog_1_method_35_code
def yX2_faceRefusal : MethodName := ⟨RX2, "faceRefusal", "(II)I"⟩
abbrev cX2_lastHourRead : ByteArray := prog_1_method_36_code
def yX2_lastHourRead : MethodName := ⟨RX2, "lastHourRead", "()I"⟩
abbrev cX2_readingsHoldWith : ByteArray := prog_1_method_37_code
def yX2_readingsHoldWith : MethodName := ⟨RX2, "readingsHoldWith", "(II)Z"⟩
abbrev cX2_readingsHoldBehind : ByteArray := prog_1_method_38_code
def yX2_readingsHoldBehind : MethodName := ⟨RX2, "readingsHoldBehind", "(I)Z"⟩
abbrev cX2_tellCount : ByteArray := prog_1_method_39_code
def yX2_tellCount : MethodName := ⟨RX2, "tellCount", "(I)I"⟩
def RX3 : String := "WetWallsModel"
def TX3 : u_T := fun k => match k with
  | 0 => ("WetWallsModel", "n", "I", false)
  | 1 => ("WetWallsModel", "room", "[I", true)
  | 2 => ("WetWallsModel", "steam", "[I", true)
  | 3 => ("WetWallsModel", "heat", "[I", true)
  | 4 => ("WetWallsModel", "curve", "[I", true)
  | 5 => ("WetWallsModel", "water", "[I", true)
  | 6 => ("WetWallsModel", "frost", "[I", true)
  | 7 => ("WetWallsModel", "mould", "[I", true)
  | 8 => ("WetWallsModel", "warm", "[I", true)
  | 9 => ("WetWallsModel", "corners", "[I", true)
  | 10 => ("WetWallsModel", "sums", "[I", true)
  | 11 => ("WetWallsModel", "hours", "I", false)
  | 12 => ("WetWallsModel", "next", "I", false)
  | 13 => ("WetWallsModel", "share", "I", false)
  | 14 => ("WetWallsModel", "weather", "[I", true)
  | 15 => ("WetWallsModel", "before", "[I", true)
  | 16 => ("WetWallsModel", "order", "[I", true)
  | 17 => ("WetWallsModel", "bestOrder", "[I", true)
  | 18 => ("WetWallsModel", "aside", "[I", true)
  | 19 => ("WetWallsModel", "readings", "I", false)
  | 20 => ("WetWallsModel", "readLayer", "[I", true)
  | 21 => ("WetWallsModel", "readBehind", "[I", true)
  | 22 => ("WetWallsModel", "readLow", "[I", true)
  | 23 => ("WetWallsModel", "readHigh", "[I", true)
  | 24 => ("WetWallsModel", "fitted", "I", false)
  | _ => ("WetWallsModel", "sumsAside", "[I", true)
def tyX3 : Nat → FieldType := fun k => match k with
  | 0 => .int
  | 1 => .array .int
  | 2 => .array .int
  | 3 => .array .int
  | 4 => .array .int
  | 5 => .array .int
  | 6 => .array .int
  | 7 => .array .int
  | 8 => .array .int
  | 9 => .array .int
  | 10 => .array .int
  | 11 => .int
  | 12 => .int
  | 13 => .int
  | 14 => .array .int
  | 15 => .array .int
  | 16 => .array .int
  | 17 => .array .int
  | 18 => .array .int
  | 19 => .int
  | 20 => .array .int
  | 21 => .array .int
  | 22 => .array .int
  | 23 => .array .int
  | 24 => .int
  | _ => .array .int
abbrev wsX30 : List Cond := u_ws RX3 TX3 26
theorem nmX3 : ∀ a, a < 26 → ∀ b, b < 26 → a ≠ b → (TX3 a).2.1 ≠ (TX3 b).2.1 := by decide +kernel
theorem tyX3_ok : ∀ k, k < 26 → parseFieldDescriptor (TX3 k).2.2.1 = some (tyX3 k) := by decide +kernel
abbrev cX3_init : ByteArray := prog_5_method_1_code
def yX3_init : MethodName := ⟨RX3, "<init>", "()V"⟩
abbrev cX3_in : ByteArray := prog_5_method_2_code
def yX3_in : MethodName := ⟨RX3, "in", "(JJJ)Z"⟩
abbrev cX3_floor : ByteArray := prog_5_method_3_code
def yX3_floor : MethodName := ⟨RX3, "floor", "(II)I"⟩
abbrev cX3_isLayer : ByteArray := prog_5_method_4_code
def yX3_isLayer : MethodName := ⟨RX3, "isLayer", "(I)Z"⟩
abbrev cX3_layer : ByteArray := prog_5_method_5_code
def yX3_layer : MethodName := ⟨RX3, "layer", "(IIII)I"⟩
abbrev cX3_clear : ByteArray := prog_5_method_6_code
def yX3_clear : MethodName := ⟨RX3, "clear", "()I"⟩
abbrev cX3_corner : ByteArray := prog_5_method_7_code
def yX3_corner : MethodName := ⟨RX3, "corner", "(III)I"⟩
abbrev cX3_water : ByteArray := prog_5_method_8_code
def yX3_water : MethodName := ⟨RX3, "water", "(II)I"⟩
abbrev cX3_damp : ByteArray := prog_5_method_9_code
def yX3_damp : MethodName := ⟨RX3, "damp", "(I)I"⟩
abbrev cX3_aboutOf : ByteArray := prog_5_method_10_code
def yX3_aboutOf : MethodName := ⟨RX3, "aboutOf", "(II)I"⟩
abbrev cX3_about : ByteArray := prog_5_method_11_code
def yX3_about : MethodName := ⟨RX3, "about", "(II)I"⟩
abbrev cX3_hour : ByteArray := prog_5_method_12_code
def yX3_hour : MethodName := ⟨RX3, "hour", "(IIIII)I"⟩
abbrev cX3_fair : ByteArray := prog_5_method_13_code
def yX3_fair : MethodName := ⟨RX3, "fair", "()I"⟩
abbrev cX3_share : ByteArray := prog_5_method_14_code
def yX3_share : MethodName := ⟨RX3, "share", "(I)I"⟩
abbrev cX3_heatOf : ByteArray := prog_5_method_15_code
def yX3_heatOf : MethodName := ⟨RX3, "heatOf", "(I)I"⟩
abbrev cX3_cross : ByteArray := prog_5_method_16_code
def yX3_cross : MethodName := ⟨RX3, "cross", "(II)V"⟩
abbrev cX3_goOn : ByteArray := prog_5_method_17_code
def yX3_goOn : MethodName := ⟨RX3, "goOn", "()V"⟩
abbrev cX3_mayGo : ByteArray := prog_5_method_18_code
def yX3_mayGo : MethodName := ⟨RX3, "mayGo", "()Z"⟩
abbrev cX3_pass : ByteArray := prog_5_method_19_code
def yX3_pass : MethodName := ⟨RX3, "pass", "(I)I"⟩
abbrev cX3_steady : ByteArray := prog_5_method_20_code
def yX3_steady : MethodName := ⟨RX3, "steady", "(I)I"⟩
abbrev cX3_sum : ByteArray := prog_5_method_21_code
def yX3_sum : MethodName := ⟨RX3, "sum", "(I)I"⟩
abbrev cX3_isHour : ByteArray := prog_5_method_22_code
def yX3_isHour : MethodName := ⟨RX3, "isHour", "(I)Z"⟩
abbrev cX3_plain : ByteArray := prog_5_method_23_code
def yX3_plain : MethodName := ⟨RX3, "plain", "()V"⟩
abbrev cX3_saturation : ByteArray := prog_5_method_24_code
def yX3_saturation : MethodName := ⟨RX3, "saturation", "(I)I"⟩
abbrev cX3_between : ByteArray := prog_5_method_25_code
def yX3_between : MethodName := ⟨RX3, "between", "(IIIZ)I"⟩
abbrev cX3_pressureOf : ByteArray := prog_5_method_26_code
def yX3_pressureOf : MethodName := ⟨RX3, "pressureOf", "(II)I"⟩
abbrev cX3_warmthOf : ByteArray := prog_5_method_27_code
def yX3_warmthOf : MethodName := ⟨RX3, "warmthOf", "(II)I"⟩
abbrev cX3_excessOf : ByteArray := prog_5_method_28_code
def yX3_excessOf : MethodName := ⟨RX3, "excessOf", "(II)I"⟩
abbrev cX3_refusal : ByteArray := prog_5_method_29_code
def yX3_refusal : MethodName := ⟨RX3, "refusal", "(I)I"⟩
abbrev cX3_pressure : ByteArray := prog_5_method_30_code
def yX3_pressure : MethodName := ⟨RX3, "pressure", "(II)I"⟩
abbrev cX3_warmth : ByteArray := prog_5_method_31_code
def yX3_warmth : MethodName := ⟨RX3, "warmth", "(II)I"⟩
abbrev cX3_excess : ByteArray := prog_5_method_32_code
def yX3_excess : MethodName := ⟨RX3, "excess", "(II)I"⟩
abbrev cX3_goOnOrder : ByteArray := prog_5_method_33_code
def yX3_goOnOrder : MethodName := ⟨RX3, "goOnOrder", "()Z"⟩
abbrev cX3_swap : ByteArray := prog_5_method_34_code
def yX3_swap : MethodName := ⟨RX3, "swap", "(II)V"⟩
abbrev cX3_findBest : ByteArray := prog_5_method_35_code
def yX3_findBest : MethodName := ⟨RX3, "findBest", "(I)I"⟩
abbrev cX3_best : ByteArray := prog_5_method_36_code
def yX3_best : MethodName := ⟨RX3, "best", "(I)I"⟩
abbrev cX3_placed : ByteArray := prog_5_method_37_code
def yX3_placed : MethodName := ⟨RX3, "placed", "(II)I"⟩
abbrev cX3_layAside : ByteArray := prog_5_method_38_code
def yX3_layAside : MethodName := ⟨RX3, "layAside", "()V"⟩
abbrev cX3_fetch : ByteArray := prog_5_method_39_code
def yX3_fetch : MethodName := ⟨RX3, "fetch", "(II)V"⟩
abbrev cX3_arrange : ByteArray := prog_5_method_40_code
def yX3_arrange : MethodName := ⟨RX3, "arrange", "(I)I"⟩
abbrev cX3_read : ByteArray := prog_5_method_41_code
def yX3_read : MethodName := ⟨RX3, "read", "(IIII)I"⟩
abbrev cX3_forget : ByteArray := prog_5_method_42_code
def yX3_forget : MethodName := ⟨RX3, "forget", "()I"⟩
abbrev cX3_fits : ByteArray := prog_5_method_43_code
def yX3_fits : MethodName := ⟨RX3, "fits", "()I"⟩
abbrev cX3_count : ByteArray := prog_5_method_44_code
def yX3_count : MethodName := ⟨RX3, "count", "(I)I"⟩
abbrev cX3_digest : ByteArray := prog_5_method_45_code
def yX3_digest : MethodName := ⟨RX3, "digest", "()J"⟩
def RJ9 : String := "java/lang/Math"
def TJ9 : u_T := fun k => match k with
  | _ => ("", "", "", false)
def tyJ9 : Nat → FieldType := fun k => match k with
  | _ => .int
abbrev wsJ90 : List Cond := u_ws RJ9 TJ9 0
theorem nmJ9 : ∀ a, a < 0 → ∀ b, b < 0 → a ≠ b → (TJ9 a).2.1 ≠ (TJ9 b).2.1 := by decide +kernel
theorem tyJ9_ok : ∀ k, k < 0 → parseFieldDescriptor (TJ9 k).2.2.1 = some (tyJ9 k) := by decide +kernel
abbrev cJ9_max_7cf53 : ByteArray := prog_6_method_65_code
def yJ9_max_7cf53 : MethodName := ⟨RJ9, "max", "(II)I"⟩
abbrev cJ9_min_7cf53 : ByteArray := prog_6_method_69_code
def yJ9_min_7cf53 : MethodName := ⟨RJ9, "min", "(II)I"⟩
def RJ10 : String := "java/lang/System"
def TJ10 : u_T := fun k => match k with
  | _ => ("", "", "", false)
def tyJ10 : Nat → FieldType := fun k => match k with
  | _ => .int
abbrev wsJ100 : List Cond := u_ws RJ10 TJ10 0
theorem nmJ10 : ∀ a, a < 0 → ∀ b, b < 0 → a ≠ b → (TJ10 a).2.1 ≠ (TJ10 b).2.1 := by decide +kernel
theorem tyJ10_ok : ∀ k, k < 0 → parseFieldDescriptor (TJ10 k).2.2.1 = some (tyJ10 k) := by decide +kernel
def RL : String := "WetWallsLaw"
abbrev cL_law : ByteArray := code
def yL_law : MethodName := ⟨RL, "law", "([I)Z"⟩
end
section
/-! ===== the words of the tables that a call may take along ===== -/
def q_T : List Cond := lw_tbl.filter goodWord
theorem q_Tin {w : Cond} (i : Nat) (h : lw_tbl[i]? = some w) (hg : goodWord w = true) : w ∈ q_T := List.mem_filter.mpr ⟨List.mem_of_getElem? h, hg⟩
theorem q_Tall : q_T.all goodWord = true := List.all_eq_true.mpr fun w h => (List.mem_filter.mp h).2
theorem q_Tlw : ∀ w ∈ q_T, w ∈ lw_tbl := fun w h => (List.mem_filter.mp h).1
theorem q_Tsub {ws : List Cond} (ps : List Nat) (hp : ws = ps.filterMap (fun i => lw_tbl[i]?)) (h : ws.all goodWord = true) : ∀ w ∈ ws, w ∈ q_T := by
  intro w hw
  have h1 := List.all_eq_true.mp h w hw
  rw [hp] at hw
  obtain ⟨i, -, hi⟩ := List.mem_filterMap.mp hw
  exact q_Tin i hi h1
abbrev vwCl : List vw_C := [(RX0, TX0, 2), (RX1, TX1, 12), (RX2, TX2, 10), (RX3, TX3, 26)]
theorem q_inX0 : ∀ w ∈ wsX00, w ∈ q_T := q_Tsub [141, 143] (by decide +kernel) (by decide +kernel)
theorem q_inX1 : ∀ w ∈ wsX10, w ∈ q_T := q_Tsub [106, 108, 110, 112, 114, 116, 118, 120, 122, 124, 126, 128] (by decide +kernel) (by decide +kernel)
theorem q_inX2 : ∀ w ∈ wsX20, w ∈ q_T := q_Tsub [157, 159, 161, 163, 165, 167, 169, 171, 173, 175] (by decide +kernel) (by decide +kernel)
theorem q_inX3 : ∀ w ∈ wsX30, w ∈ q_T := q_Tsub [510, 512, 514, 516, 518, 520, 522, 524, 526, 528, 530, 532, 534, 536, 538, 540, 542, 544, 546, 548, 550, 552, 554, 556, 558, 560] (by decide +kernel) (by decide +kernel)
theorem tw_0 : Cond.selects RX1 yX1_addInside yX1_addInside ∈ q_T := q_Tin 0 (by decide +kernel) (by decide +kernel)
theorem tw_1 : Cond.selects RX1 yX1_empty yX1_empty ∈ q_T := q_Tin 1 (by decide +kernel) (by decide +kernel)
theorem tw_2 : Cond.selects RX1 yX1_has yX1_has ∈ q_T := q_Tin 2 (by decide +kernel) (by decide +kernel)
theorem tw_3 : Cond.selects RX1 yX1_tellOf yX1_tellOf ∈ q_T := q_Tin 3 (by decide +kernel) (by decide +kernel)
theorem tw_4 : Cond.selects RX1 yX1_dampOf yX1_dampOf ∈ q_T := q_Tin 4 (by decide +kernel) (by decide +kernel)
theorem tw_5 : Cond.selects RX2 yX2_nothingCanPass yX2_nothingCanPass ∈ q_T := q_Tin 5 (by decide +kernel) (by decide +kernel)
theorem tw_6 : Cond.selects RX1 yX1_letHourPass yX1_letHourPass ∈ q_T := q_Tin 6 (by decide +kernel) (by decide +kernel)
theorem tw_7 : Cond.selects RX1 yX1_moveWater yX1_moveWater ∈ q_T := q_Tin 7 (by decide +kernel) (by decide +kernel)
theorem tw_8 : Cond.selects RX1 yX1_takeRain yX1_takeRain ∈ q_T := q_Tin 8 (by decide +kernel) (by decide +kernel)
theorem tw_9 : Cond.selects RX1 yX1_freeRoom yX1_freeRoom ∈ q_T := q_Tin 9 (by decide +kernel) (by decide +kernel)
theorem tw_10 : Cond.selects RX1 yX1_crossBorder yX1_crossBorder ∈ q_T := q_Tin 10 (by decide +kernel) (by decide +kernel)
theorem tw_11 : Cond.selects RX1 yX1_steamResist yX1_steamResist ∈ q_T := q_Tin 11 (by decide +kernel) (by decide +kernel)
theorem tw_12 : Cond.selects RX1 yX1_waterToGive yX1_waterToGive ∈ q_T := q_Tin 12 (by decide +kernel) (by decide +kernel)
theorem tw_13 : Cond.selects RX1 yX1_addWater yX1_addWater ∈ q_T := q_Tin 13 (by decide +kernel) (by decide +kernel)
theorem tw_14 : Cond.selects RX1 yX1_feelWarmth yX1_feelWarmth ∈ q_T := q_Tin 14 (by decide +kernel) (by decide +kernel)
theorem tw_15 : Cond.selects RX1 yX1_resistOf yX1_resistOf ∈ q_T := q_Tin 15 (by decide +kernel) (by decide +kernel)
theorem tw_16 : Cond.selects RX1 yX1_countFrost yX1_countFrost ∈ q_T := q_Tin 16 (by decide +kernel) (by decide +kernel)
theorem tw_17 : Cond.selects RX1 yX1_countMould yX1_countMould ∈ q_T := q_Tin 17 (by decide +kernel) (by decide +kernel)
theorem tw_18 : Cond.selects RX2 yX2_hourBehind yX2_hourBehind ∈ q_T := q_Tin 18 (by decide +kernel) (by decide +kernel)
theorem tw_19 : Cond.selects RX2 yX2_roundKeepsWater yX2_roundKeepsWater ∈ q_T := q_Tin 19 (by decide +kernel) (by decide +kernel)
theorem tw_20 : Cond.selects RX1 yX1_becomeAs yX1_becomeAs ∈ q_T := q_Tin 20 (by decide +kernel) (by decide +kernel)
theorem tw_21 : Cond.selects RX1 yX1_holdsSameWaterAs yX1_holdsSameWaterAs ∈ q_T := q_Tin 21 (by decide +kernel) (by decide +kernel)
theorem tw_22 : Cond.selects RX2 yX2_faceRefusal yX2_faceRefusal ∈ q_T := q_Tin 22 (by decide +kernel) (by decide +kernel)
theorem tw_23 : Cond.selects RX2 yX2_hourRefusal yX2_hourRefusal ∈ q_T := q_Tin 23 (by decide +kernel) (by decide +kernel)
theorem tw_24 : Cond.selects RX0 yX0_pressureAt yX0_pressureAt ∈ q_T := q_Tin 24 (by decide +kernel) (by decide +kernel)
theorem tw_25 : Cond.selects RX0 yX0_pressureBehind yX0_pressureBehind ∈ q_T := q_Tin 25 (by decide +kernel) (by decide +kernel)
theorem tw_26 : Cond.selects RX0 yX0_warmthAt yX0_warmthAt ∈ q_T := q_Tin 26 (by decide +kernel) (by decide +kernel)
theorem tw_27 : Cond.selects RX0 yX0_warmthBehind yX0_warmthBehind ∈ q_T := q_Tin 27 (by decide +kernel) (by decide +kernel)
theorem tw_28 : Cond.selects RX0 yX0_excessBehind yX0_excessBehind ∈ q_T := q_Tin 28 (by decide +kernel) (by decide +kernel)
theorem tw_29 : Cond.selects RX0 yX0_findBestOrder yX0_findBestOrder ∈ q_T := q_Tin 29 (by decide +kernel) (by decide +kernel)
theorem tw_30 : Cond.selects RX0 yX0_weighSets yX0_weighSets ∈ q_T := q_Tin 30 (by decide +kernel) (by decide +kernel)
theorem tw_31 : Cond.selects RX0 yX0_bestBehind yX0_bestBehind ∈ q_T := q_Tin 31 (by decide +kernel) (by decide +kernel)
theorem tw_32 : Cond.selects RX1 yX1_standInOrder yX1_standInOrder ∈ q_T := q_Tin 32 (by decide +kernel) (by decide +kernel)
theorem tw_33 : Cond.selects RX1 yX1_reorder yX1_reorder ∈ q_T := q_Tin 33 (by decide +kernel) (by decide +kernel)
theorem tw_34 : Cond.selects RX2 yX2_lastHourRead yX2_lastHourRead ∈ q_T := q_Tin 34 (by decide +kernel) (by decide +kernel)
theorem tw_35 : Cond.selects RX2 yX2_readingsHoldWith yX2_readingsHoldWith ∈ q_T := q_Tin 35 (by decide +kernel) (by decide +kernel)
theorem tw_36 : Cond.selects RX2 yX2_readingsHoldBehind yX2_readingsHoldBehind ∈ q_T := q_Tin 36 (by decide +kernel) (by decide +kernel)
theorem tw_37 : Cond.selects RX2 yX2_tellCount yX2_tellCount ∈ q_T := q_Tin 37 (by decide +kernel) (by decide +kernel)
theorem tw_38 : Cond.selects RX1 yX1_allWater yX1_allWater ∈ q_T := q_Tin 38 (by decide +kernel) (by decide +kernel)
theorem tw_39 : Cond.selects RX3 yX3_isLayer yX3_isLayer ∈ q_T := q_Tin 39 (by decide +kernel) (by decide +kernel)
theorem tw_40 : Cond.selects RX3 yX3_aboutOf yX3_aboutOf ∈ q_T := q_Tin 40 (by decide +kernel) (by decide +kernel)
theorem tw_41 : Cond.selects RX3 yX3_damp yX3_damp ∈ q_T := q_Tin 41 (by decide +kernel) (by decide +kernel)
theorem tw_42 : Cond.selects RX3 yX3_mayGo yX3_mayGo ∈ q_T := q_Tin 42 (by decide +kernel) (by decide +kernel)
theorem tw_43 : Cond.selects RX3 yX3_goOn yX3_goOn ∈ q_T := q_Tin 43 (by decide +kernel) (by decide +kernel)
theorem tw_44 : Cond.selects RX3 yX3_cross yX3_cross ∈ q_T := q_Tin 44 (by decide +kernel) (by decide +kernel)
theorem tw_45 : Cond.selects RX3 yX3_heatOf yX3_heatOf ∈ q_T := q_Tin 45 (by decide +kernel) (by decide +kernel)
theorem tw_46 : Cond.selects RX3 yX3_refusal yX3_refusal ∈ q_T := q_Tin 46 (by decide +kernel) (by decide +kernel)
theorem tw_47 : Cond.selects RX3 yX3_isHour yX3_isHour ∈ q_T := q_Tin 47 (by decide +kernel) (by decide +kernel)
theorem tw_48 : Cond.selects RX3 yX3_plain yX3_plain ∈ q_T := q_Tin 48 (by decide +kernel) (by decide +kernel)
theorem tw_49 : Cond.selects RX3 yX3_pressureOf yX3_pressureOf ∈ q_T := q_Tin 49 (by decide +kernel) (by decide +kernel)
theorem tw_50 : Cond.selects RX3 yX3_between yX3_between ∈ q_T := q_Tin 50 (by decide +kernel) (by decide +kernel)
theorem tw_51 : Cond.selects RX3 yX3_warmthOf yX3_warmthOf ∈ q_T := q_Tin 51 (by decide +kernel) (by decide +kernel)
theorem tw_52 : Cond.selects RX3 yX3_excessOf yX3_excessOf ∈ q_T := q_Tin 52 (by decide +kernel) (by decide +kernel)
theorem tw_53 : Cond.selects RX3 yX3_findBest yX3_findBest ∈ q_T := q_Tin 53 (by decide +kernel) (by decide +kernel)
theorem tw_54 : Cond.selects RX3 yX3_goOnOrder yX3_goOnOrder ∈ q_T := q_Tin 54 (by decide +kernel) (by decide +kernel)
theorem tw_55 : Cond.selects RX3 yX3_swap yX3_swap ∈ q_T := q_Tin 55 (by decide +kernel) (by decide +kernel)
theorem tw_56 : Cond.selects RX3 yX3_layAside yX3_layAside ∈ q_T := q_Tin 56 (by decide +kernel) (by decide +kernel)
theorem tw_57 : Cond.selects RX3 yX3_fetch yX3_fetch ∈ q_T := q_Tin 57 (by decide +kernel) (by decide +kernel)
theorem tw_58 : Cond.initialized RL ∈ q_T := q_Tin 58 (by decide +kernel) (by decide +kernel)
theorem tw_59 : Cond.initialized RX2 ∈ q_T := q_Tin 59 (by decide +kernel) (by decide +kernel)
theorem tw_60 : Cond.initialized RX1 ∈ q_T := q_Tin 60 (by decide +kernel) (by decide +kernel)
theorem tw_61 : Cond.initialized "java/lang/System" ∈ q_T := q_Tin 61 (by decide +kernel) (by decide +kernel)
theorem tw_62 : Cond.initialized RX0 ∈ q_T := q_Tin 62 (by decide +kernel) (by decide +kernel)
theorem tw_63 : Cond.initialized RX3 ∈ q_T := q_Tin 63 (by decide +kernel) (by decide +kernel)
theorem tw_64 : Cond.initialized "java/lang/Math" ∈ q_T := q_Tin 64 (by decide +kernel) (by decide +kernel)
theorem tw_65 : Cond.classLink RL 7 RX2 ∈ q_T := q_Tin 65 (by decide +kernel) (by decide +kernel)
theorem tw_66 : Cond.instantiable RX2 10 ∈ q_T := q_Tin 66 (by decide +kernel) (by decide +kernel)
theorem tw_67 : Cond.methodLink RL 9 yX2_init ∈ q_T := q_Tin 67 (by decide +kernel) (by decide +kernel)
theorem tw_68 : Cond.instanceMethod yX2_init ∈ q_T := q_Tin 68 (by decide +kernel) (by decide +kernel)
set_option maxRecDepth 100000 in
theorem tw_69 : Cond.code yX2_init cX2_init 1 none ∈ q_T := q_Tin 69 rfl rfl
theorem tw_70 : Cond.methodLink RX2 1 objectInit ∈ q_T := q_Tin 70 (by decide +kernel) (by decide +kernel)
theorem tw_71 : Cond.instanceMethod objectInit ∈ q_T := q_Tin 71 (by decide +kernel) (by decide +kernel)
set_option maxRecDepth 100000 in
theorem tw_72 : Cond.code objectInit ⟨#[0xb1]⟩ 1 none ∈ q_T := q_Tin 72 rfl rfl
theorem tw_73 : Cond.classLink RX2 7 RX1 ∈ q_T := q_Tin 73 (by decide +kernel) (by decide +kernel)
theorem tw_74 : Cond.instantiable RX1 12 ∈ q_T := q_Tin 74 (by decide +kernel) (by decide +kernel)
theorem tw_76 : Cond.instanceMethod yX1_init ∈ q_T := q_Tin 76 (by decide +kernel) (by decide +kernel)
set_option maxRecDepth 100000 in
theorem tw_77 : Cond.code yX1_init cX1_init 2 none ∈ q_T := q_Tin 77 rfl rfl
theorem tw_78 : Cond.methodLink RX1 3 objectInit ∈ q_T := q_Tin 78 (by decide +kernel) (by decide +kernel)
theorem tw_79 : Cond.classLink RX1 9 "[[I" ∈ q_T := q_Tin 79 (by decide +kernel) (by decide +kernel)
theorem tw_83 : Cond.methodLink RX1 54 arraycopyName ∈ q_T := q_Tin 83 (by decide +kernel) (by decide +kernel)
theorem tw_84 : Cond.static arraycopyName ∈ q_T := q_Tin 84 (by decide +kernel) (by decide +kernel)
theorem tw_85 : Cond.native arraycopyName ∈ q_T := q_Tin 85 (by decide +kernel) (by decide +kernel)
theorem tw_86 : Cond.fieldLink RX1 11 "WetWalls$Wall" "corners" "[[I" ∈ q_T := q_Tin 86 (by decide +kernel) (by decide +kernel)
theorem tw_88 : Cond.fieldLink RX1 16 "WetWalls$Wall" "room" "[I" ∈ q_T := q_Tin 88 (by decide +kernel) (by decide +kernel)
theorem tw_90 : Cond.fieldLink RX1 20 "WetWalls$Wall" "steam" "[I" ∈ q_T := q_Tin 90 (by decide +kernel) (by decide +kernel)
theorem tw_92 : Cond.fieldLink RX1 23 "WetWalls$Wall" "heat" "[I" ∈ q_T := q_Tin 92 (by decide +kernel) (by decide +kernel)
theorem tw_94 : Cond.fieldLink RX1 26 "WetWalls$Wall" "curve" "[I" ∈ q_T := q_Tin 94 (by decide +kernel) (by decide +kernel)
theorem tw_95 : Cond.fieldLink RX1 29 "WetWalls$Wall" "held" "[I" ∈ q_T := q_Tin 95 (by decide +kernel) (by decide +kernel)
theorem tw_97 : Cond.fieldLink RX1 32 "WetWalls$Wall" "frost" "[I" ∈ q_T := q_Tin 97 (by decide +kernel) (by decide +kernel)
theorem tw_98 : Cond.fieldLink RX1 35 "WetWalls$Wall" "mould" "[I" ∈ q_T := q_Tin 98 (by decide +kernel) (by decide +kernel)
theorem tw_99 : Cond.fieldLink RX1 38 "WetWalls$Wall" "warm" "[I" ∈ q_T := q_Tin 99 (by decide +kernel) (by decide +kernel)
theorem tw_100 : Cond.fieldLink RX1 41 "WetWalls$Wall" "sums" "[I" ∈ q_T := q_Tin 100 (by decide +kernel) (by decide +kernel)
theorem tw_102 : Cond.fieldLink RX1 44 "WetWalls$Wall" "spare" "[I" ∈ q_T := q_Tin 102 (by decide +kernel) (by decide +kernel)
theorem tw_103 : Cond.fieldLink RX1 47 "WetWalls$Wall" "size" "I" ∈ q_T := q_Tin 103 (by decide +kernel) (by decide +kernel)
theorem tw_131 : Cond.arrayClass .int ∈ q_T := q_Tin 131 (by decide +kernel) (by decide +kernel)
theorem tw_132 : Cond.classLink RX2 19 RX0 ∈ q_T := q_Tin 132 (by decide +kernel) (by decide +kernel)
theorem tw_133 : Cond.instantiable RX0 2 ∈ q_T := q_Tin 133 (by decide +kernel) (by decide +kernel)
theorem tw_135 : Cond.instanceMethod yX0_init ∈ q_T := q_Tin 135 (by decide +kernel) (by decide +kernel)
set_option maxRecDepth 100000 in
theorem tw_136 : Cond.code yX0_init cX0_init 1 none ∈ q_T := q_Tin 136 rfl rfl
theorem tw_137 : Cond.methodLink RX0 3 objectInit ∈ q_T := q_Tin 137 (by decide +kernel) (by decide +kernel)
theorem tw_138 : Cond.fieldLink RX0 9 "WetWalls$OldWay" "leastBehind" "[I" ∈ q_T := q_Tin 138 (by decide +kernel) (by decide +kernel)
theorem tw_139 : Cond.fieldLink RX0 15 "WetWalls$OldWay" "order" "[I" ∈ q_T := q_Tin 139 (by decide +kernel) (by decide +kernel)
theorem tw_146 : Cond.classLink RX2 26 "[[I" ∈ q_T := q_Tin 146 (by decide +kernel) (by decide +kernel)
theorem tw_147 : Cond.fieldLink RX2 10 "WetWalls" "wall" "LWetWalls$Wall;" ∈ q_T := q_Tin 147 (by decide +kernel) (by decide +kernel)
theorem tw_148 : Cond.fieldLink RX2 16 "WetWalls" "trialWall" "LWetWalls$Wall;" ∈ q_T := q_Tin 148 (by decide +kernel) (by decide +kernel)
theorem tw_149 : Cond.fieldLink RX2 22 "WetWalls" "oldWay" "LWetWalls$OldWay;" ∈ q_T := q_Tin 149 (by decide +kernel) (by decide +kernel)
theorem tw_150 : Cond.fieldLink RX2 28 "WetWalls" "hours" "[[I" ∈ q_T := q_Tin 150 (by decide +kernel) (by decide +kernel)
theorem tw_151 : Cond.fieldLink RX2 31 "WetWalls" "hoursHeld" "I" ∈ q_T := q_Tin 151 (by decide +kernel) (by decide +kernel)
theorem tw_152 : Cond.fieldLink RX2 35 "WetWalls" "nextHour" "I" ∈ q_T := q_Tin 152 (by decide +kernel) (by decide +kernel)
theorem tw_153 : Cond.fieldLink RX2 38 "WetWalls" "shareNow" "I" ∈ q_T := q_Tin 153 (by decide +kernel) (by decide +kernel)
theorem tw_154 : Cond.fieldLink RX2 41 "WetWalls" "readings" "[[I" ∈ q_T := q_Tin 154 (by decide +kernel) (by decide +kernel)
theorem tw_155 : Cond.fieldLink RX2 44 "WetWalls" "readingsHeld" "I" ∈ q_T := q_Tin 155 (by decide +kernel) (by decide +kernel)
theorem tw_156 : Cond.fieldLink RX2 47 "WetWalls" "fitsDone" "I" ∈ q_T := q_Tin 156 (by decide +kernel) (by decide +kernel)
theorem tw_178 : Cond.methodLink RL 13 yX2_layer ∈ q_T := q_Tin 178 (by decide +kernel) (by decide +kernel)
theorem tw_179 : Cond.instanceMethod yX2_layer ∈ q_T := q_Tin 179 (by decide +kernel) (by decide +kernel)
theorem tw_180 : Cond.selects RX2 yX2_layer yX2_layer ∈ q_T := q_Tin 180 (by decide +kernel) (by decide +kernel)
set_option maxRecDepth 100000 in
theorem tw_181 : Cond.code yX2_layer cX2_layer 5 (some .int) ∈ q_T := q_Tin 181 rfl rfl
theorem tw_182 : Cond.methodLink RX2 50 yX2_within ∈ q_T := q_Tin 182 (by decide +kernel) (by decide +kernel)
theorem tw_183 : Cond.static yX2_within ∈ q_T := q_Tin 183 (by decide +kernel) (by decide +kernel)
set_option maxRecDepth 100000 in
theorem tw_184 : Cond.code yX2_within cX2_within 3 (some .boolean) ∈ q_T := q_Tin 184 rfl rfl
theorem tw_187 : Cond.instanceMethod yX1_addInside ∈ q_T := q_Tin 187 (by decide +kernel) (by decide +kernel)
set_option maxRecDepth 100000 in
theorem tw_188 : Cond.code yX1_addInside cX1_addInside 5 none ∈ q_T := q_Tin 188 rfl rfl
theorem tw_189 : Cond.methodLink RL 18 yX2_clear ∈ q_T := q_Tin 189 (by decide +kernel) (by decide +kernel)
theorem tw_190 : Cond.instanceMethod yX2_clear ∈ q_T := q_Tin 190 (by decide +kernel) (by decide +kernel)
theorem tw_191 : Cond.selects RX2 yX2_clear yX2_clear ∈ q_T := q_Tin 191 (by decide +kernel) (by decide +kernel)
set_option maxRecDepth 100000 in
theorem tw_192 : Cond.code yX2_clear cX2_clear 2 (some .int) ∈ q_T := q_Tin 192 rfl rfl
theorem tw_195 : Cond.instanceMethod yX1_empty ∈ q_T := q_Tin 195 (by decide +kernel) (by decide +kernel)
set_option maxRecDepth 100000 in
theorem tw_196 : Cond.code yX1_empty cX1_empty 2 none ∈ q_T := q_Tin 196 rfl rfl
theorem tw_197 : Cond.methodLink RL 23 yX2_corner ∈ q_T := q_Tin 197 (by decide +kernel) (by decide +kernel)
theorem tw_198 : Cond.instanceMethod yX2_corner ∈ q_T := q_Tin 198 (by decide +kernel) (by decide +kernel)
theorem tw_199 : Cond.selects RX2 yX2_corner yX2_corner ∈ q_T := q_Tin 199 (by decide +kernel) (by decide +kernel)
set_option maxRecDepth 100000 in
theorem tw_200 : Cond.code yX2_corner cX2_corner 8 (some .int) ∈ q_T := q_Tin 200 rfl rfl
theorem tw_201 : Cond.methodLink RL 28 yX2_water ∈ q_T := q_Tin 201 (by decide +kernel) (by decide +kernel)
theorem tw_202 : Cond.instanceMethod yX2_water ∈ q_T := q_Tin 202 (by decide +kernel) (by decide +kernel)
theorem tw_203 : Cond.selects RX2 yX2_water yX2_water ∈ q_T := q_Tin 203 (by decide +kernel) (by decide +kernel)
set_option maxRecDepth 100000 in
theorem tw_204 : Cond.code yX2_water cX2_water 4 (some .int) ∈ q_T := q_Tin 204 rfl rfl
theorem tw_207 : Cond.instanceMethod yX1_has ∈ q_T := q_Tin 207 (by decide +kernel) (by decide +kernel)
set_option maxRecDepth 100000 in
theorem tw_208 : Cond.code yX1_has cX1_has 2 (some .boolean) ∈ q_T := q_Tin 208 rfl rfl
theorem tw_209 : Cond.methodLink RL 33 yX2_about ∈ q_T := q_Tin 209 (by decide +kernel) (by decide +kernel)
theorem tw_210 : Cond.instanceMethod yX2_about ∈ q_T := q_Tin 210 (by decide +kernel) (by decide +kernel)
theorem tw_211 : Cond.selects RX2 yX2_about yX2_about ∈ q_T := q_Tin 211 (by decide +kernel) (by decide +kernel)
set_option maxRecDepth 100000 in
theorem tw_212 : Cond.code yX2_about cX2_about 3 (some .int) ∈ q_T := q_Tin 212 rfl rfl
theorem tw_215 : Cond.instanceMethod yX1_tellOf ∈ q_T := q_Tin 215 (by decide +kernel) (by decide +kernel)
set_option maxRecDepth 100000 in
theorem tw_216 : Cond.code yX1_tellOf cX1_tellOf 3 (some .int) ∈ q_T := q_Tin 216 rfl rfl
theorem tw_217 : Cond.methodLink RX1 71 yX1_dampOf ∈ q_T := q_Tin 217 (by decide +kernel) (by decide +kernel)
theorem tw_219 : Cond.instanceMethod yX1_dampOf ∈ q_T := q_Tin 219 (by decide +kernel) (by decide +kernel)
set_option maxRecDepth 100000 in
theorem tw_220 : Cond.code yX1_dampOf cX1_dampOf 5 (some .int) ∈ q_T := q_Tin 220 rfl rfl
theorem tw_222 : Cond.static yX2_partDown ∈ q_T := q_Tin 222 (by decide +kernel) (by decide +kernel)
set_option maxRecDepth 100000 in
theorem tw_223 : Cond.code yX2_partDown cX2_partDown 2 (some .int) ∈ q_T := q_Tin 223 rfl rfl
theorem tw_224 : Cond.methodLink RL 37 yX2_hour ∈ q_T := q_Tin 224 (by decide +kernel) (by decide +kernel)
theorem tw_225 : Cond.instanceMethod yX2_hour ∈ q_T := q_Tin 225 (by decide +kernel) (by decide +kernel)
theorem tw_226 : Cond.selects RX2 yX2_hour yX2_hour ∈ q_T := q_Tin 226 (by decide +kernel) (by decide +kernel)
set_option maxRecDepth 100000 in
theorem tw_227 : Cond.code yX2_hour cX2_hour 7 (some .int) ∈ q_T := q_Tin 227 rfl rfl
theorem tw_228 : Cond.methodLink RX2 85 yX2_isDamp ∈ q_T := q_Tin 228 (by decide +kernel) (by decide +kernel)
theorem tw_229 : Cond.static yX2_isDamp ∈ q_T := q_Tin 229 (by decide +kernel) (by decide +kernel)
set_option maxRecDepth 100000 in
theorem tw_230 : Cond.code yX2_isDamp cX2_isDamp 1 (some .boolean) ∈ q_T := q_Tin 230 rfl rfl
theorem tw_231 : Cond.methodLink RX2 88 yX2_isWarmth ∈ q_T := q_Tin 231 (by decide +kernel) (by decide +kernel)
theorem tw_232 : Cond.static yX2_isWarmth ∈ q_T := q_Tin 232 (by decide +kernel) (by decide +kernel)
set_option maxRecDepth 100000 in
theorem tw_233 : Cond.code yX2_isWarmth cX2_isWarmth 1 (some .boolean) ∈ q_T := q_Tin 233 rfl rfl
theorem tw_234 : Cond.methodLink RL 42 yX2_fair ∈ q_T := q_Tin 234 (by decide +kernel) (by decide +kernel)
theorem tw_235 : Cond.instanceMethod yX2_fair ∈ q_T := q_Tin 235 (by decide +kernel) (by decide +kernel)
theorem tw_236 : Cond.selects RX2 yX2_fair yX2_fair ∈ q_T := q_Tin 236 (by decide +kernel) (by decide +kernel)
set_option maxRecDepth 100000 in
theorem tw_237 : Cond.code yX2_fair cX2_fair 2 (some .int) ∈ q_T := q_Tin 237 rfl rfl
theorem tw_238 : Cond.methodLink RL 46 yX2_share ∈ q_T := q_Tin 238 (by decide +kernel) (by decide +kernel)
theorem tw_239 : Cond.instanceMethod yX2_share ∈ q_T := q_Tin 239 (by decide +kernel) (by decide +kernel)
theorem tw_240 : Cond.selects RX2 yX2_share yX2_share ∈ q_T := q_Tin 240 (by decide +kernel) (by decide +kernel)
set_option maxRecDepth 100000 in
theorem tw_241 : Cond.code yX2_share cX2_share 3 (some .int) ∈ q_T := q_Tin 241 rfl rfl
theorem tw_242 : Cond.methodLink RL 51 yX2_pass ∈ q_T := q_Tin 242 (by decide +kernel) (by decide +kernel)
theorem tw_243 : Cond.instanceMethod yX2_pass ∈ q_T := q_Tin 243 (by decide +kernel) (by decide +kernel)
theorem tw_244 : Cond.selects RX2 yX2_pass yX2_pass ∈ q_T := q_Tin 244 (by decide +kernel) (by decide +kernel)
set_option maxRecDepth 100000 in
theorem tw_245 : Cond.code yX2_pass cX2_pass 3 (some .int) ∈ q_T := q_Tin 245 rfl rfl
theorem tw_246 : Cond.methodLink RX2 91 yX2_nothingCanPass ∈ q_T := q_Tin 246 (by decide +kernel) (by decide +kernel)
theorem tw_248 : Cond.instanceMethod yX2_nothingCanPass ∈ q_T := q_Tin 248 (by decide +kernel) (by decide +kernel)
set_option maxRecDepth 100000 in
theorem tw_249 : Cond.code yX2_nothingCanPass cX2_nothingCanPass 1 (some .boolean) ∈ q_T := q_Tin 249 rfl rfl
theorem tw_252 : Cond.instanceMethod yX1_letHourPass ∈ q_T := q_Tin 252 (by decide +kernel) (by decide +kernel)
set_option maxRecDepth 100000 in
theorem tw_253 : Cond.code yX1_letHourPass cX1_letHourPass 3 none ∈ q_T := q_Tin 253 rfl rfl
theorem tw_254 : Cond.methodLink RX1 79 yX1_moveWater ∈ q_T := q_Tin 254 (by decide +kernel) (by decide +kernel)
theorem tw_256 : Cond.instanceMethod yX1_moveWater ∈ q_T := q_Tin 256 (by decide +kernel) (by decide +kernel)
set_option maxRecDepth 100000 in
theorem tw_257 : Cond.code yX1_moveWater cX1_moveWater 4 none ∈ q_T := q_Tin 257 rfl rfl
theorem tw_258 : Cond.methodLink RX1 87 yX1_takeRain ∈ q_T := q_Tin 258 (by decide +kernel) (by decide +kernel)
theorem tw_260 : Cond.instanceMethod yX1_takeRain ∈ q_T := q_Tin 260 (by decide +kernel) (by decide +kernel)
set_option maxRecDepth 100000 in
theorem tw_261 : Cond.code yX1_takeRain cX1_takeRain 3 none ∈ q_T := q_Tin 261 rfl rfl
theorem tw_262 : Cond.methodLink RX1 95 yX1_freeRoom ∈ q_T := q_Tin 262 (by decide +kernel) (by decide +kernel)
theorem tw_264 : Cond.instanceMethod yX1_freeRoom ∈ q_T := q_Tin 264 (by decide +kernel) (by decide +kernel)
set_option maxRecDepth 100000 in
theorem tw_265 : Cond.code yX1_freeRoom cX1_freeRoom 2 (some .int) ∈ q_T := q_Tin 265 rfl rfl
theorem tw_266 : Cond.methodLink RX1 67 yX1_has ∈ q_T := q_Tin 266 (by decide +kernel) (by decide +kernel)
theorem tw_267 : Cond.constant RX1 117 (2147483647) ∈ q_T := q_Tin 267 (by decide +kernel) (by decide +kernel)
theorem tw_268 : Cond.methodLink RX1 98 Lib.Math.min.name ∈ q_T := q_Tin 268 (by decide +kernel) (by decide +kernel)
theorem tw_269 : Cond.static Lib.Math.min.name ∈ q_T := q_Tin 269 (by decide +kernel) (by decide +kernel)
set_option maxRecDepth 100000 in
theorem tw_270 : Cond.code Lib.Math.min.name Lib.Math.min.code 2 (some .int) ∈ q_T := q_Tin 270 rfl rfl
theorem tw_271 : Cond.methodLink RX1 91 yX1_crossBorder ∈ q_T := q_Tin 271 (by decide +kernel) (by decide +kernel)
theorem tw_273 : Cond.instanceMethod yX1_crossBorder ∈ q_T := q_Tin 273 (by decide +kernel) (by decide +kernel)
set_option maxRecDepth 100000 in
theorem tw_274 : Cond.code yX1_crossBorder cX1_crossBorder 7 none ∈ q_T := q_Tin 274 rfl rfl
theorem tw_275 : Cond.methodLink RX1 103 yX1_steamResist ∈ q_T := q_Tin 275 (by decide +kernel) (by decide +kernel)
theorem tw_277 : Cond.instanceMethod yX1_steamResist ∈ q_T := q_Tin 277 (by decide +kernel) (by decide +kernel)
set_option maxRecDepth 100000 in
theorem tw_278 : Cond.code yX1_steamResist cX1_steamResist 2 (some .int) ∈ q_T := q_Tin 278 rfl rfl
theorem tw_280 : Cond.static yX2_partCut ∈ q_T := q_Tin 280 (by decide +kernel) (by decide +kernel)
set_option maxRecDepth 100000 in
theorem tw_281 : Cond.code yX2_partCut cX2_partCut 2 (some .int) ∈ q_T := q_Tin 281 rfl rfl
theorem tw_282 : Cond.methodLink RX1 109 yX1_waterToGive ∈ q_T := q_Tin 282 (by decide +kernel) (by decide +kernel)
theorem tw_284 : Cond.instanceMethod yX1_waterToGive ∈ q_T := q_Tin 284 (by decide +kernel) (by decide +kernel)
set_option maxRecDepth 100000 in
theorem tw_285 : Cond.code yX1_waterToGive cX1_waterToGive 2 (some .int) ∈ q_T := q_Tin 285 rfl rfl
theorem tw_286 : Cond.methodLink RX1 112 yX1_addWater ∈ q_T := q_Tin 286 (by decide +kernel) (by decide +kernel)
theorem tw_288 : Cond.instanceMethod yX1_addWater ∈ q_T := q_Tin 288 (by decide +kernel) (by decide +kernel)
set_option maxRecDepth 100000 in
theorem tw_289 : Cond.code yX1_addWater cX1_addWater 3 none ∈ q_T := q_Tin 289 rfl rfl
theorem tw_290 : Cond.methodLink RX1 83 yX1_feelWarmth ∈ q_T := q_Tin 290 (by decide +kernel) (by decide +kernel)
theorem tw_292 : Cond.instanceMethod yX1_feelWarmth ∈ q_T := q_Tin 292 (by decide +kernel) (by decide +kernel)
set_option maxRecDepth 100000 in
theorem tw_293 : Cond.code yX1_feelWarmth cX1_feelWarmth 7 none ∈ q_T := q_Tin 293 rfl rfl
theorem tw_294 : Cond.methodLink RX1 118 yX1_firstLayers ∈ q_T := q_Tin 294 (by decide +kernel) (by decide +kernel)
theorem tw_295 : Cond.static yX1_firstLayers ∈ q_T := q_Tin 295 (by decide +kernel) (by decide +kernel)
set_option maxRecDepth 100000 in
theorem tw_296 : Cond.code yX1_firstLayers cX1_firstLayers 1 (some .int) ∈ q_T := q_Tin 296 rfl rfl
theorem tw_297 : Cond.methodLink RX1 121 yX1_resistOf ∈ q_T := q_Tin 297 (by decide +kernel) (by decide +kernel)
theorem tw_299 : Cond.instanceMethod yX1_resistOf ∈ q_T := q_Tin 299 (by decide +kernel) (by decide +kernel)
set_option maxRecDepth 100000 in
theorem tw_300 : Cond.code yX1_resistOf cX1_resistOf 5 (some .int) ∈ q_T := q_Tin 300 rfl rfl
theorem tw_301 : Cond.methodLink RX1 125 yX1_countFrost ∈ q_T := q_Tin 301 (by decide +kernel) (by decide +kernel)
theorem tw_303 : Cond.instanceMethod yX1_countFrost ∈ q_T := q_Tin 303 (by decide +kernel) (by decide +kernel)
set_option maxRecDepth 100000 in
theorem tw_304 : Cond.code yX1_countFrost cX1_countFrost 2 none ∈ q_T := q_Tin 304 rfl rfl
theorem tw_305 : Cond.methodLink RX1 128 yX1_countMould ∈ q_T := q_Tin 305 (by decide +kernel) (by decide +kernel)
theorem tw_307 : Cond.instanceMethod yX1_countMould ∈ q_T := q_Tin 307 (by decide +kernel) (by decide +kernel)
set_option maxRecDepth 100000 in
theorem tw_308 : Cond.code yX1_countMould cX1_countMould 2 none ∈ q_T := q_Tin 308 rfl rfl
theorem tw_309 : Cond.methodLink RX1 131 Lib.Math.max.name ∈ q_T := q_Tin 309 (by decide +kernel) (by decide +kernel)
theorem tw_310 : Cond.static Lib.Math.max.name ∈ q_T := q_Tin 310 (by decide +kernel) (by decide +kernel)
set_option maxRecDepth 100000 in
theorem tw_311 : Cond.code Lib.Math.max.name Lib.Math.max.code 2 (some .int) ∈ q_T := q_Tin 311 rfl rfl
theorem tw_312 : Cond.methodLink RX2 99 yX2_hourBehind ∈ q_T := q_Tin 312 (by decide +kernel) (by decide +kernel)
theorem tw_314 : Cond.instanceMethod yX2_hourBehind ∈ q_T := q_Tin 314 (by decide +kernel) (by decide +kernel)
set_option maxRecDepth 100000 in
theorem tw_315 : Cond.code yX2_hourBehind cX2_hourBehind 2 (some .int) ∈ q_T := q_Tin 315 rfl rfl
theorem tw_316 : Cond.methodLink RL 55 yX2_steady ∈ q_T := q_Tin 316 (by decide +kernel) (by decide +kernel)
theorem tw_317 : Cond.instanceMethod yX2_steady ∈ q_T := q_Tin 317 (by decide +kernel) (by decide +kernel)
theorem tw_318 : Cond.selects RX2 yX2_steady yX2_steady ∈ q_T := q_Tin 318 (by decide +kernel) (by decide +kernel)
set_option maxRecDepth 100000 in
theorem tw_319 : Cond.code yX2_steady cX2_steady 3 (some .int) ∈ q_T := q_Tin 319 rfl rfl
theorem tw_320 : Cond.methodLink RX2 103 yX2_roundKeepsWater ∈ q_T := q_Tin 320 (by decide +kernel) (by decide +kernel)
theorem tw_322 : Cond.instanceMethod yX2_roundKeepsWater ∈ q_T := q_Tin 322 (by decide +kernel) (by decide +kernel)
set_option maxRecDepth 100000 in
theorem tw_323 : Cond.code yX2_roundKeepsWater cX2_roundKeepsWater 2 (some .boolean) ∈ q_T := q_Tin 323 rfl rfl
theorem tw_326 : Cond.instanceMethod yX1_becomeAs ∈ q_T := q_Tin 326 (by decide +kernel) (by decide +kernel)
set_option maxRecDepth 100000 in
theorem tw_327 : Cond.code yX1_becomeAs cX1_becomeAs 3 none ∈ q_T := q_Tin 327 rfl rfl
theorem tw_328 : Cond.methodLink RX1 60 yX1_copyRow ∈ q_T := q_Tin 328 (by decide +kernel) (by decide +kernel)
theorem tw_329 : Cond.static yX1_copyRow ∈ q_T := q_Tin 329 (by decide +kernel) (by decide +kernel)
set_option maxRecDepth 100000 in
theorem tw_330 : Cond.code yX1_copyRow cX1_copyRow 2 none ∈ q_T := q_Tin 330 rfl rfl
theorem tw_333 : Cond.instanceMethod yX1_holdsSameWaterAs ∈ q_T := q_Tin 333 (by decide +kernel) (by decide +kernel)
set_option maxRecDepth 100000 in
theorem tw_334 : Cond.code yX1_holdsSameWaterAs cX1_holdsSameWaterAs 3 (some .boolean) ∈ q_T := q_Tin 334 rfl rfl
theorem tw_335 : Cond.methodLink RL 59 yX2_sum ∈ q_T := q_Tin 335 (by decide +kernel) (by decide +kernel)
theorem tw_336 : Cond.instanceMethod yX2_sum ∈ q_T := q_Tin 336 (by decide +kernel) (by decide +kernel)
theorem tw_337 : Cond.selects RX2 yX2_sum yX2_sum ∈ q_T := q_Tin 337 (by decide +kernel) (by decide +kernel)
set_option maxRecDepth 100000 in
theorem tw_338 : Cond.code yX2_sum cX2_sum 2 (some .int) ∈ q_T := q_Tin 338 rfl rfl
theorem tw_339 : Cond.constant RX2 106 (-1000000001) ∈ q_T := q_Tin 339 (by decide +kernel) (by decide +kernel)
theorem tw_340 : Cond.methodLink RL 63 yX2_pressure ∈ q_T := q_Tin 340 (by decide +kernel) (by decide +kernel)
theorem tw_341 : Cond.instanceMethod yX2_pressure ∈ q_T := q_Tin 341 (by decide +kernel) (by decide +kernel)
theorem tw_342 : Cond.selects RX2 yX2_pressure yX2_pressure ∈ q_T := q_Tin 342 (by decide +kernel) (by decide +kernel)
set_option maxRecDepth 100000 in
theorem tw_343 : Cond.code yX2_pressure cX2_pressure 4 (some .int) ∈ q_T := q_Tin 343 rfl rfl
theorem tw_344 : Cond.methodLink RX2 107 yX2_faceRefusal ∈ q_T := q_Tin 344 (by decide +kernel) (by decide +kernel)
theorem tw_346 : Cond.instanceMethod yX2_faceRefusal ∈ q_T := q_Tin 346 (by decide +kernel) (by decide +kernel)
set_option maxRecDepth 100000 in
theorem tw_347 : Cond.code yX2_faceRefusal cX2_faceRefusal 4 (some .int) ∈ q_T := q_Tin 347 rfl rfl
theorem tw_348 : Cond.methodLink RX2 117 yX2_hourRefusal ∈ q_T := q_Tin 348 (by decide +kernel) (by decide +kernel)
theorem tw_350 : Cond.instanceMethod yX2_hourRefusal ∈ q_T := q_Tin 350 (by decide +kernel) (by decide +kernel)
set_option maxRecDepth 100000 in
theorem tw_351 : Cond.code yX2_hourRefusal cX2_hourRefusal 2 (some .int) ∈ q_T := q_Tin 351 rfl rfl
theorem tw_354 : Cond.instanceMethod yX0_pressureAt ∈ q_T := q_Tin 354 (by decide +kernel) (by decide +kernel)
set_option maxRecDepth 100000 in
theorem tw_355 : Cond.code yX0_pressureAt cX0_pressureAt 4 (some .int) ∈ q_T := q_Tin 355 rfl rfl
theorem tw_356 : Cond.methodLink RX0 26 yX0_pressureIn ∈ q_T := q_Tin 356 (by decide +kernel) (by decide +kernel)
theorem tw_357 : Cond.static yX0_pressureIn ∈ q_T := q_Tin 357 (by decide +kernel) (by decide +kernel)
set_option maxRecDepth 100000 in
theorem tw_358 : Cond.code yX0_pressureIn cX0_pressureIn 2 (some .int) ∈ q_T := q_Tin 358 rfl rfl
theorem tw_359 : Cond.methodLink RX0 18 yX0_saturation ∈ q_T := q_Tin 359 (by decide +kernel) (by decide +kernel)
theorem tw_360 : Cond.static yX0_saturation ∈ q_T := q_Tin 360 (by decide +kernel) (by decide +kernel)
set_option maxRecDepth 100000 in
theorem tw_361 : Cond.code yX0_saturation cX0_saturation 1 (some .int) ∈ q_T := q_Tin 361 rfl rfl
theorem tw_364 : Cond.methodLink RX0 38 yX0_pressureBehind ∈ q_T := q_Tin 364 (by decide +kernel) (by decide +kernel)
theorem tw_366 : Cond.instanceMethod yX0_pressureBehind ∈ q_T := q_Tin 366 (by decide +kernel) (by decide +kernel)
set_option maxRecDepth 100000 in
theorem tw_367 : Cond.code yX0_pressureBehind cX0_pressureBehind 7 (some .int) ∈ q_T := q_Tin 367 rfl rfl
theorem tw_369 : Cond.methodLink RX0 52 yX0_between ∈ q_T := q_Tin 369 (by decide +kernel) (by decide +kernel)
theorem tw_370 : Cond.static yX0_between ∈ q_T := q_Tin 370 (by decide +kernel) (by decide +kernel)
set_option maxRecDepth 100000 in
theorem tw_371 : Cond.code yX0_between cX0_between 4 (some .int) ∈ q_T := q_Tin 371 rfl rfl
theorem tw_372 : Cond.methodLink RL 67 yX2_warmth ∈ q_T := q_Tin 372 (by decide +kernel) (by decide +kernel)
theorem tw_373 : Cond.instanceMethod yX2_warmth ∈ q_T := q_Tin 373 (by decide +kernel) (by decide +kernel)
theorem tw_374 : Cond.selects RX2 yX2_warmth yX2_warmth ∈ q_T := q_Tin 374 (by decide +kernel) (by decide +kernel)
set_option maxRecDepth 100000 in
theorem tw_375 : Cond.code yX2_warmth cX2_warmth 4 (some .int) ∈ q_T := q_Tin 375 rfl rfl
theorem tw_378 : Cond.instanceMethod yX0_warmthAt ∈ q_T := q_Tin 378 (by decide +kernel) (by decide +kernel)
set_option maxRecDepth 100000 in
theorem tw_379 : Cond.code yX0_warmthAt cX0_warmthAt 4 (some .int) ∈ q_T := q_Tin 379 rfl rfl
theorem tw_380 : Cond.methodLink RX0 42 yX0_warmthBehind ∈ q_T := q_Tin 380 (by decide +kernel) (by decide +kernel)
theorem tw_382 : Cond.instanceMethod yX0_warmthBehind ∈ q_T := q_Tin 382 (by decide +kernel) (by decide +kernel)
set_option maxRecDepth 100000 in
theorem tw_383 : Cond.code yX0_warmthBehind cX0_warmthBehind 5 (some .int) ∈ q_T := q_Tin 383 rfl rfl
theorem tw_384 : Cond.methodLink RL 71 yX2_excess ∈ q_T := q_Tin 384 (by decide +kernel) (by decide +kernel)
theorem tw_385 : Cond.instanceMethod yX2_excess ∈ q_T := q_Tin 385 (by decide +kernel) (by decide +kernel)
theorem tw_386 : Cond.selects RX2 yX2_excess yX2_excess ∈ q_T := q_Tin 386 (by decide +kernel) (by decide +kernel)
set_option maxRecDepth 100000 in
theorem tw_387 : Cond.code yX2_excess cX2_excess 4 (some .int) ∈ q_T := q_Tin 387 rfl rfl
theorem tw_391 : Cond.instanceMethod yX0_excessBehind ∈ q_T := q_Tin 391 (by decide +kernel) (by decide +kernel)
set_option maxRecDepth 100000 in
theorem tw_392 : Cond.code yX0_excessBehind cX0_excessBehind 5 (some .int) ∈ q_T := q_Tin 392 rfl rfl
theorem tw_393 : Cond.methodLink RX0 59 Lib.Math.max.name ∈ q_T := q_Tin 393 (by decide +kernel) (by decide +kernel)
theorem tw_394 : Cond.methodLink RL 75 yX2_best ∈ q_T := q_Tin 394 (by decide +kernel) (by decide +kernel)
theorem tw_395 : Cond.instanceMethod yX2_best ∈ q_T := q_Tin 395 (by decide +kernel) (by decide +kernel)
theorem tw_396 : Cond.selects RX2 yX2_best yX2_best ∈ q_T := q_Tin 396 (by decide +kernel) (by decide +kernel)
set_option maxRecDepth 100000 in
theorem tw_397 : Cond.code yX2_best cX2_best 3 (some .int) ∈ q_T := q_Tin 397 rfl rfl
theorem tw_400 : Cond.instanceMethod yX0_findBestOrder ∈ q_T := q_Tin 400 (by decide +kernel) (by decide +kernel)
set_option maxRecDepth 100000 in
theorem tw_401 : Cond.code yX0_findBestOrder cX0_findBestOrder 6 (some .int) ∈ q_T := q_Tin 401 rfl rfl
theorem tw_402 : Cond.methodLink RX0 64 yX0_weighSets ∈ q_T := q_Tin 402 (by decide +kernel) (by decide +kernel)
theorem tw_404 : Cond.instanceMethod yX0_weighSets ∈ q_T := q_Tin 404 (by decide +kernel) (by decide +kernel)
set_option maxRecDepth 100000 in
theorem tw_405 : Cond.code yX0_weighSets cX0_weighSets 7 none ∈ q_T := q_Tin 405 rfl rfl
theorem tw_406 : Cond.methodLink RX0 68 yX0_bestBehind ∈ q_T := q_Tin 406 (by decide +kernel) (by decide +kernel)
theorem tw_408 : Cond.instanceMethod yX0_bestBehind ∈ q_T := q_Tin 408 (by decide +kernel) (by decide +kernel)
set_option maxRecDepth 100000 in
theorem tw_409 : Cond.code yX0_bestBehind cX0_bestBehind 6 (some .int) ∈ q_T := q_Tin 409 rfl rfl
theorem tw_410 : Cond.methodLink RX0 71 yX0_excessBehind ∈ q_T := q_Tin 410 (by decide +kernel) (by decide +kernel)
theorem tw_411 : Cond.methodLink RL 79 yX2_placed ∈ q_T := q_Tin 411 (by decide +kernel) (by decide +kernel)
theorem tw_412 : Cond.instanceMethod yX2_placed ∈ q_T := q_Tin 412 (by decide +kernel) (by decide +kernel)
theorem tw_413 : Cond.selects RX2 yX2_placed yX2_placed ∈ q_T := q_Tin 413 (by decide +kernel) (by decide +kernel)
set_option maxRecDepth 100000 in
theorem tw_414 : Cond.code yX2_placed cX2_placed 4 (some .int) ∈ q_T := q_Tin 414 rfl rfl
theorem tw_415 : Cond.methodLink RL 83 yX2_arrange ∈ q_T := q_Tin 415 (by decide +kernel) (by decide +kernel)
theorem tw_416 : Cond.instanceMethod yX2_arrange ∈ q_T := q_Tin 416 (by decide +kernel) (by decide +kernel)
theorem tw_417 : Cond.selects RX2 yX2_arrange yX2_arrange ∈ q_T := q_Tin 417 (by decide +kernel) (by decide +kernel)
set_option maxRecDepth 100000 in
theorem tw_418 : Cond.code yX2_arrange cX2_arrange 5 (some .int) ∈ q_T := q_Tin 418 rfl rfl
theorem tw_421 : Cond.instanceMethod yX1_standInOrder ∈ q_T := q_Tin 421 (by decide +kernel) (by decide +kernel)
set_option maxRecDepth 100000 in
theorem tw_422 : Cond.code yX1_standInOrder cX1_standInOrder 2 none ∈ q_T := q_Tin 422 rfl rfl
theorem tw_423 : Cond.methodLink RX1 64 yX1_reorder ∈ q_T := q_Tin 423 (by decide +kernel) (by decide +kernel)
theorem tw_425 : Cond.instanceMethod yX1_reorder ∈ q_T := q_Tin 425 (by decide +kernel) (by decide +kernel)
set_option maxRecDepth 100000 in
theorem tw_426 : Cond.code yX1_reorder cX1_reorder 5 none ∈ q_T := q_Tin 426 rfl rfl
theorem tw_427 : Cond.methodLink RL 87 yX2_read ∈ q_T := q_Tin 427 (by decide +kernel) (by decide +kernel)
theorem tw_428 : Cond.instanceMethod yX2_read ∈ q_T := q_Tin 428 (by decide +kernel) (by decide +kernel)
theorem tw_429 : Cond.selects RX2 yX2_read yX2_read ∈ q_T := q_Tin 429 (by decide +kernel) (by decide +kernel)
set_option maxRecDepth 100000 in
theorem tw_430 : Cond.code yX2_read cX2_read 6 (some .int) ∈ q_T := q_Tin 430 rfl rfl
theorem tw_431 : Cond.methodLink RL 91 yX2_forget ∈ q_T := q_Tin 431 (by decide +kernel) (by decide +kernel)
theorem tw_432 : Cond.instanceMethod yX2_forget ∈ q_T := q_Tin 432 (by decide +kernel) (by decide +kernel)
theorem tw_433 : Cond.selects RX2 yX2_forget yX2_forget ∈ q_T := q_Tin 433 (by decide +kernel) (by decide +kernel)
set_option maxRecDepth 100000 in
theorem tw_434 : Cond.code yX2_forget cX2_forget 2 (some .int) ∈ q_T := q_Tin 434 rfl rfl
theorem tw_435 : Cond.methodLink RL 95 yX2_fits ∈ q_T := q_Tin 435 (by decide +kernel) (by decide +kernel)
theorem tw_436 : Cond.instanceMethod yX2_fits ∈ q_T := q_Tin 436 (by decide +kernel) (by decide +kernel)
theorem tw_437 : Cond.selects RX2 yX2_fits yX2_fits ∈ q_T := q_Tin 437 (by decide +kernel) (by decide +kernel)
set_option maxRecDepth 100000 in
theorem tw_438 : Cond.code yX2_fits cX2_fits 4 (some .int) ∈ q_T := q_Tin 438 rfl rfl
theorem tw_439 : Cond.methodLink RX2 137 yX2_lastHourRead ∈ q_T := q_Tin 439 (by decide +kernel) (by decide +kernel)
theorem tw_441 : Cond.instanceMethod yX2_lastHourRead ∈ q_T := q_Tin 441 (by decide +kernel) (by decide +kernel)
set_option maxRecDepth 100000 in
theorem tw_442 : Cond.code yX2_lastHourRead cX2_lastHourRead 3 (some .int) ∈ q_T := q_Tin 442 rfl rfl
theorem tw_443 : Cond.methodLink RX2 168 Lib.Math.max.name ∈ q_T := q_Tin 443 (by decide +kernel) (by decide +kernel)
theorem tw_444 : Cond.methodLink RX2 141 yX2_readingsHoldWith ∈ q_T := q_Tin 444 (by decide +kernel) (by decide +kernel)
theorem tw_446 : Cond.instanceMethod yX2_readingsHoldWith ∈ q_T := q_Tin 446 (by decide +kernel) (by decide +kernel)
set_option maxRecDepth 100000 in
theorem tw_447 : Cond.code yX2_readingsHoldWith cX2_readingsHoldWith 5 (some .boolean) ∈ q_T := q_Tin 447 rfl rfl
theorem tw_449 : Cond.methodLink RX2 176 yX2_readingsHoldBehind ∈ q_T := q_Tin 449 (by decide +kernel) (by decide +kernel)
theorem tw_451 : Cond.instanceMethod yX2_readingsHoldBehind ∈ q_T := q_Tin 451 (by decide +kernel) (by decide +kernel)
set_option maxRecDepth 100000 in
theorem tw_452 : Cond.code yX2_readingsHoldBehind cX2_readingsHoldBehind 4 (some .boolean) ∈ q_T := q_Tin 452 rfl rfl
theorem tw_454 : Cond.methodLink RL 99 yX2_count ∈ q_T := q_Tin 454 (by decide +kernel) (by decide +kernel)
theorem tw_455 : Cond.instanceMethod yX2_count ∈ q_T := q_Tin 455 (by decide +kernel) (by decide +kernel)
theorem tw_456 : Cond.selects RX2 yX2_count yX2_count ∈ q_T := q_Tin 456 (by decide +kernel) (by decide +kernel)
set_option maxRecDepth 100000 in
theorem tw_457 : Cond.code yX2_count cX2_count 2 (some .int) ∈ q_T := q_Tin 457 rfl rfl
theorem tw_458 : Cond.methodLink RX2 145 yX2_tellCount ∈ q_T := q_Tin 458 (by decide +kernel) (by decide +kernel)
theorem tw_460 : Cond.instanceMethod yX2_tellCount ∈ q_T := q_Tin 460 (by decide +kernel) (by decide +kernel)
set_option maxRecDepth 100000 in
theorem tw_461 : Cond.code yX2_tellCount cX2_tellCount 2 (some .int) ∈ q_T := q_Tin 461 rfl rfl
theorem tw_464 : Cond.instanceMethod yX1_allWater ∈ q_T := q_Tin 464 (by decide +kernel) (by decide +kernel)
set_option maxRecDepth 100000 in
theorem tw_465 : Cond.code yX1_allWater cX1_allWater 3 (some .int) ∈ q_T := q_Tin 465 rfl rfl
theorem tw_466 : Cond.methodLink RL 103 yX2_digest ∈ q_T := q_Tin 466 (by decide +kernel) (by decide +kernel)
theorem tw_467 : Cond.instanceMethod yX2_digest ∈ q_T := q_Tin 467 (by decide +kernel) (by decide +kernel)
theorem tw_468 : Cond.selects RX2 yX2_digest yX2_digest ∈ q_T := q_Tin 468 (by decide +kernel) (by decide +kernel)
set_option maxRecDepth 100000 in
theorem tw_469 : Cond.code yX2_digest cX2_digest 5 (some .long) ∈ q_T := q_Tin 469 rfl rfl
theorem tw_470 : Cond.constantLong RX2 148 (181) ∈ q_T := q_Tin 470 (by decide +kernel) (by decide +kernel)
theorem tw_471 : Cond.methodLink RX2 150 yX2_mixRow ∈ q_T := q_Tin 471 (by decide +kernel) (by decide +kernel)
theorem tw_472 : Cond.static yX2_mixRow ∈ q_T := q_Tin 472 (by decide +kernel) (by decide +kernel)
set_option maxRecDepth 100000 in
theorem tw_473 : Cond.code yX2_mixRow cX2_mixRow 5 (some .long) ∈ q_T := q_Tin 473 rfl rfl
theorem tw_474 : Cond.methodLink RX2 154 yX2_mix ∈ q_T := q_Tin 474 (by decide +kernel) (by decide +kernel)
theorem tw_475 : Cond.static yX2_mix ∈ q_T := q_Tin 475 (by decide +kernel) (by decide +kernel)
set_option maxRecDepth 100000 in
theorem tw_476 : Cond.code yX2_mix cX2_mix 4 (some .long) ∈ q_T := q_Tin 476 rfl rfl
theorem tw_477 : Cond.constantLong RX2 158 (31) ∈ q_T := q_Tin 477 (by decide +kernel) (by decide +kernel)
theorem tw_478 : Cond.classLink RL 10 RX3 ∈ q_T := q_Tin 478 (by decide +kernel) (by decide +kernel)
theorem tw_479 : Cond.instantiable RX3 26 ∈ q_T := q_Tin 479 (by decide +kernel) (by decide +kernel)
theorem tw_480 : Cond.methodLink RL 12 yX3_init ∈ q_T := q_Tin 480 (by decide +kernel) (by decide +kernel)
theorem tw_481 : Cond.instanceMethod yX3_init ∈ q_T := q_Tin 481 (by decide +kernel) (by decide +kernel)
set_option maxRecDepth 100000 in
theorem tw_482 : Cond.code yX3_init cX3_init 2 none ∈ q_T := q_Tin 482 rfl rfl
theorem tw_483 : Cond.methodLink RX3 1 objectInit ∈ q_T := q_Tin 483 (by decide +kernel) (by decide +kernel)
theorem tw_484 : Cond.fieldLink RX3 74 "WetWallsModel" "n" "I" ∈ q_T := q_Tin 484 (by decide +kernel) (by decide +kernel)
theorem tw_485 : Cond.fieldLink RX3 7 "WetWallsModel" "room" "[I" ∈ q_T := q_Tin 485 (by decide +kernel) (by decide +kernel)
theorem tw_486 : Cond.fieldLink RX3 13 "WetWallsModel" "steam" "[I" ∈ q_T := q_Tin 486 (by decide +kernel) (by decide +kernel)
theorem tw_487 : Cond.fieldLink RX3 16 "WetWallsModel" "heat" "[I" ∈ q_T := q_Tin 487 (by decide +kernel) (by decide +kernel)
theorem tw_488 : Cond.fieldLink RX3 19 "WetWallsModel" "curve" "[I" ∈ q_T := q_Tin 488 (by decide +kernel) (by decide +kernel)
theorem tw_489 : Cond.fieldLink RX3 22 "WetWallsModel" "water" "[I" ∈ q_T := q_Tin 489 (by decide +kernel) (by decide +kernel)
theorem tw_490 : Cond.fieldLink RX3 25 "WetWallsModel" "frost" "[I" ∈ q_T := q_Tin 490 (by decide +kernel) (by decide +kernel)
theorem tw_491 : Cond.fieldLink RX3 28 "WetWallsModel" "mould" "[I" ∈ q_T := q_Tin 491 (by decide +kernel) (by decide +kernel)
theorem tw_492 : Cond.fieldLink RX3 31 "WetWallsModel" "warm" "[I" ∈ q_T := q_Tin 492 (by decide +kernel) (by decide +kernel)
theorem tw_493 : Cond.fieldLink RX3 34 "WetWallsModel" "corners" "[I" ∈ q_T := q_Tin 493 (by decide +kernel) (by decide +kernel)
theorem tw_494 : Cond.fieldLink RX3 37 "WetWallsModel" "sums" "[I" ∈ q_T := q_Tin 494 (by decide +kernel) (by decide +kernel)
theorem tw_495 : Cond.fieldLink RX3 108 "WetWallsModel" "hours" "I" ∈ q_T := q_Tin 495 (by decide +kernel) (by decide +kernel)
theorem tw_496 : Cond.fieldLink RX3 111 "WetWallsModel" "next" "I" ∈ q_T := q_Tin 496 (by decide +kernel) (by decide +kernel)
theorem tw_497 : Cond.fieldLink RX3 70 "WetWallsModel" "share" "I" ∈ q_T := q_Tin 497 (by decide +kernel) (by decide +kernel)
theorem tw_498 : Cond.fieldLink RX3 40 "WetWallsModel" "weather" "[I" ∈ q_T := q_Tin 498 (by decide +kernel) (by decide +kernel)
theorem tw_499 : Cond.fieldLink RX3 43 "WetWallsModel" "before" "[I" ∈ q_T := q_Tin 499 (by decide +kernel) (by decide +kernel)
theorem tw_500 : Cond.fieldLink RX3 46 "WetWallsModel" "order" "[I" ∈ q_T := q_Tin 500 (by decide +kernel) (by decide +kernel)
theorem tw_501 : Cond.fieldLink RX3 49 "WetWallsModel" "bestOrder" "[I" ∈ q_T := q_Tin 501 (by decide +kernel) (by decide +kernel)
theorem tw_502 : Cond.fieldLink RX3 52 "WetWallsModel" "aside" "[I" ∈ q_T := q_Tin 502 (by decide +kernel) (by decide +kernel)
theorem tw_503 : Cond.fieldLink RX3 87 "WetWallsModel" "readings" "I" ∈ q_T := q_Tin 503 (by decide +kernel) (by decide +kernel)
theorem tw_504 : Cond.fieldLink RX3 55 "WetWallsModel" "readLayer" "[I" ∈ q_T := q_Tin 504 (by decide +kernel) (by decide +kernel)
theorem tw_505 : Cond.fieldLink RX3 58 "WetWallsModel" "readBehind" "[I" ∈ q_T := q_Tin 505 (by decide +kernel) (by decide +kernel)
theorem tw_506 : Cond.fieldLink RX3 61 "WetWallsModel" "readLow" "[I" ∈ q_T := q_Tin 506 (by decide +kernel) (by decide +kernel)
theorem tw_507 : Cond.fieldLink RX3 64 "WetWallsModel" "readHigh" "[I" ∈ q_T := q_Tin 507 (by decide +kernel) (by decide +kernel)
theorem tw_508 : Cond.fieldLink RX3 178 "WetWallsModel" "fitted" "I" ∈ q_T := q_Tin 508 (by decide +kernel) (by decide +kernel)
theorem tw_509 : Cond.fieldLink RX3 67 "WetWallsModel" "sumsAside" "[I" ∈ q_T := q_Tin 509 (by decide +kernel) (by decide +kernel)
theorem tw_563 : Cond.methodLink RL 17 yX3_layer ∈ q_T := q_Tin 563 (by decide +kernel) (by decide +kernel)
theorem tw_564 : Cond.instanceMethod yX3_layer ∈ q_T := q_Tin 564 (by decide +kernel) (by decide +kernel)
theorem tw_565 : Cond.selects RX3 yX3_layer yX3_layer ∈ q_T := q_Tin 565 (by decide +kernel) (by decide +kernel)
set_option maxRecDepth 100000 in
theorem tw_566 : Cond.code yX3_layer cX3_layer 5 (some .int) ∈ q_T := q_Tin 566 rfl rfl
theorem tw_567 : Cond.constantLong RX3 81 (1000) ∈ q_T := q_Tin 567 (by decide +kernel) (by decide +kernel)
theorem tw_568 : Cond.methodLink RX3 77 yX3_in ∈ q_T := q_Tin 568 (by decide +kernel) (by decide +kernel)
theorem tw_569 : Cond.static yX3_in ∈ q_T := q_Tin 569 (by decide +kernel) (by decide +kernel)
set_option maxRecDepth 100000 in
theorem tw_570 : Cond.code yX3_in cX3_in 6 (some .boolean) ∈ q_T := q_Tin 570 rfl rfl
theorem tw_571 : Cond.constantLong RX3 83 (50) ∈ q_T := q_Tin 571 (by decide +kernel) (by decide +kernel)
theorem tw_572 : Cond.constantLong RX3 85 (2) ∈ q_T := q_Tin 572 (by decide +kernel) (by decide +kernel)
theorem tw_573 : Cond.methodLink RL 22 yX3_clear ∈ q_T := q_Tin 573 (by decide +kernel) (by decide +kernel)
theorem tw_574 : Cond.instanceMethod yX3_clear ∈ q_T := q_Tin 574 (by decide +kernel) (by decide +kernel)
theorem tw_575 : Cond.selects RX3 yX3_clear yX3_clear ∈ q_T := q_Tin 575 (by decide +kernel) (by decide +kernel)
set_option maxRecDepth 100000 in
theorem tw_576 : Cond.code yX3_clear cX3_clear 3 (some .int) ∈ q_T := q_Tin 576 rfl rfl
theorem tw_577 : Cond.methodLink RL 27 yX3_corner ∈ q_T := q_Tin 577 (by decide +kernel) (by decide +kernel)
theorem tw_578 : Cond.instanceMethod yX3_corner ∈ q_T := q_Tin 578 (by decide +kernel) (by decide +kernel)
theorem tw_579 : Cond.selects RX3 yX3_corner yX3_corner ∈ q_T := q_Tin 579 (by decide +kernel) (by decide +kernel)
set_option maxRecDepth 100000 in
theorem tw_580 : Cond.code yX3_corner cX3_corner 6 (some .int) ∈ q_T := q_Tin 580 rfl rfl
theorem tw_581 : Cond.constantLong RX3 90 (4) ∈ q_T := q_Tin 581 (by decide +kernel) (by decide +kernel)
theorem tw_582 : Cond.methodLink RL 32 yX3_water ∈ q_T := q_Tin 582 (by decide +kernel) (by decide +kernel)
theorem tw_583 : Cond.instanceMethod yX3_water ∈ q_T := q_Tin 583 (by decide +kernel) (by decide +kernel)
theorem tw_584 : Cond.selects RX3 yX3_water yX3_water ∈ q_T := q_Tin 584 (by decide +kernel) (by decide +kernel)
set_option maxRecDepth 100000 in
theorem tw_585 : Cond.code yX3_water cX3_water 4 (some .int) ∈ q_T := q_Tin 585 rfl rfl
theorem tw_586 : Cond.methodLink RX3 92 yX3_isLayer ∈ q_T := q_Tin 586 (by decide +kernel) (by decide +kernel)
theorem tw_588 : Cond.instanceMethod yX3_isLayer ∈ q_T := q_Tin 588 (by decide +kernel) (by decide +kernel)
set_option maxRecDepth 100000 in
theorem tw_589 : Cond.code yX3_isLayer cX3_isLayer 2 (some .boolean) ∈ q_T := q_Tin 589 rfl rfl
theorem tw_590 : Cond.methodLink RL 36 yX3_about ∈ q_T := q_Tin 590 (by decide +kernel) (by decide +kernel)
theorem tw_591 : Cond.instanceMethod yX3_about ∈ q_T := q_Tin 591 (by decide +kernel) (by decide +kernel)
theorem tw_592 : Cond.selects RX3 yX3_about yX3_about ∈ q_T := q_Tin 592 (by decide +kernel) (by decide +kernel)
set_option maxRecDepth 100000 in
theorem tw_593 : Cond.code yX3_about cX3_about 3 (some .int) ∈ q_T := q_Tin 593 rfl rfl
theorem tw_594 : Cond.methodLink RX3 100 yX3_aboutOf ∈ q_T := q_Tin 594 (by decide +kernel) (by decide +kernel)
theorem tw_596 : Cond.instanceMethod yX3_aboutOf ∈ q_T := q_Tin 596 (by decide +kernel) (by decide +kernel)
set_option maxRecDepth 100000 in
theorem tw_597 : Cond.code yX3_aboutOf cX3_aboutOf 3 (some .int) ∈ q_T := q_Tin 597 rfl rfl
theorem tw_598 : Cond.methodLink RX3 96 yX3_damp ∈ q_T := q_Tin 598 (by decide +kernel) (by decide +kernel)
theorem tw_600 : Cond.instanceMethod yX3_damp ∈ q_T := q_Tin 600 (by decide +kernel) (by decide +kernel)
set_option maxRecDepth 100000 in
theorem tw_601 : Cond.code yX3_damp cX3_damp 5 (some .int) ∈ q_T := q_Tin 601 rfl rfl
theorem tw_602 : Cond.methodLink RL 41 yX3_hour ∈ q_T := q_Tin 602 (by decide +kernel) (by decide +kernel)
theorem tw_603 : Cond.instanceMethod yX3_hour ∈ q_T := q_Tin 603 (by decide +kernel) (by decide +kernel)
theorem tw_604 : Cond.selects RX3 yX3_hour yX3_hour ∈ q_T := q_Tin 604 (by decide +kernel) (by decide +kernel)
set_option maxRecDepth 100000 in
theorem tw_605 : Cond.code yX3_hour cX3_hour 6 (some .int) ∈ q_T := q_Tin 605 rfl rfl
theorem tw_606 : Cond.constantLong RX3 104 (-30) ∈ q_T := q_Tin 606 (by decide +kernel) (by decide +kernel)
theorem tw_607 : Cond.constantLong RX3 106 (100) ∈ q_T := q_Tin 607 (by decide +kernel) (by decide +kernel)
theorem tw_608 : Cond.methodLink RL 45 yX3_fair ∈ q_T := q_Tin 608 (by decide +kernel) (by decide +kernel)
theorem tw_609 : Cond.instanceMethod yX3_fair ∈ q_T := q_Tin 609 (by decide +kernel) (by decide +kernel)
theorem tw_610 : Cond.selects RX3 yX3_fair yX3_fair ∈ q_T := q_Tin 610 (by decide +kernel) (by decide +kernel)
set_option maxRecDepth 100000 in
theorem tw_611 : Cond.code yX3_fair cX3_fair 2 (some .int) ∈ q_T := q_Tin 611 rfl rfl
theorem tw_612 : Cond.methodLink RL 50 yX3_share ∈ q_T := q_Tin 612 (by decide +kernel) (by decide +kernel)
theorem tw_613 : Cond.instanceMethod yX3_share ∈ q_T := q_Tin 613 (by decide +kernel) (by decide +kernel)
theorem tw_614 : Cond.selects RX3 yX3_share yX3_share ∈ q_T := q_Tin 614 (by decide +kernel) (by decide +kernel)
set_option maxRecDepth 100000 in
theorem tw_615 : Cond.code yX3_share cX3_share 3 (some .int) ∈ q_T := q_Tin 615 rfl rfl
theorem tw_616 : Cond.constantLong RX3 114 (10) ∈ q_T := q_Tin 616 (by decide +kernel) (by decide +kernel)
theorem tw_617 : Cond.methodLink RL 54 yX3_pass ∈ q_T := q_Tin 617 (by decide +kernel) (by decide +kernel)
theorem tw_618 : Cond.instanceMethod yX3_pass ∈ q_T := q_Tin 618 (by decide +kernel) (by decide +kernel)
theorem tw_619 : Cond.selects RX3 yX3_pass yX3_pass ∈ q_T := q_Tin 619 (by decide +kernel) (by decide +kernel)
set_option maxRecDepth 100000 in
theorem tw_620 : Cond.code yX3_pass cX3_pass 3 (some .int) ∈ q_T := q_Tin 620 rfl rfl
theorem tw_621 : Cond.constantLong RX3 126 (240) ∈ q_T := q_Tin 621 (by decide +kernel) (by decide +kernel)
theorem tw_622 : Cond.methodLink RX3 128 yX3_mayGo ∈ q_T := q_Tin 622 (by decide +kernel) (by decide +kernel)
theorem tw_624 : Cond.instanceMethod yX3_mayGo ∈ q_T := q_Tin 624 (by decide +kernel) (by decide +kernel)
set_option maxRecDepth 100000 in
theorem tw_625 : Cond.code yX3_mayGo cX3_mayGo 1 (some .boolean) ∈ q_T := q_Tin 625 rfl rfl
theorem tw_626 : Cond.methodLink RX3 132 yX3_goOn ∈ q_T := q_Tin 626 (by decide +kernel) (by decide +kernel)
theorem tw_628 : Cond.instanceMethod yX3_goOn ∈ q_T := q_Tin 628 (by decide +kernel) (by decide +kernel)
set_option maxRecDepth 100000 in
theorem tw_629 : Cond.code yX3_goOn cX3_goOn 9 none ∈ q_T := q_Tin 629 rfl rfl
theorem tw_630 : Cond.methodLink RX3 116 yX3_cross ∈ q_T := q_Tin 630 (by decide +kernel) (by decide +kernel)
theorem tw_632 : Cond.instanceMethod yX3_cross ∈ q_T := q_Tin 632 (by decide +kernel) (by decide +kernel)
set_option maxRecDepth 100000 in
theorem tw_633 : Cond.code yX3_cross cX3_cross 6 none ∈ q_T := q_Tin 633 rfl rfl
theorem tw_634 : Cond.methodLink RX3 120 yX3_heatOf ∈ q_T := q_Tin 634 (by decide +kernel) (by decide +kernel)
theorem tw_636 : Cond.instanceMethod yX3_heatOf ∈ q_T := q_Tin 636 (by decide +kernel) (by decide +kernel)
set_option maxRecDepth 100000 in
theorem tw_637 : Cond.code yX3_heatOf cX3_heatOf 4 (some .int) ∈ q_T := q_Tin 637 rfl rfl
theorem tw_638 : Cond.methodLink RX3 123 yX3_floor ∈ q_T := q_Tin 638 (by decide +kernel) (by decide +kernel)
theorem tw_639 : Cond.static yX3_floor ∈ q_T := q_Tin 639 (by decide +kernel) (by decide +kernel)
set_option maxRecDepth 100000 in
theorem tw_640 : Cond.code yX3_floor cX3_floor 3 (some .int) ∈ q_T := q_Tin 640 rfl rfl
theorem tw_641 : Cond.methodLink RL 58 yX3_steady ∈ q_T := q_Tin 641 (by decide +kernel) (by decide +kernel)
theorem tw_642 : Cond.instanceMethod yX3_steady ∈ q_T := q_Tin 642 (by decide +kernel) (by decide +kernel)
theorem tw_643 : Cond.selects RX3 yX3_steady yX3_steady ∈ q_T := q_Tin 643 (by decide +kernel) (by decide +kernel)
set_option maxRecDepth 100000 in
theorem tw_644 : Cond.code yX3_steady cX3_steady 5 (some .int) ∈ q_T := q_Tin 644 rfl rfl
theorem tw_645 : Cond.constantLong RX3 135 (60) ∈ q_T := q_Tin 645 (by decide +kernel) (by decide +kernel)
theorem tw_646 : Cond.methodLink RL 62 yX3_sum ∈ q_T := q_Tin 646 (by decide +kernel) (by decide +kernel)
theorem tw_647 : Cond.instanceMethod yX3_sum ∈ q_T := q_Tin 647 (by decide +kernel) (by decide +kernel)
theorem tw_648 : Cond.selects RX3 yX3_sum yX3_sum ∈ q_T := q_Tin 648 (by decide +kernel) (by decide +kernel)
set_option maxRecDepth 100000 in
theorem tw_649 : Cond.code yX3_sum cX3_sum 2 (some .int) ∈ q_T := q_Tin 649 rfl rfl
theorem tw_650 : Cond.constant RX3 137 (-1000000001) ∈ q_T := q_Tin 650 (by decide +kernel) (by decide +kernel)
theorem tw_651 : Cond.methodLink RL 66 yX3_pressure ∈ q_T := q_Tin 651 (by decide +kernel) (by decide +kernel)
theorem tw_652 : Cond.instanceMethod yX3_pressure ∈ q_T := q_Tin 652 (by decide +kernel) (by decide +kernel)
theorem tw_653 : Cond.selects RX3 yX3_pressure yX3_pressure ∈ q_T := q_Tin 653 (by decide +kernel) (by decide +kernel)
set_option maxRecDepth 100000 in
theorem tw_654 : Cond.code yX3_pressure cX3_pressure 4 (some .int) ∈ q_T := q_Tin 654 rfl rfl
theorem tw_655 : Cond.methodLink RX3 154 yX3_refusal ∈ q_T := q_Tin 655 (by decide +kernel) (by decide +kernel)
theorem tw_657 : Cond.instanceMethod yX3_refusal ∈ q_T := q_Tin 657 (by decide +kernel) (by decide +kernel)
set_option maxRecDepth 100000 in
theorem tw_658 : Cond.code yX3_refusal cX3_refusal 2 (some .int) ∈ q_T := q_Tin 658 rfl rfl
theorem tw_659 : Cond.methodLink RX3 151 yX3_isHour ∈ q_T := q_Tin 659 (by decide +kernel) (by decide +kernel)
theorem tw_661 : Cond.instanceMethod yX3_isHour ∈ q_T := q_Tin 661 (by decide +kernel) (by decide +kernel)
set_option maxRecDepth 100000 in
theorem tw_662 : Cond.code yX3_isHour cX3_isHour 2 (some .boolean) ∈ q_T := q_Tin 662 rfl rfl
theorem tw_663 : Cond.methodLink RX3 157 yX3_plain ∈ q_T := q_Tin 663 (by decide +kernel) (by decide +kernel)
theorem tw_665 : Cond.instanceMethod yX3_plain ∈ q_T := q_Tin 665 (by decide +kernel) (by decide +kernel)
set_option maxRecDepth 100000 in
theorem tw_666 : Cond.code yX3_plain cX3_plain 2 none ∈ q_T := q_Tin 666 rfl rfl
theorem tw_667 : Cond.methodLink RX3 145 yX3_pressureOf ∈ q_T := q_Tin 667 (by decide +kernel) (by decide +kernel)
theorem tw_669 : Cond.instanceMethod yX3_pressureOf ∈ q_T := q_Tin 669 (by decide +kernel) (by decide +kernel)
set_option maxRecDepth 100000 in
theorem tw_670 : Cond.code yX3_pressureOf cX3_pressureOf 5 (some .int) ∈ q_T := q_Tin 670 rfl rfl
theorem tw_671 : Cond.methodLink RX3 138 yX3_saturation ∈ q_T := q_Tin 671 (by decide +kernel) (by decide +kernel)
theorem tw_672 : Cond.static yX3_saturation ∈ q_T := q_Tin 672 (by decide +kernel) (by decide +kernel)
set_option maxRecDepth 100000 in
theorem tw_673 : Cond.code yX3_saturation cX3_saturation 1 (some .int) ∈ q_T := q_Tin 673 rfl rfl
theorem tw_674 : Cond.methodLink RX3 141 yX3_between ∈ q_T := q_Tin 674 (by decide +kernel) (by decide +kernel)
theorem tw_676 : Cond.instanceMethod yX3_between ∈ q_T := q_Tin 676 (by decide +kernel) (by decide +kernel)
set_option maxRecDepth 100000 in
theorem tw_677 : Cond.code yX3_between cX3_between 9 (some .int) ∈ q_T := q_Tin 677 rfl rfl
theorem tw_678 : Cond.methodLink RL 70 yX3_warmth ∈ q_T := q_Tin 678 (by decide +kernel) (by decide +kernel)
theorem tw_679 : Cond.instanceMethod yX3_warmth ∈ q_T := q_Tin 679 (by decide +kernel) (by decide +kernel)
theorem tw_680 : Cond.selects RX3 yX3_warmth yX3_warmth ∈ q_T := q_Tin 680 (by decide +kernel) (by decide +kernel)
set_option maxRecDepth 100000 in
theorem tw_681 : Cond.code yX3_warmth cX3_warmth 4 (some .int) ∈ q_T := q_Tin 681 rfl rfl
theorem tw_682 : Cond.methodLink RX3 148 yX3_warmthOf ∈ q_T := q_Tin 682 (by decide +kernel) (by decide +kernel)
theorem tw_684 : Cond.instanceMethod yX3_warmthOf ∈ q_T := q_Tin 684 (by decide +kernel) (by decide +kernel)
set_option maxRecDepth 100000 in
theorem tw_685 : Cond.code yX3_warmthOf cX3_warmthOf 3 (some .int) ∈ q_T := q_Tin 685 rfl rfl
theorem tw_686 : Cond.methodLink RL 74 yX3_excess ∈ q_T := q_Tin 686 (by decide +kernel) (by decide +kernel)
theorem tw_687 : Cond.instanceMethod yX3_excess ∈ q_T := q_Tin 687 (by decide +kernel) (by decide +kernel)
theorem tw_688 : Cond.selects RX3 yX3_excess yX3_excess ∈ q_T := q_Tin 688 (by decide +kernel) (by decide +kernel)
set_option maxRecDepth 100000 in
theorem tw_689 : Cond.code yX3_excess cX3_excess 4 (some .int) ∈ q_T := q_Tin 689 rfl rfl
theorem tw_690 : Cond.methodLink RX3 160 yX3_excessOf ∈ q_T := q_Tin 690 (by decide +kernel) (by decide +kernel)
theorem tw_692 : Cond.instanceMethod yX3_excessOf ∈ q_T := q_Tin 692 (by decide +kernel) (by decide +kernel)
set_option maxRecDepth 100000 in
theorem tw_693 : Cond.code yX3_excessOf cX3_excessOf 4 (some .int) ∈ q_T := q_Tin 693 rfl rfl
theorem tw_694 : Cond.methodLink RL 78 yX3_best ∈ q_T := q_Tin 694 (by decide +kernel) (by decide +kernel)
theorem tw_695 : Cond.instanceMethod yX3_best ∈ q_T := q_Tin 695 (by decide +kernel) (by decide +kernel)
theorem tw_696 : Cond.selects RX3 yX3_best yX3_best ∈ q_T := q_Tin 696 (by decide +kernel) (by decide +kernel)
set_option maxRecDepth 100000 in
theorem tw_697 : Cond.code yX3_best cX3_best 3 (some .int) ∈ q_T := q_Tin 697 rfl rfl
theorem tw_698 : Cond.methodLink RX3 169 yX3_findBest ∈ q_T := q_Tin 698 (by decide +kernel) (by decide +kernel)
theorem tw_700 : Cond.instanceMethod yX3_findBest ∈ q_T := q_Tin 700 (by decide +kernel) (by decide +kernel)
set_option maxRecDepth 100000 in
theorem tw_701 : Cond.code yX3_findBest cX3_findBest 6 (some .int) ∈ q_T := q_Tin 701 rfl rfl
theorem tw_702 : Cond.methodLink RX3 166 yX3_goOnOrder ∈ q_T := q_Tin 702 (by decide +kernel) (by decide +kernel)
theorem tw_704 : Cond.instanceMethod yX3_goOnOrder ∈ q_T := q_Tin 704 (by decide +kernel) (by decide +kernel)
set_option maxRecDepth 100000 in
theorem tw_705 : Cond.code yX3_goOnOrder cX3_goOnOrder 5 (some .boolean) ∈ q_T := q_Tin 705 rfl rfl
theorem tw_706 : Cond.methodLink RX3 163 yX3_swap ∈ q_T := q_Tin 706 (by decide +kernel) (by decide +kernel)
theorem tw_708 : Cond.instanceMethod yX3_swap ∈ q_T := q_Tin 708 (by decide +kernel) (by decide +kernel)
set_option maxRecDepth 100000 in
theorem tw_709 : Cond.code yX3_swap cX3_swap 4 none ∈ q_T := q_Tin 709 rfl rfl
theorem tw_710 : Cond.methodLink RL 82 yX3_placed ∈ q_T := q_Tin 710 (by decide +kernel) (by decide +kernel)
theorem tw_711 : Cond.instanceMethod yX3_placed ∈ q_T := q_Tin 711 (by decide +kernel) (by decide +kernel)
theorem tw_712 : Cond.selects RX3 yX3_placed yX3_placed ∈ q_T := q_Tin 712 (by decide +kernel) (by decide +kernel)
set_option maxRecDepth 100000 in
theorem tw_713 : Cond.code yX3_placed cX3_placed 5 (some .int) ∈ q_T := q_Tin 713 rfl rfl
theorem tw_714 : Cond.methodLink RL 86 yX3_arrange ∈ q_T := q_Tin 714 (by decide +kernel) (by decide +kernel)
theorem tw_715 : Cond.instanceMethod yX3_arrange ∈ q_T := q_Tin 715 (by decide +kernel) (by decide +kernel)
theorem tw_716 : Cond.selects RX3 yX3_arrange yX3_arrange ∈ q_T := q_Tin 716 (by decide +kernel) (by decide +kernel)
set_option maxRecDepth 100000 in
theorem tw_717 : Cond.code yX3_arrange cX3_arrange 6 (some .int) ∈ q_T := q_Tin 717 rfl rfl
theorem tw_718 : Cond.methodLink RX3 172 yX3_layAside ∈ q_T := q_Tin 718 (by decide +kernel) (by decide +kernel)
theorem tw_720 : Cond.instanceMethod yX3_layAside ∈ q_T := q_Tin 720 (by decide +kernel) (by decide +kernel)
set_option maxRecDepth 100000 in
theorem tw_721 : Cond.code yX3_layAside cX3_layAside 2 none ∈ q_T := q_Tin 721 rfl rfl
theorem tw_722 : Cond.methodLink RX3 175 yX3_fetch ∈ q_T := q_Tin 722 (by decide +kernel) (by decide +kernel)
theorem tw_724 : Cond.instanceMethod yX3_fetch ∈ q_T := q_Tin 724 (by decide +kernel) (by decide +kernel)
set_option maxRecDepth 100000 in
theorem tw_725 : Cond.code yX3_fetch cX3_fetch 3 none ∈ q_T := q_Tin 725 rfl rfl
theorem tw_726 : Cond.methodLink RL 90 yX3_read ∈ q_T := q_Tin 726 (by decide +kernel) (by decide +kernel)
theorem tw_727 : Cond.instanceMethod yX3_read ∈ q_T := q_Tin 727 (by decide +kernel) (by decide +kernel)
theorem tw_728 : Cond.selects RX3 yX3_read yX3_read ∈ q_T := q_Tin 728 (by decide +kernel) (by decide +kernel)
set_option maxRecDepth 100000 in
theorem tw_729 : Cond.code yX3_read cX3_read 5 (some .int) ∈ q_T := q_Tin 729 rfl rfl
theorem tw_730 : Cond.methodLink RL 94 yX3_forget ∈ q_T := q_Tin 730 (by decide +kernel) (by decide +kernel)
theorem tw_731 : Cond.instanceMethod yX3_forget ∈ q_T := q_Tin 731 (by decide +kernel) (by decide +kernel)
theorem tw_732 : Cond.selects RX3 yX3_forget yX3_forget ∈ q_T := q_Tin 732 (by decide +kernel) (by decide +kernel)
set_option maxRecDepth 100000 in
theorem tw_733 : Cond.code yX3_forget cX3_forget 2 (some .int) ∈ q_T := q_Tin 733 rfl rfl
theorem tw_734 : Cond.methodLink RL 98 yX3_fits ∈ q_T := q_Tin 734 (by decide +kernel) (by decide +kernel)
theorem tw_735 : Cond.instanceMethod yX3_fits ∈ q_T := q_Tin 735 (by decide +kernel) (by decide +kernel)
theorem tw_736 : Cond.selects RX3 yX3_fits yX3_fits ∈ q_T := q_Tin 736 (by decide +kernel) (by decide +kernel)
set_option maxRecDepth 100000 in
theorem tw_737 : Cond.code yX3_fits cX3_fits 9 (some .int) ∈ q_T := q_Tin 737 rfl rfl
theorem tw_738 : Cond.methodLink RL 102 yX3_count ∈ q_T := q_Tin 738 (by decide +kernel) (by decide +kernel)
theorem tw_739 : Cond.instanceMethod yX3_count ∈ q_T := q_Tin 739 (by decide +kernel) (by decide +kernel)
theorem tw_740 : Cond.selects RX3 yX3_count yX3_count ∈ q_T := q_Tin 740 (by decide +kernel) (by decide +kernel)
set_option maxRecDepth 100000 in
theorem tw_741 : Cond.code yX3_count cX3_count 4 (some .int) ∈ q_T := q_Tin 741 rfl rfl
theorem tw_742 : Cond.methodLink RL 107 yX3_digest ∈ q_T := q_Tin 742 (by decide +kernel) (by decide +kernel)
theorem tw_743 : Cond.instanceMethod yX3_digest ∈ q_T := q_Tin 743 (by decide +kernel) (by decide +kernel)
theorem tw_744 : Cond.selects RX3 yX3_digest yX3_digest ∈ q_T := q_Tin 744 (by decide +kernel) (by decide +kernel)
set_option maxRecDepth 100000 in
theorem tw_745 : Cond.code yX3_digest cX3_digest 5 (some .long) ∈ q_T := q_Tin 745 rfl rfl
theorem tw_746 : Cond.constantLong RX3 181 (181) ∈ q_T := q_Tin 746 (by decide +kernel) (by decide +kernel)
theorem tw_747 : Cond.constantLong RX3 183 (31) ∈ q_T := q_Tin 747 (by decide +kernel) (by decide +kernel)
end
section

/-! ===== the memory of the class and of the reference: cells by number, each a row of ints; which cells refer to which never changes ===== -/
abbrev q_Mem : Type := Nat → Nat → Int32
abbrev q_Shp : Type := Nat ⊕ (Nat × Nat) ⊕ (Nat × List (Option Nat))
def q_set (mem : q_Mem) (k : Nat) (f : Nat → Int32) : q_Mem := fun j => if j = k then f else mem j
theorem q_set_s (mem : q_Mem) (k : Nat) (f : Nat → Int32) : q_set mem k f k = f := if_pos rfl
theorem q_set_n {mem : q_Mem} {k j : Nat} {f : Nat → Int32} (h : j ≠ k) : q_set mem k f j = mem j := if_neg h
def q_sh : List q_Shp := [.inr (.inr (2, [some 1, some 16, some 31, some 34, none, none, none, some 59, none, none])), .inr (.inr (1, [some 2, some 6, some 7, some 8, some 9, some 10, some 11, some 12, some 13, some 14, some 15, none])), .inr (.inl (3, 3)), .inl 5, .inl 5, .inl 5, .inl 6, .inl 6, .inl 6, .inl 6, .inl 6, .inl 6, .inl 6, .inl 6, .inl 5, .inl 6, .inr (.inr (1, [some 17, some 21, some 22, some 23, some 24, some 25, some 26, some 27, some 28, some 29, some 30, none])), .inr (.inl (3, 18)), .inl 5, .inl 5, .inl 5, .inl 6, .inl 6, .inl 6, .inl 6, .inl 6, .inl 6, .inl 6, .inl 6, .inl 5, .inl 6, .inr (.inr (0, [some 32, some 33])), .inl 64, .inl 6, .inr (.inl (24, 35)), .inl 5, .inl 5, .inl 5, .inl 5, .inl 5, .inl 5, .inl 5, .inl 5, .inl 5, .inl 5, .inl 5, .inl 5, .inl 5, .inl 5, .inl 5, .inl 5, .inl 5, .inl 5, .inl 5, .inl 5, .inl 5, .inl 5, .inl 5, .inl 5, .inr (.inl (12, 60)), .inl 4, .inl 4, .inl 4, .inl 4, .inl 4, .inl 4, .inl 4, .inl 4, .inl 4, .inl 4, .inl 4, .inl 4, .inr (.inr (3, [none, some 73, some 74, some 75, some 76, some 77, some 78, some 79, some 80, some 81, some 82, none, none, none, some 83, some 84, some 85, some 86, some 87, none, some 88, some 89, some 90, some 91, none, some 92])), .inl 6, .inl 6, .inl 6, .inl 6, .inl 6, .inl 6, .inl 6, .inl 6, .inl 15, .inl 5, .inl 120, .inl 6, .inl 6, .inl 6, .inl 48, .inl 12, .inl 12, .inl 12, .inl 12, .inl 5]
def q_al (a : Nat) : Nat := match q_sh[a]? with
  | some (.inl n) => n
  | _ => 0
abbrev q_WB (b : Nat) : Prop := b = 1 ∨ b = 16
def q_wsh (b : Nat) : List q_Shp := [.inr (.inr (1, [some (b + 1), some (b + 5), some (b + 6), some (b + 7), some (b + 8), some (b + 9), some (b + 10), some (b + 11), some (b + 12), some (b + 13), some (b + 14), none])), .inr (.inl (3, b + 2)), .inl 5, .inl 5, .inl 5, .inl 6, .inl 6, .inl 6, .inl 6, .inl 6, .inl 6, .inl 6, .inl 6, .inl 5, .inl 6]
theorem q_sh_wall {b : Nat} (hb : q_WB b) (j : Nat) (hj : j < 15) : q_sh[b + j]? = (q_wsh b)[j]? := by
  rcases hb with rfl | rfl
  · exact match j, hj with | 0, _ => rfl | 1, _ => rfl | 2, _ => rfl | 3, _ => rfl | 4, _ => rfl | 5, _ => rfl | 6, _ => rfl | 7, _ => rfl | 8, _ => rfl | 9, _ => rfl | 10, _ => rfl | 11, _ => rfl | 12, _ => rfl | 13, _ => rfl | 14, _ => rfl | n + 15, h => absurd h (by omega)
  · exact match j, hj with | 0, _ => rfl | 1, _ => rfl | 2, _ => rfl | 3, _ => rfl | 4, _ => rfl | 5, _ => rfl | 6, _ => rfl | 7, _ => rfl | 8, _ => rfl | 9, _ => rfl | 10, _ => rfl | 11, _ => rfl | 12, _ => rfl | 13, _ => rfl | 14, _ => rfl | n + 15, h => absurd h (by omega)
theorem q_sh_w0 {b : Nat} (hb : q_WB b) : q_sh[b]? = some (.inr (.inr (1, [some (b + 1), some (b + 5), some (b + 6), some (b + 7), some (b + 8), some (b + 9), some (b + 10), some (b + 11), some (b + 12), some (b + 13), some (b + 14), none]))) := q_sh_wall hb 0 (by decide)
theorem q_sh_w1 {b : Nat} (hb : q_WB b) : q_sh[b + 1]? = some (.inr (.inl (3, b + 2))) := q_sh_wall hb 1 (by decide)
/-! the world: the cells at their addresses -/
abbrev q_G : Type := va_G × (Nat → Nat) × ClassId × ClassId × (Nat → Prop)
abbrev q_ad (G : q_G) : Nat → Nat := G.2.1
abbrev q_A (G : q_G) : Nat → Prop := G.2.2.2.2
def q_fv (ad : Nat → Nat) (f : Nat → Int32) (j : Nat) (o : Option Nat) : Value := match o with
  | none => .int (f j)
  | some r => .ref (ad r)
def q_e (G : q_G) (f : Nat → Int32) (s : q_Shp) : va_E := match s with
  | .inl n => .inl (G.2.2.1, n, .inl f)
  | .inr (.inl x) => .inl (G.2.2.2.1, x.1, .inr (.inr (.inr (.inr (fun i => if i < x.1 then some (G.2.1 (x.2 + i)) else none)))))
  | .inr (.inr x) => .inr (x.1, x.2.mapIdx (q_fv G.2.1 f))
def q_w (G : q_G) (mem : q_Mem) : va_W := q_sh.mapIdx (fun k s => (G.2.1 k, q_e G (mem k) s))
theorem q_w_get (G : q_G) (mem : q_Mem) {k : Nat} {s : q_Shp} (h : q_sh[k]? = some s) : (q_w G mem)[k]? = some (G.2.1 k, q_e G (mem k) s) := by
  unfold q_w
  rw [List.getElem?_mapIdx, h]
  rfl
theorem q_w_len (G : q_G) (mem : q_Mem) : (q_w G mem).length = q_sh.length := by
  unfold q_w
  rw [List.length_mapIdx]
theorem q_w_set (G : q_G) (mem : q_Mem) {k : Nat} {s : q_Shp} (h : q_sh[k]? = some s) (f : Nat → Int32) : (q_w G mem).set k (G.2.1 k, q_e G f s) = q_w G (q_set mem k f) := by
  have hk : k < q_sh.length := (List.getElem?_eq_some_iff.mp h).1
  apply List.ext_getElem?
  intro j
  by_cases hj : j = k
  · subst hj
    rw [List.getElem?_set_self (by rw [q_w_len]; exact hk), q_w_get G _ h, q_set_s]
  · rw [List.getElem?_set_ne (Ne.symm hj)]
    unfold q_w
    rw [List.getElem?_mapIdx, List.getElem?_mapIdx, q_set_n hj]
theorem q_fv_get (ad : Nat → Nat) (f : Nat → Int32) {fs : List (Option Nat)} {j : Nat} {o : Option Nat} (h : fs[j]? = some o) : (fs.mapIdx (q_fv ad f))[j]? = some (q_fv ad f j o) := by
  rw [List.getElem?_mapIdx, h]
  rfl
theorem q_fv_set (ad : Nat → Nat) (f : Nat → Int32) {fs : List (Option Nat)} {j : Nat} (h : fs[j]? = some none) (x : Int32) : (fs.mapIdx (q_fv ad f)).set j (.int x) = fs.mapIdx (q_fv ad (upd f j x)) := by
  have hj : j < fs.length := (List.getElem?_eq_some_iff.mp h).1
  apply List.ext_getElem?
  intro i
  by_cases hi : i = j
  · subst hi
    rw [List.getElem?_set_self (by rw [List.length_mapIdx]; exact hj), q_fv_get ad _ h]
    simp [q_fv, upd]
  · rw [List.getElem?_set_ne (Ne.symm hi), List.getElem?_mapIdx, List.getElem?_mapIdx]
    cases fs[i]? with
    | none => rfl
    | some o =>
      cases o with
      | none => simp [q_fv, upd, hi]
      | some r => rfl
/-! words of links between nest mates, which a state keeps -/
def q_nf : List (String × Nat × String × String × String × String) := [("WetWalls", 130, "WetWalls$OldWay", "order", "[I", "WetWalls"), ("WetWalls", 54, "WetWalls$Wall", "size", "I", "WetWalls"), ("WetWalls", 64, "WetWalls$Wall", "corners", "[[I", "WetWalls"), ("WetWalls", 71, "WetWalls$Wall", "room", "[I", "WetWalls"), ("WetWalls", 75, "WetWalls$Wall", "held", "[I", "WetWalls"), ("WetWalls", 78, "WetWalls$Wall", "sums", "[I", "WetWalls"), ("WetWalls$OldWay", 29, "WetWalls$Wall", "size", "I", "WetWalls"), ("WetWalls$OldWay", 45, "WetWalls$Wall", "steam", "[I", "WetWalls"), ("WetWalls$OldWay", 56, "WetWalls$Wall", "heat", "[I", "WetWalls"), ("WetWalls$Wall", 51, "WetWalls", "FIRST_CORNERS", "[I", "WetWalls")]
def q_nm : List (String × Nat × MethodName × String) := [("WetWalls", 110, ⟨"WetWalls$OldWay", "pressureAt", "(LWetWalls$Wall;[II)I"⟩, "WetWalls"), ("WetWalls", 114, ⟨"WetWalls$OldWay", "warmthAt", "(LWetWalls$Wall;[II)I"⟩, "WetWalls"), ("WetWalls", 120, ⟨"WetWalls$Wall", "firstLayers", "(I)I"⟩, "WetWalls"), ("WetWalls", 123, ⟨"WetWalls$OldWay", "excessBehind", "(LWetWalls$Wall;[II)I"⟩, "WetWalls"), ("WetWalls", 126, ⟨"WetWalls$OldWay", "findBestOrder", "(LWetWalls$Wall;[I)I"⟩, "WetWalls"), ("WetWalls", 133, ⟨"WetWalls$Wall", "standInOrder", "([I)V"⟩, "WetWalls"), ("WetWalls", 160, ⟨"WetWalls$Wall", "becomeAs", "(LWetWalls$Wall;)V"⟩, "WetWalls"), ("WetWalls", 164, ⟨"WetWalls$Wall", "holdsSameWaterAs", "(LWetWalls$Wall;)Z"⟩, "WetWalls"), ("WetWalls", 173, ⟨"WetWalls$Wall", "moveWater", "([II)V"⟩, "WetWalls"), ("WetWalls", 179, ⟨"WetWalls$Wall", "dampOf", "(I)I"⟩, "WetWalls"), ("WetWalls", 182, ⟨"WetWalls$Wall", "allWater", "()I"⟩, "WetWalls"), ("WetWalls", 21, ⟨"WetWalls$OldWay", "<init>", "()V"⟩, "WetWalls"), ("WetWalls", 57, ⟨"WetWalls$Wall", "addInside", "(IIII)V"⟩, "WetWalls"), ("WetWalls", 61, ⟨"WetWalls$Wall", "empty", "()V"⟩, "WetWalls"), ("WetWalls", 67, ⟨"WetWalls$Wall", "has", "(I)Z"⟩, "WetWalls"), ("WetWalls", 81, ⟨"WetWalls$Wall", "tellOf", "(II)I"⟩, "WetWalls"), ("WetWalls", 9, ⟨"WetWalls$Wall", "<init>", "()V"⟩, "WetWalls"), ("WetWalls", 95, ⟨"WetWalls$Wall", "letHourPass", "([II)V"⟩, "WetWalls"), ("WetWalls$OldWay", 22, ⟨"WetWalls", "partDown", "(II)I"⟩, "WetWalls"), ("WetWalls$OldWay", 35, ⟨"WetWalls$Wall", "firstLayers", "(I)I"⟩, "WetWalls"), ("WetWalls$OldWay", 48, ⟨"WetWalls$Wall", "resistOf", "([II)I"⟩, "WetWalls"), ("WetWalls$Wall", 106, ⟨"WetWalls", "partCut", "(II)I"⟩, "WetWalls"), ("WetWalls$Wall", 75, ⟨"WetWalls", "partDown", "(II)I"⟩, "WetWalls")]
def q_Nst (s : State) : Prop := (∀ q ∈ q_nf, va_Nw (.fieldLinkNest q.1 q.2.1 q.2.2.1 q.2.2.2.1 q.2.2.2.2.1 q.2.2.2.2.2) s) ∧ ∀ q ∈ q_nm, va_Nw (.methodLinkNest q.1 q.2.1 q.2.2.1 q.2.2.2) s
theorem q_Nst.warm {s U : State} (hW : s.WarmedH U.vm) (h : q_Nst s) : q_Nst U := ⟨fun q hq => (h.1 q hq).warmF hW, fun q hq => (h.2 q hq).warmM hW⟩
theorem q_Nst.same {s U : State} (hv : s.vm = U.vm) (h : q_Nst s) : q_Nst U := ⟨fun q hq => (h.1 q hq).same rfl hv, fun q hq => (h.2 q hq).same rfl hv⟩
def q_Wd (G : q_G) (mem : q_Mem) (s : State) (H : Heap) : Prop :=
  va_P G.1 vwCl (q_w G mem) H ∧ va_K G.1 vwCl [(G.2.2.1, .int), (G.2.2.2.1, .array .int)] s ∧ va_D G.2.2.2.2 (q_w G mem) ∧ q_Nst s
theorem q_Wd.warm {G : q_G} {mem : q_Mem} {s U : State} {H : Heap} (hW : s.WarmedH U.vm) (h : q_Wd G mem s H) : q_Wd G mem U H := ⟨h.1, va_K.moved hW.alike h.2.1, h.2.2.1, h.2.2.2.warm hW⟩
/-! the locals: by their places -/
def q_L (ls : Array Slot) (nL : Nat) (lv : List (Option Value)) : Prop := ls.size = nL ∧ lv_wf ls ∧ ∀ (i : Nat) (v : Value), lv[i]? = some (some v) → ls[i]? = some (.val v)
def q_lp : Nat → List (Option Value) → List (Nat × Value)
  | _, [] => []
  | i, none :: l => q_lp (i + 1) l
  | i, some v :: l => (i, v) :: q_lp (i + 1) l
theorem q_lp_mem : ∀ (lv : List (Option Value)) (k : Nat) (q : Nat × Value), q ∈ q_lp k lv ↔ ∃ i, q.1 = k + i ∧ lv[i]? = some (some q.2)
  | [], k, q => by simp [q_lp]
  | none :: l, k, q => by
    rw [q_lp, q_lp_mem l (k + 1) q]
    constructor
    · rintro ⟨i, h1, h2⟩
      exact ⟨i + 1, by omega, by rw [List.getElem?_cons_succ]; exact h2⟩
    · rintro ⟨i, h1, h2⟩
      cases i with
      | zero => simp at h2
      | succ i => exact ⟨i, by omega, by rw [List.getElem?_cons_succ] at h2; exact h2⟩
  | some v :: l, k, q => by
    rw [q_lp, List.mem_cons, q_lp_mem l (k + 1) q]
    constructor
    · rintro (h | ⟨i, h1, h2⟩)
      · subst h
        exact ⟨0, rfl, rfl⟩
      · exact ⟨i + 1, by omega, by rw [List.getElem?_cons_succ]; exact h2⟩
    · rintro ⟨i, h1, h2⟩
      cases i with
      | zero =>
        left
        obtain ⟨a, b⟩ := q
        simp at h1 h2
        rw [h1, h2]
      | succ i => exact Or.inr ⟨i, by omega, by rw [List.getElem?_cons_succ] at h2; exact h2⟩
theorem q_L.has {ls : Array Slot} {nL : Nat} {lv : List (Option Value)} (h : q_L ls nL lv) : lv_has ls nL (q_lp 0 lv) := ⟨h.1, h.2.1, fun q hq => by
  obtain ⟨i, h1, h2⟩ := (q_lp_mem lv 0 q).mp hq
  rw [h1, Nat.zero_add]
  exact h.2.2 i _ h2⟩
/-- may a value of one slot be stored at i: the slot ahead holds no long -/
def q_ok1 (lv : List (Option Value)) (i : Nat) : Bool := match i with
  | 0 => true
  | j + 1 => match lv[j]? with
    | some (some v) => v.category == 1
    | _ => true
theorem q_L.st1 {ls' : Array Slot} {nL : Nat} {lv : List (Option Value)} {i : Nat} {v : Value} (hok : q_ok1 lv i = true)
    (h : lv_has ls' nL ((i, v) :: (q_lp 0 lv).filter (fun q => !(q.1 == i) && !(q.1 + 1 == i && q.2.category == 2)))) : q_L ls' nL (lv.set i (some v)) := by
  refine ⟨h.1, h.2.1, fun j w hj => ?_⟩
  by_cases e : j = i
  · subst e
    have hl : j < lv.length := by
      have := (List.getElem?_eq_some_iff.mp hj).1
      rwa [List.length_set] at this
    rw [List.getElem?_set_self hl] at hj
    cases hj
    exact h.2.2 (j, v) List.mem_cons_self
  · rw [List.getElem?_set_ne (Ne.symm e)] at hj
    refine h.2.2 (j, w) (List.mem_cons_of_mem _ (List.mem_filter.mpr ⟨(q_lp_mem lv 0 _).mpr ⟨j, (Nat.zero_add j).symm, hj⟩, ?_⟩))
    simp only [Bool.and_eq_true, Bool.not_eq_true', beq_eq_false_iff_ne, ne_eq, Bool.and_eq_false_iff]
    refine ⟨e, ?_⟩
    by_cases e2 : j + 1 = i
    · right
      subst e2
      simp only [q_ok1, hj, beq_iff_eq] at hok
      omega
    · exact Or.inl e2
theorem q_L.st2 {ls' : Array Slot} {nL : Nat} {lv : List (Option Value)} {i : Nat} {v : Value} (hok : q_ok1 lv i = true)
    (h : lv_has ls' nL ((i, v) :: (q_lp 0 lv).filter (fun q => !(q.1 == i) && (!(q.1 == i + 1) && !(q.1 + 1 == i && q.2.category == 2))))) : q_L ls' nL ((lv.set i (some v)).set (i + 1) none) := by
  refine ⟨h.1, h.2.1, fun j w hj => ?_⟩
  by_cases e1 : j = i + 1
  · subst e1
    rw [List.getElem?_set] at hj
    simp at hj
  · rw [List.getElem?_set_ne (Ne.symm e1)] at hj
    by_cases e : j = i
    · subst e
      have hl : j < lv.length := by
        have := (List.getElem?_eq_some_iff.mp hj).1
        rwa [List.length_set] at this
      rw [List.getElem?_set_self hl] at hj
      cases hj
      exact h.2.2 (j, v) List.mem_cons_self
    · rw [List.getElem?_set_ne (Ne.symm e)] at hj
      refine h.2.2 (j, w) (List.mem_cons_of_mem _ (List.mem_filter.mpr ⟨(q_lp_mem lv 0 _).mpr ⟨j, (Nat.zero_add j).symm, hj⟩, ?_⟩))
      simp only [Bool.and_eq_true, Bool.not_eq_true', beq_eq_false_iff_ne, ne_eq, Bool.and_eq_false_iff]
      refine ⟨e, e1, ?_⟩
      by_cases e2 : j + 1 = i
      · right
        subst e2
        simp only [q_ok1, hj, beq_iff_eq] at hok
        omega
      · exact Or.inl e2
/-! the judgement -/
abbrev q_X : Type := Program × Launch × Env × Room × State × MethodId × Array Value × List Frame × Method × Code × Nat × Nat
abbrev q_s (X : q_X) : State := X.2.2.2.2.1
abbrev q_R (X : q_X) : Room := X.2.2.2.1
abbrev q_l (X : q_X) : Launch := X.2.1
abbrev q_args (X : q_X) : Array Value := X.2.2.2.2.2.2.1
abbrev q_W (X : q_X) (H : Heap) (locs : List Loc) (QQ : State → Prop) (pc : Nat) (ls : Array Slot) (st : List Value) : Prop :=
  W X.1 X.2.1 X.2.2.1 X.2.2.2.1 X.2.2.2.2.1 X.2.2.2.2.2.1 X.2.2.2.2.2.2.1 X.2.2.2.2.2.2.2.1 X.2.2.2.2.2.2.2.2.1 X.2.2.2.2.2.2.2.2.2.1 H locs X.2.2.2.2.2.2.2.2.2.2.1 X.2.2.2.2.2.2.2.2.2.2.2 QQ (F0 X.2.2.2.2.2.1 pc ls st)
def q_J (X : q_X) (G : q_G) (nL : Nat) (QQ : State → Prop) (pc : Nat) (lv : List (Option Value)) (st : List Value) (mem : q_Mem) : Prop :=
  ∀ (H : Heap) (locs : List Loc) (ls : Array Slot), q_Wd G mem (q_s X) H → va_S (q_A G) (q_s X).heap H locs → q_L ls nL lv → q_W X H locs QQ pc ls st
def q_C (X : q_X) (cc : ByteArray) (nL : Nat) (own : String) (ret : Option FieldType) (F Lo : Nat) : Prop :=
  (X.1.tables.exec = Jvm.exec ∧ X.2.2.2.2.2.2.2.2.2.1.code = cc ∧ X.2.2.2.2.2.2.2.2.2.1.maxLocals = nL ∧ (q_s X).vm.findClass own = some X.2.2.2.2.2.1.cls ∧ ∀ w ∈ q_T, w.before (q_args X) (q_s X) = true) ∧
  X.2.2.2.2.2.2.2.2.1.sig.returnType = ret ∧ X.2.2.2.2.2.2.2.2.1.locks = false ∧ F ≤ (q_R X).frames ∧ Lo ≤ (q_R X).locals ∧ X.2.2.2.2.2.2.2.2.2.2.1 ≤ (q_R X).cells ∧ X.2.2.2.2.2.2.2.2.2.2.2 ≤ (q_R X).slots
def q_mask : List Bool → List (Option Value) → List (Option Value)
  | b :: bs, o :: os => (if b then o else none) :: q_mask bs os
  | _, _ => []
theorem q_mask_get : ∀ (bs : List Bool) (lv : List (Option Value)) (i : Nat) (v : Value), (q_mask bs lv)[i]? = some (some v) → lv[i]? = some (some v)
  | [], lv, i, v, h => by simp [q_mask] at h
  | b :: bs, [], i, v, h => by simp [q_mask] at h
  | b :: bs, o :: os, 0, v, h => by
    cases b with
    | true => simpa [q_mask] using h
    | false => simp [q_mask] at h
  | b :: bs, o :: os, i + 1, v, h => by
    rw [q_mask, List.getElem?_cons_succ] at h
    rw [List.getElem?_cons_succ]
    exact q_mask_get bs os i v h
section QJ
variable {X : q_X} {G : q_G} {nL : Nat} {QQ : State → Prop} {pc : Nat} {lv : List (Option Value)} {st : List Value} {mem : q_Mem} {cc : ByteArray} {own : String} {ret : Option FieldType} {F Lo : Nat}
theorem q_weak (bs : List Bool) {lv' : List (Option Value)} (e : q_mask bs lv = lv') (k : q_J X G nL QQ pc lv' st mem) : q_J X G nL QQ pc lv st mem := fun H locs ls hW hS hL => k H locs ls hW hS ⟨hL.1, hL.2.1, fun i v h => hL.2.2 i v (q_mask_get bs lv i v (by rw [e]; exact h))⟩
theorem q_iconst (hX : q_C X cc nL own ret F Lo) {n : Int} (v : Int32) (hv : Int32.ofInt n = v) (d : decode cc pc = .ok (.iconst n, 1)) (pc' : Nat) (ep : pc + 1 = pc') (k : q_J X G nL QQ pc' lv (.int v :: st) mem) : q_J X G nL QQ pc lv (st) mem := by
  subst ep
  exact fun H locs ls hW hS hL => lv_iconst hX.1.1 hX.1.2.1 d hv (k H locs ls hW hS hL)
theorem q_bipush (hX : q_C X cc nL own ret F Lo) {n : Int} (v : Int32) (hv : (Int8.ofInt n).toInt32 = v) (d : decode cc pc = .ok (.bipush n, 2)) (pc' : Nat) (ep : pc + 2 = pc') (k : q_J X G nL QQ pc' lv (.int v :: st) mem) : q_J X G nL QQ pc lv (st) mem := by
  subst ep
  exact fun H locs ls hW hS hL => lv_bipush hX.1.1 hX.1.2.1 d hv (k H locs ls hW hS hL)
theorem q_sipush (hX : q_C X cc nL own ret F Lo) {n : Int} (v : Int32) (hv : (Int16.ofInt n).toInt32 = v) (d : decode cc pc = .ok (.sipush n, 3)) (pc' : Nat) (ep : pc + 3 = pc') (k : q_J X G nL QQ pc' lv (.int v :: st) mem) : q_J X G nL QQ pc lv (st) mem := by
  subst ep
  exact fun H locs ls hW hS hL => lv_sipush hX.1.1 hX.1.2.1 d hv (k H locs ls hW hS hL)
theorem q_lconst (hX : q_C X cc nL own ret F Lo) {n : Fin 2} (v : Int64) (hv : Int64.ofNat (n : Nat) = v) (d : decode cc pc = .ok (.lconst n, 1)) (pc' : Nat) (ep : pc + 1 = pc') (k : q_J X G nL QQ pc' lv (.long v :: st) mem) : q_J X G nL QQ pc lv (st) mem := by
  subst ep
  exact fun H locs ls hW hS hL => lv_lconst hX.1.1 hX.1.2.1 d hv (k H locs ls hW hS hL)
theorem q_ldc (hX : q_C X cc nL own ret F Lo) {index : Nat} {v : Int32} (hw : Cond.constant own index v ∈ q_T) (d : decode cc pc = .ok (.ldc index, 2)) (pc' : Nat) (ep : pc + 2 = pc') (k : q_J X G nL QQ pc' lv (.int v :: st) mem) : q_J X G nL QQ pc lv (st) mem := by
  subst ep
  exact fun H locs ls hW hS hL => lv_ldc hX.1.1 hX.1.2.1 hX.1.2.2.2.1 (hX.1.2.2.2.2 _ hw) d (k H locs ls hW hS hL)
theorem q_ldc2 (hX : q_C X cc nL own ret F Lo) {index : Nat} {v : Int64} (hw : Cond.constantLong own index v ∈ q_T) (d : decode cc pc = .ok (.ldc2_w index, 3)) (pc' : Nat) (ep : pc + 3 = pc') (k : q_J X G nL QQ pc' lv (.long v :: st) mem) : q_J X G nL QQ pc lv (st) mem := by
  subst ep
  exact fun H locs ls hW hS hL => lv_ldc2 hX.1.1 hX.1.2.1 hX.1.2.2.2.1 (hX.1.2.2.2.2 _ hw) d (k H locs ls hW hS hL)
theorem q_iload (hX : q_C X cc nL own ret F Lo) {i : Nat} {x : Int32} (hl : lv[i]? = some (some (.int x))) (d : decode cc pc = .ok (.iload i, 2)) (pc' : Nat) (ep : pc + 2 = pc') (k : q_J X G nL QQ pc' lv (.int x :: st) mem) : q_J X G nL QQ pc lv (st) mem := by
  subst ep
  exact fun H locs ls hW hS hL => lv_iload hX.1.1 hX.1.2.1 d (hL.2.2 _ _ hl) (k H locs ls hW hS hL)
theorem q_iload_n (hX : q_C X cc nL own ret F Lo) {j : Fin 4} {x : Int32} (hl : lv[(j : Nat)]? = some (some (.int x))) (d : decode cc pc = .ok (.iload_n j, 1)) (pc' : Nat) (ep : pc + 1 = pc') (k : q_J X G nL QQ pc' lv (.int x :: st) mem) : q_J X G nL QQ pc lv (st) mem := by
  subst ep
  exact fun H locs ls hW hS hL => lv_iload_n hX.1.1 hX.1.2.1 d rfl (hL.2.2 _ _ hl) (k H locs ls hW hS hL)
theorem q_lload (hX : q_C X cc nL own ret F Lo) {i : Nat} {x : Int64} (hl : lv[i]? = some (some (.long x))) (d : decode cc pc = .ok (.lload i, 2)) (pc' : Nat) (ep : pc + 2 = pc') (k : q_J X G nL QQ pc' lv (.long x :: st) mem) : q_J X G nL QQ pc lv (st) mem := by
  subst ep
  exact fun H locs ls hW hS hL => lv_lload hX.1.1 hX.1.2.1 d (hL.2.2 _ _ hl) (k H locs ls hW hS hL)
theorem q_lload_n (hX : q_C X cc nL own ret F Lo) {j : Fin 4} {x : Int64} (hl : lv[(j : Nat)]? = some (some (.long x))) (d : decode cc pc = .ok (.lload_n j, 1)) (pc' : Nat) (ep : pc + 1 = pc') (k : q_J X G nL QQ pc' lv (.long x :: st) mem) : q_J X G nL QQ pc lv (st) mem := by
  subst ep
  exact fun H locs ls hW hS hL => lv_lload_n hX.1.1 hX.1.2.1 d rfl (hL.2.2 _ _ hl) (k H locs ls hW hS hL)
theorem q_aload (hX : q_C X cc nL own ret F Lo) {i a : Nat} (hl : lv[i]? = some (some (.ref a))) (d : decode cc pc = .ok (.aload i, 2)) (pc' : Nat) (ep : pc + 2 = pc') (k : q_J X G nL QQ pc' lv (.ref a :: st) mem) : q_J X G nL QQ pc lv (st) mem := by
  subst ep
  exact fun H locs ls hW hS hL => lv_aload hX.1.1 hX.1.2.1 d (hL.2.2 _ _ hl) (k H locs ls hW hS hL)
theorem q_aload_n (hX : q_C X cc nL own ret F Lo) {j : Fin 4} {a : Nat} (hl : lv[(j : Nat)]? = some (some (.ref a))) (d : decode cc pc = .ok (.aload_n j, 1)) (pc' : Nat) (ep : pc + 1 = pc') (k : q_J X G nL QQ pc' lv (.ref a :: st) mem) : q_J X G nL QQ pc lv (st) mem := by
  subst ep
  exact fun H locs ls hW hS hL => lv_aload_n hX.1.1 hX.1.2.1 d rfl (hL.2.2 _ _ hl) (k H locs ls hW hS hL)
theorem q_istore (hX : q_C X cc nL own ret F Lo) {i : Nat} {x : Int32} (d : decode cc pc = .ok (.istore i, 2)) (pc' : Nat) (ep : pc + 2 = pc') (hn : i < nL) (ho : q_ok1 lv i = true) (k : ∀ y : Int32, y = x → ∀ lv' : List (Option Value), lv.set i (some (.int y)) = lv' → q_J X G nL QQ pc' lv' st mem) : q_J X G nL QQ pc lv (.int x :: st) mem := by
  subst ep
  exact fun H locs ls hW hS hL => lv_istore hX.1.1 hX.1.2.1 d hL.has hn rfl (fun ls' hl' => k x rfl _ rfl H locs ls' hW hS (q_L.st1 ho hl'))
theorem q_istore_n (hX : q_C X cc nL own ret F Lo) {j : Fin 4} {x : Int32} (d : decode cc pc = .ok (.istore_n j, 1)) (pc' : Nat) (ep : pc + 1 = pc') (hn : (j : Nat) < nL) (ho : q_ok1 lv (j : Nat) = true) (k : ∀ y : Int32, y = x → ∀ lv' : List (Option Value), lv.set (j : Nat) (some (.int y)) = lv' → q_J X G nL QQ pc' lv' st mem) : q_J X G nL QQ pc lv (.int x :: st) mem := by
  subst ep
  exact fun H locs ls hW hS hL => lv_istore_n hX.1.1 hX.1.2.1 d rfl hL.has hn rfl (fun ls' hl' => k x rfl _ rfl H locs ls' hW hS (q_L.st1 ho hl'))
theorem q_lstore (hX : q_C X cc nL own ret F Lo) {i : Nat} {x : Int64} (d : decode cc pc = .ok (.lstore i, 2)) (pc' : Nat) (ep : pc + 2 = pc') (hn : i + 1 < nL) (ho : q_ok1 lv i = true) (k : ∀ y : Int64, y = x → ∀ lv' : List (Option Value), (lv.set i (some (.long y))).set (i + 1) none = lv' → q_J X G nL QQ pc' lv' st mem) : q_J X G nL QQ pc lv (.long x :: st) mem := by
  subst ep
  exact fun H locs ls hW hS hL => lv_lstore hX.1.1 hX.1.2.1 d hL.has hn rfl (fun ls' hl' => k x rfl _ rfl H locs ls' hW hS (q_L.st2 ho hl'))
theorem q_lstore_n (hX : q_C X cc nL own ret F Lo) {j : Fin 4} {x : Int64} (d : decode cc pc = .ok (.lstore_n j, 1)) (pc' : Nat) (ep : pc + 1 = pc') (hn : (j : Nat) + 1 < nL) (ho : q_ok1 lv (j : Nat) = true) (k : ∀ y : Int64, y = x → ∀ lv' : List (Option Value), (lv.set (j : Nat) (some (.long y))).set ((j : Nat) + 1) none = lv' → q_J X G nL QQ pc' lv' st mem) : q_J X G nL QQ pc lv (.long x :: st) mem := by
  subst ep
  exact fun H locs ls hW hS hL => lv_lstore_n hX.1.1 hX.1.2.1 d rfl hL.has hn rfl (fun ls' hl' => k x rfl _ rfl H locs ls' hW hS (q_L.st2 ho hl'))
theorem q_astore (hX : q_C X cc nL own ret F Lo) {i : Nat} {x : Nat} (d : decode cc pc = .ok (.astore i, 2)) (pc' : Nat) (ep : pc + 2 = pc') (hn : i < nL) (ho : q_ok1 lv i = true) (k : ∀ y : Nat, y = x → ∀ lv' : List (Option Value), lv.set i (some (.ref y)) = lv' → q_J X G nL QQ pc' lv' st mem) : q_J X G nL QQ pc lv (.ref x :: st) mem := by
  subst ep
  exact fun H locs ls hW hS hL => lv_astore hX.1.1 hX.1.2.1 d hL.has hn rfl (fun ls' hl' => k x rfl _ rfl H locs ls' hW hS (q_L.st1 ho hl'))
theorem q_astore_n (hX : q_C X cc nL own ret F Lo) {j : Fin 4} {x : Nat} (d : decode cc pc = .ok (.astore_n j, 1)) (pc' : Nat) (ep : pc + 1 = pc') (hn : (j : Nat) < nL) (ho : q_ok1 lv (j : Nat) = true) (k : ∀ y : Nat, y = x → ∀ lv' : List (Option Value), lv.set (j : Nat) (some (.ref y)) = lv' → q_J X G nL QQ pc' lv' st mem) : q_J X G nL QQ pc lv (.ref x :: st) mem := by
  subst ep
  exact fun H locs ls hW hS hL => lv_astore_n hX.1.1 hX.1.2.1 d rfl hL.has hn rfl (fun ls' hl' => k x rfl _ rfl H locs ls' hW hS (q_L.st1 ho hl'))
theorem q_lp_at {lv : List (Option Value)} {i : Nat} {v : Value} (h : lv[i]? = some (some v)) : ∃ k : Nat, (q_lp 0 lv)[k]? = some (i, v) := List.getElem?_of_mem ((q_lp_mem lv 0 (i, v)).mpr ⟨i, (Nat.zero_add i).symm, h⟩)
theorem q_iinc (hX : q_C X cc nL own ret F Lo) {i : Nat} {n : Int} {x : Int32} (v : Int32) (hv : Int32.ofInt n = v) (hl : lv[i]? = some (some (.int x))) (d : decode cc pc = .ok (.iinc i n, 3)) (pc' : Nat) (ep : pc + 3 = pc') (hn : i < nL) (ho : q_ok1 lv i = true) (k : ∀ y : Int32, y = x + v → ∀ lv' : List (Option Value), lv.set i (some (.int y)) = lv' → q_J X G nL QQ pc' lv' st mem) : q_J X G nL QQ pc lv st mem := by
  subst ep
  subst hv
  obtain ⟨j, hj⟩ := q_lp_at hl
  exact fun H locs ls hW hS hL => lv_iinc hX.1.1 hX.1.2.1 d hL.has hj rfl hn rfl (fun ls' hl' => k _ rfl _ rfl H locs ls' hW hS (q_L.st1 ho hl'))
theorem q_iadd (hX : q_C X cc nL own ret F Lo) {x y : Int32} (d : decode cc pc = .ok (.iadd, 1)) (pc' : Nat) (ep : pc + 1 = pc') (k : q_J X G nL QQ pc' lv (.int (x + y) :: st) mem) : q_J X G nL QQ pc lv (.int y :: .int x :: st) mem := by
  subst ep
  exact fun H locs ls hW hS hL => lv_iadd hX.1.1 hX.1.2.1 d (k H locs ls hW hS hL)
theorem q_isub (hX : q_C X cc nL own ret F Lo) {x y : Int32} (d : decode cc pc = .ok (.isub, 1)) (pc' : Nat) (ep : pc + 1 = pc') (k : q_J X G nL QQ pc' lv (.int (x - y) :: st) mem) : q_J X G nL QQ pc lv (.int y :: .int x :: st) mem := by
  subst ep
  exact fun H locs ls hW hS hL => lv_isub hX.1.1 hX.1.2.1 d (k H locs ls hW hS hL)
theorem q_imul (hX : q_C X cc nL own ret F Lo) {x y : Int32} (d : decode cc pc = .ok (.imul, 1)) (pc' : Nat) (ep : pc + 1 = pc') (k : q_J X G nL QQ pc' lv (.int (x * y) :: st) mem) : q_J X G nL QQ pc lv (.int y :: .int x :: st) mem := by
  subst ep
  exact fun H locs ls hW hS hL => lv_imul hX.1.1 hX.1.2.1 d (k H locs ls hW hS hL)
theorem q_iand (hX : q_C X cc nL own ret F Lo) {x y : Int32} (d : decode cc pc = .ok (.iand, 1)) (pc' : Nat) (ep : pc + 1 = pc') (k : q_J X G nL QQ pc' lv (.int (x &&& y) :: st) mem) : q_J X G nL QQ pc lv (.int y :: .int x :: st) mem := by
  subst ep
  exact fun H locs ls hW hS hL => lv_iand hX.1.1 hX.1.2.1 d (k H locs ls hW hS hL)
theorem q_ior (hX : q_C X cc nL own ret F Lo) {x y : Int32} (d : decode cc pc = .ok (.ior, 1)) (pc' : Nat) (ep : pc + 1 = pc') (k : q_J X G nL QQ pc' lv (.int (x ||| y) :: st) mem) : q_J X G nL QQ pc lv (.int y :: .int x :: st) mem := by
  subst ep
  exact fun H locs ls hW hS hL => lv_ior hX.1.1 hX.1.2.1 d (k H locs ls hW hS hL)
theorem q_ishl (hX : q_C X cc nL own ret F Lo) {x y : Int32} (d : decode cc pc = .ok (.ishl, 1)) (pc' : Nat) (ep : pc + 1 = pc') (k : q_J X G nL QQ pc' lv (.int (x <<< (y &&& 31)) :: st) mem) : q_J X G nL QQ pc lv (.int y :: .int x :: st) mem := by
  subst ep
  exact fun H locs ls hW hS hL => lv_ishl hX.1.1 hX.1.2.1 d (k H locs ls hW hS hL)
theorem q_idiv (hX : q_C X cc nL own ret F Lo) {x y : Int32} (hne : ¬ y = 0) (d : decode cc pc = .ok (.idiv, 1)) (pc' : Nat) (ep : pc + 1 = pc') (k : q_J X G nL QQ pc' lv (.int (x / y) :: st) mem) : q_J X G nL QQ pc lv (.int y :: .int x :: st) mem := by
  subst ep
  exact fun H locs ls hW hS hL => lv_idiv hX.1.1 hX.1.2.1 d hne (k H locs ls hW hS hL)
theorem q_irem (hX : q_C X cc nL own ret F Lo) {x y : Int32} (hne : ¬ y = 0) (d : decode cc pc = .ok (.irem, 1)) (pc' : Nat) (ep : pc + 1 = pc') (k : q_J X G nL QQ pc' lv (.int (x - x / y * y) :: st) mem) : q_J X G nL QQ pc lv (.int y :: .int x :: st) mem := by
  subst ep
  exact fun H locs ls hW hS hL => lv_irem hX.1.1 hX.1.2.1 d hne (k H locs ls hW hS hL)
theorem q_ineg (hX : q_C X cc nL own ret F Lo) {x : Int32} (d : decode cc pc = .ok (.ineg, 1)) (pc' : Nat) (ep : pc + 1 = pc') (k : q_J X G nL QQ pc' lv (.int (-x) :: st) mem) : q_J X G nL QQ pc lv (.int x :: st) mem := by
  subst ep
  exact fun H locs ls hW hS hL => lv_ineg hX.1.1 hX.1.2.1 d (k H locs ls hW hS hL)
theorem q_ladd (hX : q_C X cc nL own ret F Lo) {x y : Int64} (d : decode cc pc = .ok (.ladd, 1)) (pc' : Nat) (ep : pc + 1 = pc') (k : q_J X G nL QQ pc' lv (.long (x + y) :: st) mem) : q_J X G nL QQ pc lv (.long y :: .long x :: st) mem := by
  subst ep
  exact fun H locs ls hW hS hL => lv_ladd hX.1.1 hX.1.2.1 d (k H locs ls hW hS hL)
theorem q_lmul (hX : q_C X cc nL own ret F Lo) {x y : Int64} (d : decode cc pc = .ok (.lmul, 1)) (pc' : Nat) (ep : pc + 1 = pc') (k : q_J X G nL QQ pc' lv (.long (x * y) :: st) mem) : q_J X G nL QQ pc lv (.long y :: .long x :: st) mem := by
  subst ep
  exact fun H locs ls hW hS hL => lv_lmul hX.1.1 hX.1.2.1 d (k H locs ls hW hS hL)
theorem q_lcmp (hX : q_C X cc nL own ret F Lo) {x y : Int64} (d : decode cc pc = .ok (.lcmp, 1)) (pc' : Nat) (ep : pc + 1 = pc') (k : q_J X G nL QQ pc' lv (.int (lg_cmp x y) :: st) mem) : q_J X G nL QQ pc lv (.long y :: .long x :: st) mem := by
  subst ep
  exact fun H locs ls hW hS hL => W.lcmp hX.1.1 hX.1.2.1 d (k H locs ls hW hS hL)
theorem q_i2l (hX : q_C X cc nL own ret F Lo) {x : Int32} (d : decode cc pc = .ok (.i2l, 1)) (pc' : Nat) (ep : pc + 1 = pc') (k : q_J X G nL QQ pc' lv (.long x.toInt64 :: st) mem) : q_J X G nL QQ pc lv (.int x :: st) mem := by
  subst ep
  exact fun H locs ls hW hS hL => lv_i2l hX.1.1 hX.1.2.1 d rfl (k H locs ls hW hS hL)
theorem q_dup (hX : q_C X cc nL own ret F Lo) {v : Value} (hv : v.category = 1) (d : decode cc pc = .ok (.dup, 1)) (pc' : Nat) (ep : pc + 1 = pc') (k : q_J X G nL QQ pc' lv (v :: v :: st) mem) : q_J X G nL QQ pc lv (v :: st) mem := by
  subst ep
  exact fun H locs ls hW hS hL => lv_dup hX.1.1 hX.1.2.1 d hv (k H locs ls hW hS hL)
theorem q_pop (hX : q_C X cc nL own ret F Lo) {v : Value} (hv : v.category = 1) (d : decode cc pc = .ok (.pop, 1)) (pc' : Nat) (ep : pc + 1 = pc') (k : q_J X G nL QQ pc' lv (st) mem) : q_J X G nL QQ pc lv (v :: st) mem := by
  subst ep
  exact fun H locs ls hW hS hL => lv_pop hX.1.1 hX.1.2.1 d hv (k H locs ls hW hS hL)
theorem q_dup2 (hX : q_C X cc nL own ret F Lo) {v w : Value} (hv : v.category = 1) (hw : w.category = 1) (d : decode cc pc = .ok (.dup2, 1)) (pc' : Nat) (ep : pc + 1 = pc') (k : q_J X G nL QQ pc' lv (v :: w :: v :: w :: st) mem) : q_J X G nL QQ pc lv (v :: w :: st) mem := by
  subst ep
  exact fun H locs ls hW hS hL => lv_dup2_11 hX.1.1 hX.1.2.1 d hv hw (k H locs ls hW hS hL)
theorem q_if_eq (hX : q_C X cc nL own ret F Lo) {x : Int32} {off : Int} (d : decode cc pc = .ok (.ifCond .eq off, 3)) (pc' tgt : Nat) (ep : pc + 3 = pc') (et : (pc : Int) + off = (tgt : Int)) (kt : x = 0 → q_J X G nL QQ tgt lv st mem) (kf : ¬ x = 0 → q_J X G nL QQ pc' lv st mem) : q_J X G nL QQ pc lv (.int x :: st) mem := by
  subst ep
  exact fun H locs ls hW hS hL => lv_if_eq hX.1.1 hX.1.2.1 d et (fun h => kt h H locs ls hW hS hL) (fun h => kf h H locs ls hW hS hL)
theorem q_icmp_eq (hX : q_C X cc nL own ret F Lo) {x y : Int32} {off : Int} (d : decode cc pc = .ok (.if_icmp .eq off, 3)) (pc' tgt : Nat) (ep : pc + 3 = pc') (et : (pc : Int) + off = (tgt : Int)) (kt : x = y → q_J X G nL QQ tgt lv st mem) (kf : ¬ x = y → q_J X G nL QQ pc' lv st mem) : q_J X G nL QQ pc lv (.int y :: .int x :: st) mem := by
  subst ep
  exact fun H locs ls hW hS hL => lv_icmp_eq hX.1.1 hX.1.2.1 d et (fun h => kt h H locs ls hW hS hL) (fun h => kf h H locs ls hW hS hL)
theorem q_if_ne (hX : q_C X cc nL own ret F Lo) {x : Int32} {off : Int} (d : decode cc pc = .ok (.ifCond .ne off, 3)) (pc' tgt : Nat) (ep : pc + 3 = pc') (et : (pc : Int) + off = (tgt : Int)) (kt : ¬ x = 0 → q_J X G nL QQ tgt lv st mem) (kf : x = 0 → q_J X G nL QQ pc' lv st mem) : q_J X G nL QQ pc lv (.int x :: st) mem := by
  subst ep
  exact fun H locs ls hW hS hL => lv_if_ne hX.1.1 hX.1.2.1 d et (fun h => kt h H locs ls hW hS hL) (fun h => kf h H locs ls hW hS hL)
theorem q_icmp_ne (hX : q_C X cc nL own ret F Lo) {x y : Int32} {off : Int} (d : decode cc pc = .ok (.if_icmp .ne off, 3)) (pc' tgt : Nat) (ep : pc + 3 = pc') (et : (pc : Int) + off = (tgt : Int)) (kt : ¬ x = y → q_J X G nL QQ tgt lv st mem) (kf : x = y → q_J X G nL QQ pc' lv st mem) : q_J X G nL QQ pc lv (.int y :: .int x :: st) mem := by
  subst ep
  exact fun H locs ls hW hS hL => lv_icmp_ne hX.1.1 hX.1.2.1 d et (fun h => kt h H locs ls hW hS hL) (fun h => kf h H locs ls hW hS hL)
theorem q_if_lt (hX : q_C X cc nL own ret F Lo) {x : Int32} {off : Int} (d : decode cc pc = .ok (.ifCond .lt off, 3)) (pc' tgt : Nat) (ep : pc + 3 = pc') (et : (pc : Int) + off = (tgt : Int)) (kt : x < 0 → q_J X G nL QQ tgt lv st mem) (kf : ¬ x < 0 → q_J X G nL QQ pc' lv st mem) : q_J X G nL QQ pc lv (.int x :: st) mem := by
  subst ep
  exact fun H locs ls hW hS hL => lv_if_lt hX.1.1 hX.1.2.1 d et (fun h => kt h H locs ls hW hS hL) (fun h => kf h H locs ls hW hS hL)
theorem q_icmp_lt (hX : q_C X cc nL own ret F Lo) {x y : Int32} {off : Int} (d : decode cc pc = .ok (.if_icmp .lt off, 3)) (pc' tgt : Nat) (ep : pc + 3 = pc') (et : (pc : Int) + off = (tgt : Int)) (kt : x < y → q_J X G nL QQ tgt lv st mem) (kf : ¬ x < y → q_J X G nL QQ pc' lv st mem) : q_J X G nL QQ pc lv (.int y :: .int x :: st) mem := by
  subst ep
  exact fun H locs ls hW hS hL => lv_icmp_lt hX.1.1 hX.1.2.1 d et (fun h => kt h H locs ls hW hS hL) (fun h => kf h H locs ls hW hS hL)
theorem q_if_ge (hX : q_C X cc nL own ret F Lo) {x : Int32} {off : Int} (d : decode cc pc = .ok (.ifCond .ge off, 3)) (pc' tgt : Nat) (ep : pc + 3 = pc') (et : (pc : Int) + off = (tgt : Int)) (kt : 0 ≤ x → q_J X G nL QQ tgt lv st mem) (kf : ¬ 0 ≤ x → q_J X G nL QQ pc' lv st mem) : q_J X G nL QQ pc lv (.int x :: st) mem := by
  subst ep
  exact fun H locs ls hW hS hL => lv_if_ge hX.1.1 hX.1.2.1 d et (fun h => kt h H locs ls hW hS hL) (fun h => kf h H locs ls hW hS hL)
theorem q_icmp_ge (hX : q_C X cc nL own ret F Lo) {x y : Int32} {off : Int} (d : decode cc pc = .ok (.if_icmp .ge off, 3)) (pc' tgt : Nat) (ep : pc + 3 = pc') (et : (pc : Int) + off = (tgt : Int)) (kt : y ≤ x → q_J X G nL QQ tgt lv st mem) (kf : ¬ y ≤ x → q_J X G nL QQ pc' lv st mem) : q_J X G nL QQ pc lv (.int y :: .int x :: st) mem := by
  subst ep
  exact fun H locs ls hW hS hL => lv_icmp_ge hX.1.1 hX.1.2.1 d et (fun h => kt h H locs ls hW hS hL) (fun h => kf h H locs ls hW hS hL)
theorem q_if_gt (hX : q_C X cc nL own ret F Lo) {x : Int32} {off : Int} (d : decode cc pc = .ok (.ifCond .gt off, 3)) (pc' tgt : Nat) (ep : pc + 3 = pc') (et : (pc : Int) + off = (tgt : Int)) (kt : 0 < x → q_J X G nL QQ tgt lv st mem) (kf : ¬ 0 < x → q_J X G nL QQ pc' lv st mem) : q_J X G nL QQ pc lv (.int x :: st) mem := by
  subst ep
  exact fun H locs ls hW hS hL => lv_if_gt hX.1.1 hX.1.2.1 d et (fun h => kt h H locs ls hW hS hL) (fun h => kf h H locs ls hW hS hL)
theorem q_icmp_gt (hX : q_C X cc nL own ret F Lo) {x y : Int32} {off : Int} (d : decode cc pc = .ok (.if_icmp .gt off, 3)) (pc' tgt : Nat) (ep : pc + 3 = pc') (et : (pc : Int) + off = (tgt : Int)) (kt : y < x → q_J X G nL QQ tgt lv st mem) (kf : ¬ y < x → q_J X G nL QQ pc' lv st mem) : q_J X G nL QQ pc lv (.int y :: .int x :: st) mem := by
  subst ep
  exact fun H locs ls hW hS hL => lv_icmp_gt hX.1.1 hX.1.2.1 d et (fun h => kt h H locs ls hW hS hL) (fun h => kf h H locs ls hW hS hL)
theorem q_if_le (hX : q_C X cc nL own ret F Lo) {x : Int32} {off : Int} (d : decode cc pc = .ok (.ifCond .le off, 3)) (pc' tgt : Nat) (ep : pc + 3 = pc') (et : (pc : Int) + off = (tgt : Int)) (kt : x ≤ 0 → q_J X G nL QQ tgt lv st mem) (kf : ¬ x ≤ 0 → q_J X G nL QQ pc' lv st mem) : q_J X G nL QQ pc lv (.int x :: st) mem := by
  subst ep
  exact fun H locs ls hW hS hL => lv_if_le hX.1.1 hX.1.2.1 d et (fun h => kt h H locs ls hW hS hL) (fun h => kf h H locs ls hW hS hL)
theorem q_icmp_le (hX : q_C X cc nL own ret F Lo) {x y : Int32} {off : Int} (d : decode cc pc = .ok (.if_icmp .le off, 3)) (pc' tgt : Nat) (ep : pc + 3 = pc') (et : (pc : Int) + off = (tgt : Int)) (kt : x ≤ y → q_J X G nL QQ tgt lv st mem) (kf : ¬ x ≤ y → q_J X G nL QQ pc' lv st mem) : q_J X G nL QQ pc lv (.int y :: .int x :: st) mem := by
  subst ep
  exact fun H locs ls hW hS hL => lv_icmp_le hX.1.1 hX.1.2.1 d et (fun h => kt h H locs ls hW hS hL) (fun h => kf h H locs ls hW hS hL)
theorem q_goto (hX : q_C X cc nL own ret F Lo) {off : Int} (d : decode cc pc = .ok (.goto off, 3)) (tgt : Nat) (et : (pc : Int) + off = (tgt : Int)) (k : q_J X G nL QQ tgt lv st mem) : q_J X G nL QQ pc lv st mem := fun H locs ls hW hS hL => lv_goto hX.1.1 hX.1.2.1 d et (k H locs ls hW hS hL)
theorem q_tout (hX : q_C X cc nL own ret F Lo) {dflt lo hi : Int} {offs : Array Int} {len : Nat} {x : Int32} (d : decode cc pc = .ok (.tableswitch dflt lo hi offs, len)) (tgt : Nat) (et : (pc : Int) + dflt = (tgt : Int)) (h : x.toInt < lo ∨ hi < x.toInt) (k : q_J X G nL QQ tgt lv st mem) : q_J X G nL QQ pc lv (.int x :: st) mem := fun H locs ls hW hS hL => lv_tableOut hX.1.1 hX.1.2.1 d h et (k H locs ls hW hS hL)
theorem q_tin (hX : q_C X cc nL own ret F Lo) {dflt lo hi : Int} {offs : Array Int} {len : Nat} {x : Int32} {off : Int} (d : decode cc pc = .ok (.tableswitch dflt lo hi offs, len)) (tgt : Nat) (h1 : ¬ x.toInt < lo) (h2 : ¬ hi < x.toInt) (ho : offs[(x.toInt - lo).toNat]? = some off) (et : (pc : Int) + off = (tgt : Int)) (k : q_J X G nL QQ tgt lv st mem) : q_J X G nL QQ pc lv (.int x :: st) mem := fun H locs ls hW hS hL => lv_tableIn hX.1.1 hX.1.2.1 d h1 h2 ho et (k H locs ls hW hS hL)

/-! fields and arrays -/
theorem q_getI (hX : q_C X cc nL own ret F Lo) {k ci index N : Nat} {C : String} {T : u_T} {fs : List (Option Nat)} (hsh : q_sh[k]? = some (.inr (.inr (ci, fs)))) (hc : vwCl[ci]? = some (C, T, N)) (hin : ∀ w ∈ u_ws C T N, w ∈ q_T) (j : Nat) (hj : j < N) (hf : fs[j]? = some none) (hlink : (Cond.fieldLink own index (T j).1 (T j).2.1 (T j).2.2.1) ∈ q_T) (d : decode cc pc = .ok (.getfield index, 3)) (pc' : Nat) (ep : pc + 3 = pc') (kk : q_J X G nL QQ pc' lv (.int (mem k j) :: st) mem) : q_J X G nL QQ pc lv (.ref (q_ad G k) :: st) mem := by
  subst ep
  exact fun H locs ls hW hS hL => va_get hX.1.1 hX.1.2.1 hX.1.2.2.2.2 hin hX.1.2.2.2.1 hW.2.1 hW.1 k (q_w_get G mem hsh) hc j hj (hX.1.2.2.2.2 _ hlink) (fun _ h => h) (q_fv_get _ _ hf) d (kk H locs ls hW hS hL)
theorem q_getR (hX : q_C X cc nL own ret F Lo) {k ci index N r : Nat} {C : String} {T : u_T} {fs : List (Option Nat)} (hsh : q_sh[k]? = some (.inr (.inr (ci, fs)))) (hc : vwCl[ci]? = some (C, T, N)) (hin : ∀ w ∈ u_ws C T N, w ∈ q_T) (j : Nat) (hj : j < N) (hf : fs[j]? = some (some r)) (hlink : (Cond.fieldLink own index (T j).1 (T j).2.1 (T j).2.2.1) ∈ q_T) (d : decode cc pc = .ok (.getfield index, 3)) (pc' : Nat) (ep : pc + 3 = pc') (kk : q_J X G nL QQ pc' lv (.ref (q_ad G r) :: st) mem) : q_J X G nL QQ pc lv (.ref (q_ad G k) :: st) mem := by
  subst ep
  exact fun H locs ls hW hS hL => va_get hX.1.1 hX.1.2.1 hX.1.2.2.2.2 hin hX.1.2.2.2.1 hW.2.1 hW.1 k (q_w_get G mem hsh) hc j hj (hX.1.2.2.2.2 _ hlink) (fun _ h => h) (q_fv_get _ _ hf) d (kk H locs ls hW hS hL)
theorem q_getIN (hX : q_C X cc nL own ret F Lo) {k ci index N : Nat} {C host : String} {T : u_T} {fs : List (Option Nat)} (hsh : q_sh[k]? = some (.inr (.inr (ci, fs)))) (hc : vwCl[ci]? = some (C, T, N)) (hin : ∀ w ∈ u_ws C T N, w ∈ q_T) (j : Nat) (hj : j < N) (hf : fs[j]? = some none) (hlink : (own, index, (T j).1, (T j).2.1, (T j).2.2.1, host) ∈ q_nf) (d : decode cc pc = .ok (.getfield index, 3)) (pc' : Nat) (ep : pc + 3 = pc') (kk : q_J X G nL QQ pc' lv (.int (mem k j) :: st) mem) : q_J X G nL QQ pc lv (.ref (q_ad G k) :: st) mem := by
  subst ep
  exact fun H locs ls hW hS hL => va_getN hX.1.1 hX.1.2.1 hX.1.2.2.2.2 hin hX.1.2.2.2.1 hW.2.1 hW.1 k (q_w_get G mem hsh) hc j hj (va_Nw.use rfl (hW.2.2.2.1 _ hlink)) (fun _ h => h) (q_fv_get _ _ hf) d (kk H locs ls hW hS hL)
theorem q_getRN (hX : q_C X cc nL own ret F Lo) {k ci index N r : Nat} {C host : String} {T : u_T} {fs : List (Option Nat)} (hsh : q_sh[k]? = some (.inr (.inr (ci, fs)))) (hc : vwCl[ci]? = some (C, T, N)) (hin : ∀ w ∈ u_ws C T N, w ∈ q_T) (j : Nat) (hj : j < N) (hf : fs[j]? = some (some r)) (hlink : (own, index, (T j).1, (T j).2.1, (T j).2.2.1, host) ∈ q_nf) (d : decode cc pc = .ok (.getfield index, 3)) (pc' : Nat) (ep : pc + 3 = pc') (kk : q_J X G nL QQ pc' lv (.ref (q_ad G r) :: st) mem) : q_J X G nL QQ pc lv (.ref (q_ad G k) :: st) mem := by
  subst ep
  exact fun H locs ls hW hS hL => va_getN hX.1.1 hX.1.2.1 hX.1.2.2.2.2 hin hX.1.2.2.2.1 hW.2.1 hW.1 k (q_w_get G mem hsh) hc j hj (va_Nw.use rfl (hW.2.2.2.1 _ hlink)) (fun _ h => h) (q_fv_get _ _ hf) d (kk H locs ls hW hS hL)
theorem q_put (hX : q_C X cc nL own ret F Lo) {k ci index N : Nat} {x : Int32} {C : String} {T : u_T} {fs : List (Option Nat)} (hsh : q_sh[k]? = some (.inr (.inr (ci, fs)))) (hc : vwCl[ci]? = some (C, T, N)) (hin : ∀ w ∈ u_ws C T N, w ∈ q_T) (ty0 : Nat → FieldType) (hty : ∀ k, k < N → parseFieldDescriptor (T k).2.2.1 = some (ty0 k)) (hnm : ∀ a, a < N → ∀ b, b < N → a ≠ b → (T a).2.1 ≠ (T b).2.1) (j : Nat) (hj : j < N) (hf : fs[j]? = some none) (hfin : (T j).2.2.2 = false) (hd : parseFieldDescriptor (T j).2.2.1 = some .int) (hlink : (Cond.fieldLink own index (T j).1 (T j).2.1 (T j).2.2.1) ∈ q_T) (d : decode cc pc = .ok (.putfield index, 3)) (pc' : Nat) (ep : pc + 3 = pc') (kk : ∀ m1 : q_Mem, m1 = q_set mem k (upd (mem k) j x) → q_J X G nL QQ pc' lv st m1) : q_J X G nL QQ pc lv (.int x :: .ref (q_ad G k) :: st) mem := by
  subst ep
  intro H locs ls hW hS hL
  refine va_put hX.1.1 hX.1.2.1 hX.1.2.2.2.2 hin ty0 hty hnm hX.1.2.2.2.1 hW.2.1 hW.1 hW.2.2.1 hS k (q_w_get G mem hsh) hc j hj (hX.1.2.2.2.2 _ hlink) (fun _ h => h) hfin hd rfl rfl (by rw [List.length_mapIdx]; exact (List.getElem?_eq_some_iff.mp hf).1) d (fun H1 locs1 hP hD hS1 => ?_)
  have e : (q_w G mem).set k (G.2.1 k, .inr (ci, (fs.mapIdx (q_fv G.2.1 (mem k))).set j (.int x))) = q_w G (q_set mem k (upd (mem k) j x)) := by
    rw [q_fv_set G.2.1 (mem k) hf x]
    exact q_w_set G mem hsh (upd (mem k) j x)
  rw [e] at hP hD
  exact kk _ rfl H1 locs1 ls ⟨hP, hW.2.1, hD, hW.2.2.2⟩ hS1 hL
theorem q_al_sh {a n : Nat} (h : q_al a = n) (h0 : 0 < n) : q_sh[a]? = some (.inl n) := by
  unfold q_al at h
  split at h
  · rename_i m hm
    rw [hm, h]
  · omega
theorem q_al_in {a : Nat} {i : Int32} (h : vp_in i (q_al a)) : q_sh[a]? = some (.inl (q_al a)) := q_al_sh rfl (by
  have := vp_in_iff.mp h
  omega)
theorem q_iald (hX : q_C X cc nL own ret F Lo) {a : Nat} {i : Int32} (hin : vp_in i (q_al a)) (d : decode cc pc = .ok (.iaload, 1)) (pc' : Nat) (ep : pc + 1 = pc') (kk : q_J X G nL QQ pc' lv (.int (mem a i.toNatClampNeg) :: st) mem) : q_J X G nL QQ pc lv (.int i :: .ref (q_ad G a) :: st) mem := by
  subst ep
  exact fun H locs ls hW hS hL => va_iald hX.1.1 hX.1.2.1 hW.2.1 hW.1 a 0 (q_w_get G mem (q_al_in hin)) rfl hin d (kk H locs ls hW hS hL)
theorem q_iast (hX : q_C X cc nL own ret F Lo) {a : Nat} {i x : Int32} (hin : vp_in i (q_al a)) (d : decode cc pc = .ok (.iastore, 1)) (pc' : Nat) (ep : pc + 1 = pc') (kk : ∀ m1 : q_Mem, m1 = q_set mem a (upd (mem a) i.toNatClampNeg x) → q_J X G nL QQ pc' lv st m1) : q_J X G nL QQ pc lv (.int x :: .int i :: .ref (q_ad G a) :: st) mem := by
  subst ep
  intro H locs ls hW hS hL
  refine va_iast hX.1.1 hX.1.2.1 hW.2.1 hW.1 hW.2.2.1 hS a 0 (q_w_get G mem (q_al_in hin)) rfl hin d (fun H1 locs1 hP hD hS1 => ?_)
  have e : (q_w G mem).set a (G.2.1 a, .inl (G.2.2.1, q_al a, .inl (upd (mem a) i.toNatClampNeg x))) = q_w G (q_set mem a (upd (mem a) i.toNatClampNeg x)) := q_w_set G mem (q_al_in hin) (upd (mem a) i.toNatClampNeg x)
  rw [e] at hP hD
  exact kk _ rfl H1 locs1 ls ⟨hP, hW.2.1, hD, hW.2.2.2⟩ hS1 hL
theorem q_aald (hX : q_C X cc nL own ret F Lo) {a n r : Nat} {i : Int32} (hsh : q_sh[a]? = some (.inr (.inl (n, r)))) (hin : vp_in i n) (d : decode cc pc = .ok (.aaload, 1)) (pc' : Nat) (ep : pc + 1 = pc') (kk : q_J X G nL QQ pc' lv (.ref (q_ad G (r + i.toNatClampNeg)) :: st) mem) : q_J X G nL QQ pc lv (.int i :: .ref (q_ad G a) :: st) mem := by
  subst ep
  intro H locs ls hW hS hL
  have hlt : i.toNatClampNeg < n := Nat.not_le.mp fun q => hin (Or.inr q)
  have ha := q_w_get G mem hsh
  have hv : va_rf ((fun i => if i < n then some (G.2.1 (r + i)) else none) i.toNatClampNeg) = .ref (q_ad G (r + i.toNatClampNeg)) := by
    simp only [hlt, if_pos]
    rfl
  refine W.aald (v := va_rf ((fun i => if i < n then some (G.2.1 (r + i)) else none) i.toNatClampNeg)) (ty := .array .int) hX.1.1 hX.1.2.1 (hW.1 a _ ha) ((hW.2.1.2 1 _ rfl).1 n (fun j => va_rf ((fun i => if i < n then some (G.2.1 (r + i)) else none) j))) rfl (fun q => by cases q) (by show ¬ (i < 0 ∨ (arrV _ _ _).slots.size ≤ _); rw [arrV_size]; exact hin) (by show (arrV _ _ _).slots[_]? = _; rw [arrV_read _ _ hlt]) rfl rfl d ?_
  rw [hv]
  exact kk H locs ls hW hS hL
theorem q_alen (hX : q_C X cc nL own ret F Lo) {a : Nat} (h0 : 0 < q_al a) (d : decode cc pc = .ok (.arraylength, 1)) (pc' : Nat) (ep : pc + 1 = pc') (kk : q_J X G nL QQ pc' lv (.int (Int32.ofNat (q_al a)) :: st) mem) : q_J X G nL QQ pc lv (.ref (q_ad G a) :: st) mem := by
  subst ep
  exact fun H locs ls hW hS hL => va_alen hX.1.1 hX.1.2.1 hW.2.1 hW.1 a 0 (q_w_get G mem (q_al_sh rfl h0)) (ty := .int) rfl rfl d (kk H locs ls hW hS hL)
/-- what System.arraycopy asks -/
def q_cp (sp dp n : Int32) (a b : Nat) : Prop := (0 < q_al a ∧ 0 < q_al b) ∧ ¬ sp < 0 ∧ ¬ dp < 0 ∧ ¬ n < 0 ∧ sp.toNatClampNeg + n.toNatClampNeg ≤ q_al a ∧ dp.toNatClampNeg + n.toNatClampNeg ≤ q_al b
theorem q_copy (hX : q_C X cc nL own ret F Lo) {a b index : Nat} {sp dp n : Int32} (hc : q_cp sp dp n a b) (hF : 1 ≤ F) (hLo : (st.map fun v => v.category).sum + 18 ≤ Lo) (h1 : Cond.methodLink own index arraycopyName ∈ q_T) (h2 : Cond.native arraycopyName ∈ q_T) (h3 : Cond.static arraycopyName ∈ q_T) (h4 : Cond.initialized "java/lang/System" ∈ q_T) (d : decode cc pc = .ok (.invokestatic index, 3)) (pc' : Nat) (ep : pc + 3 = pc') (kk : ∀ m1 : q_Mem, m1 = q_set mem b (va_cpy (mem a) (mem b) sp.toNatClampNeg dp.toNatClampNeg n.toNatClampNeg) → q_J X G nL QQ pc' lv st m1) : q_J X G nL QQ pc lv (.int n :: .int dp :: .ref (q_ad G b) :: .int sp :: .ref (q_ad G a) :: st) mem := by
  subst ep
  intro H locs ls hW hS hL
  obtain ⟨⟨ha, hb⟩, g1, g2, g3, g4, g5⟩ := hc
  refine va_copyi hX.1.1 hX.1.2.1 (hX.1.2.2.1.trans hL.1.symm) hX.1.2.2.2.1 (hX.1.2.2.2.2 _ h1) (hX.1.2.2.2.2 _ h2) (hX.1.2.2.2.2 _ h3) (hX.1.2.2.2.2 _ h4) hW.2.1 hW.1 hW.2.2.1 hS a b 0 0 (q_w_get G mem (q_al_sh rfl ha)) (q_w_get G mem (q_al_sh rfl hb)) rfl rfl rfl g1 g2 g3 g4 g5 (fun _ _ => rfl) (Nat.le_trans hF hX.2.2.2.1) (Nat.le_trans hLo hX.2.2.2.2.1) d (fun H1 locs1 hP hD hS1 => ?_)
  have e : (q_w G mem).set b (G.2.1 b, .inl (G.2.2.1, q_al b, .inl (va_cpy (mem a) (mem b) sp.toNatClampNeg dp.toNatClampNeg n.toNatClampNeg))) = q_w G (q_set mem b (va_cpy (mem a) (mem b) sp.toNatClampNeg dp.toNatClampNeg n.toNatClampNeg)) := q_w_set G mem (q_al_sh rfl hb) _
  rw [e] at hP hD
  exact kk _ rfl H1 locs1 ls ⟨hP, hW.2.1, hD, hW.2.2.2⟩ hS1 hL
theorem q_max (hX : q_C X cc nL own ret F Lo) {index : Nat} {x y : Int32} (hF : 1 ≤ F) (hLo : (st.map fun v => v.category).sum + 13 ≤ Lo) (h1 : Cond.methodLink own index Lib.Math.max.name ∈ q_T) (h2 : Cond.static Lib.Math.max.name ∈ q_T) (h3 : Cond.initialized "java/lang/Math" ∈ q_T) (h4 : Cond.code Lib.Math.max.name Lib.Math.max.code 2 (some .int) ∈ q_T) (d : decode cc pc = .ok (.invokestatic index, 3)) (pc' : Nat) (ep : pc + 3 = pc') (kk : q_J X G nL QQ pc' lv (.int (if x < y then y else x) :: st) mem) : q_J X G nL QQ pc lv (.int y :: .int x :: st) mem := by
  subst ep
  exact fun H locs ls hW hS hL => va_mmax hX.1.1 hX.1.2.1 (hX.1.2.2.1.trans hL.1.symm) hX.1.2.2.2.1 (hX.1.2.2.2.2 _ h1) (hX.1.2.2.2.2 _ h2) (hX.1.2.2.2.2 _ h3) (hX.1.2.2.2.2 _ h4) (Nat.le_trans hF hX.2.2.2.1) (Nat.le_trans hLo hX.2.2.2.2.1) hX.2.2.2.2.2.1 hX.2.2.2.2.2.2 d (kk H locs ls hW hS hL)
theorem q_min (hX : q_C X cc nL own ret F Lo) {index : Nat} {x y : Int32} (hF : 1 ≤ F) (hLo : (st.map fun v => v.category).sum + 13 ≤ Lo) (h1 : Cond.methodLink own index Lib.Math.min.name ∈ q_T) (h2 : Cond.static Lib.Math.min.name ∈ q_T) (h3 : Cond.initialized "java/lang/Math" ∈ q_T) (h4 : Cond.code Lib.Math.min.name Lib.Math.min.code 2 (some .int) ∈ q_T) (d : decode cc pc = .ok (.invokestatic index, 3)) (pc' : Nat) (ep : pc + 3 = pc') (kk : q_J X G nL QQ pc' lv (.int (if y < x then y else x) :: st) mem) : q_J X G nL QQ pc lv (.int y :: .int x :: st) mem := by
  subst ep
  exact fun H locs ls hW hS hL => va_mmin hX.1.1 hX.1.2.1 (hX.1.2.2.1.trans hL.1.symm) hX.1.2.2.2.1 (hX.1.2.2.2.2 _ h1) (hX.1.2.2.2.2 _ h2) (hX.1.2.2.2.2 _ h3) (hX.1.2.2.2.2 _ h4) (Nat.le_trans hF hX.2.2.2.1) (Nat.le_trans hLo hX.2.2.2.2.1) hX.2.2.2.2.2.1 hX.2.2.2.2.2.2 d (kk H locs ls hW hS hL)
end QJ
end
section

/-! ===== contracts over the memory ===== -/
def q_Bd (G : q_G) (u : q_Mem) (t : State) : Prop := q_Wd G u t t.heap
def q_MI (l : Launch) (G : q_G) (y : MethodName) (cc : ByteArray) (maxL : Nat) (ret : Option FieldType) (rm : Room) (av : List Value) (mem : q_Mem) (Q : Int32 → q_Mem → Prop) : Prop :=
  Met l y (Cond.code y cc maxL ret :: q_T) rm (va_Pc av (q_Bd G mem)) (va_Qi Q (q_Bd G) (q_A G)) 0 0 (q_A G)
def q_ML (l : Launch) (G : q_G) (y : MethodName) (cc : ByteArray) (maxL : Nat) (ret : Option FieldType) (rm : Room) (av : List Value) (mem : q_Mem) (Q : Int64 → q_Mem → Prop) : Prop :=
  Met l y (Cond.code y cc maxL ret :: q_T) rm (va_Pc av (q_Bd G mem)) (va_Ql Q (q_Bd G) (q_A G)) 0 0 (q_A G)
def q_MV (l : Launch) (G : q_G) (y : MethodName) (cc : ByteArray) (maxL : Nat) (ret : Option FieldType) (rm : Room) (av : List Value) (mem : q_Mem) (Q : q_Mem → Prop) : Prop :=
  Met l y (Cond.code y cc maxL ret :: q_T) rm (va_Pc av (q_Bd G mem)) (va_Qv Q (q_Bd G) (q_A G)) 0 0 (q_A G)
def q_QI (X : q_X) (G : q_G) (Q : Int32 → q_Mem → Prop) : State → Prop := MQ X.2.2.2.2.2.2.2.1 (va_Qi Q (q_Bd G) (q_A G)) (q_args X) (q_s X) X.2.2.2.2.2.2.2.2.2.2.1 X.2.2.2.2.2.2.2.2.2.2.2 (q_A G)
def q_QL (X : q_X) (G : q_G) (Q : Int64 → q_Mem → Prop) : State → Prop := MQ X.2.2.2.2.2.2.2.1 (va_Ql Q (q_Bd G) (q_A G)) (q_args X) (q_s X) X.2.2.2.2.2.2.2.2.2.2.1 X.2.2.2.2.2.2.2.2.2.2.2 (q_A G)
def q_QV (X : q_X) (G : q_G) (Q : q_Mem → Prop) : State → Prop := MQ X.2.2.2.2.2.2.2.1 (va_Qv Q (q_Bd G) (q_A G)) (q_args X) (q_s X) X.2.2.2.2.2.2.2.2.2.2.1 X.2.2.2.2.2.2.2.2.2.2.2 (q_A G)

theorem q_good {w : Cond} (h : w ∈ q_T) : GoodIn q_T (w :: q_T) := fun v hv => by
  have hm : v ∈ q_T := by
    rcases List.mem_cons.mp hv with rfl | h1
    · exact h
    · exact h1
  exact ⟨hm, good_of_word (List.all_eq_true.mp q_Tall v hm)⟩
theorem q_blind (G : q_G) (av : List Value) (mem : q_Mem) : FrameBlind (va_Pc av (q_Bd G mem)) := fun a U g mk q => ⟨q.1, q.2.1, va_K.moved (u := U) (U := U.calling g mk a) (Vm.Alike.refl U.vm) q.2.2.1, q.2.2.2.1, q.2.2.2.2.same rfl⟩
section QC
variable {X : q_X} {G : q_G} {nL : Nat} {QQ : State → Prop} {pc : Nat} {lv : List (Option Value)} {st : List Value} {mem : q_Mem} {cc : ByteArray} {own : String} {ret : Option FieldType} {F Lo : Nat}
theorem q_iret (hX : q_C X cc nL own (some .int) F Lo) {Q : Int32 → q_Mem → Prop} {v : Int32} (d : decode cc pc = .ok (.ireturn, 1)) (h : Q v mem) : q_J X G nL (q_QI X G Q) pc lv [.int v] mem := fun H locs ls hW hS hL =>
  W.iret hX.1.1 hX.1.2.1 hX.2.1 (fun t ht hw => ⟨⟨v, mem, rfl, h, by unfold q_Bd; rw [ht]; exact hW.warm hw⟩, hS.F ht⟩) hS.2.2 d (hlocks := hX.2.2.1)
theorem q_zret (hX : q_C X cc nL own (some .boolean) F Lo) {Q : Int32 → q_Mem → Prop} {v : Int32} (d : decode cc pc = .ok (.ireturn, 1)) (hv : v &&& 1 = v) (h : Q v mem) : q_J X G nL (q_QI X G Q) pc lv [.int v] mem := fun H locs ls hW hS hL =>
  W.zret hX.1.1 hX.1.2.1 hX.2.1 (by show Value.int (v &&& 1) = .int v; rw [hv]) (fun t ht hw => ⟨⟨v, mem, rfl, h, by unfold q_Bd; rw [ht]; exact hW.warm hw⟩, hS.F ht⟩) hS.2.2 d (hlocks := hX.2.2.1)
theorem q_lret (hX : q_C X cc nL own (some .long) F Lo) {Q : Int64 → q_Mem → Prop} {v : Int64} (d : decode cc pc = .ok (.lreturn, 1)) (h : Q v mem) : q_J X G nL (q_QL X G Q) pc lv [.long v] mem := fun H locs ls hW hS hL =>
  W.lret hX.1.1 hX.1.2.1 hX.2.1 (fun t ht hw => ⟨⟨v, mem, rfl, h, by unfold q_Bd; rw [ht]; exact hW.warm hw⟩, hS.F ht⟩) hS.2.2 d (hlocks := hX.2.2.1)
theorem q_vret (hX : q_C X cc nL own none F Lo) {Q : q_Mem → Prop} (d : decode cc pc = .ok (.return_, 1)) (h : Q mem) : q_J X G nL (q_QV X G Q) pc lv [] mem := fun H locs ls hW hS hL =>
  W.vret hX.1.1 hX.1.2.1 hX.2.1 (fun t ht hw => ⟨⟨mem, rfl, h, by unfold q_Bd; rw [ht]; exact hW.warm hw⟩, hS.F ht⟩) hS.2.2 d (hlocks := hX.2.2.1)
/-! the entry -/
def q_lvs : List Value → List (Option Value)
  | [] => []
  | v :: vs => if v.category = 2 then some v :: none :: q_lvs vs else some v :: q_lvs vs
theorem q_lvs_mem : ∀ (vs : List Value) (k : Nat) (q : Nat × Value), q ∈ q_lp k (q_lvs vs) → q ∈ lv_args k vs
  | [], k, q, h => by simp [q_lvs, q_lp] at h
  | v :: vs, k, q, h => by
    rw [lv_args]
    by_cases hc : v.category = 2
    · rw [q_lvs, if_pos hc, q_lp, q_lp] at h
      rw [if_pos hc]
      rcases List.mem_cons.mp h with h | h
      · rw [h]; exact List.mem_cons_self
      · exact List.mem_cons_of_mem _ (q_lvs_mem vs (k + 1 + 1) q h)
    · rw [q_lvs, if_neg hc, q_lp] at h
      rw [if_neg hc]
      rcases List.mem_cons.mp h with h | h
      · rw [h]; exact List.mem_cons_self
      · exact List.mem_cons_of_mem _ (q_lvs_mem vs (k + 1) q h)
theorem q_lp_rep : ∀ (l : List (Option Value)) (n k : Nat) (q : Nat × Value), q ∈ q_lp k (l ++ List.replicate n none) → q ∈ q_lp k l
  | [], 0, k, q, h => h
  | [], n + 1, k, q, h => by
    rw [List.nil_append, List.replicate_succ, q_lp] at h
    have := q_lp_rep [] n (k + 1) q (by rw [List.nil_append]; exact h)
    simp [q_lp] at this
  | none :: l, n, k, q, h => by
    rw [List.cons_append, q_lp] at h
    rw [q_lp]
    exact q_lp_rep l n (k + 1) q h
  | some v :: l, n, k, q, h => by
    rw [List.cons_append, q_lp] at h
    rw [q_lp]
    rcases List.mem_cons.mp h with h | h
    · rw [h]; exact List.mem_cons_self
    · exact List.mem_cons_of_mem _ (q_lp_rep l n (k + 1) q h)
theorem q_entry {ls : Array Slot} {n : Nat} {vs : List Value} (r : Nat) (h : lv_has ls n (lv_args 0 vs)) : q_L ls n (q_lvs vs ++ List.replicate r none) := ⟨h.1, h.2.1, fun i v hv => h.2.2 (i, v) (q_lvs_mem vs 0 _ (q_lp_rep _ r 0 _ ((q_lp_mem _ 0 (i, v)).mpr ⟨i, (Nat.zero_add i).symm, hv⟩)))⟩
theorem q_metI {l : Launch} {y : MethodName} {maxL : Nat} {rm : Room} {av : List Value} {Q : Int32 → q_Mem → Prop} (r : Nat) (hy : plainName y.cls = true) (hlen : (lg_sl av).length ≤ maxL) (hlv : q_lvs av ++ List.replicate r none = lv)
    (body : ∀ X : q_X, q_l X = l → q_C X cc maxL y.cls ret rm.frames rm.locals → q_J X G maxL (q_QI X G Q) 0 lv [] mem) : q_MI l G y cc maxL ret rm av mem Q := by
  refine Met.ofW (cc := cc) (maxL := maxL) (ret := ret) hy rfl ?_
  intro p e s m args below meth c s₁ B hml hv
  obtain ⟨rfl, hB⟩ := hv
  have hl := lv_entry av (n := maxL) hlen
  rw [lg_entry_eq]
  generalize (lg_sl av ++ List.replicate (maxL - (lg_sl av).length) Slot.unset).toArray = ls at hl ⊢
  have hts := atoms_spec (ws := Cond.code y cc maxL ret :: q_T) B.pre
  have hlv2 : q_L ls maxL lv := by rw [← hlv]; exact q_entry r hl
  exact body (p, l, e, (headSpec (Cond.code y cc maxL ret :: q_T) rm).room, s, m, av.toArray, below, meth, c, 0, 0) rfl ⟨⟨B.exec, B.bytes, hml, findClass_of_methodNamed B.named, fun w hw => hts w (List.mem_cons_of_mem _ hw)⟩, B.returns, B.notSynchronized, Nat.le_refl _, Nat.le_refl _, Nat.zero_le _, Nat.zero_le _⟩ s.heap [] ls hB va_S.rf hlv2
theorem q_metL {l : Launch} {y : MethodName} {maxL : Nat} {rm : Room} {av : List Value} {Q : Int64 → q_Mem → Prop} (r : Nat) (hy : plainName y.cls = true) (hlen : (lg_sl av).length ≤ maxL) (hlv : q_lvs av ++ List.replicate r none = lv)
    (body : ∀ X : q_X, q_l X = l → q_C X cc maxL y.cls ret rm.frames rm.locals → q_J X G maxL (q_QL X G Q) 0 lv [] mem) : q_ML l G y cc maxL ret rm av mem Q := by
  refine Met.ofW (cc := cc) (maxL := maxL) (ret := ret) hy rfl ?_
  intro p e s m args below meth c s₁ B hml hv
  obtain ⟨rfl, hB⟩ := hv
  have hl := lv_entry av (n := maxL) hlen
  rw [lg_entry_eq]
  generalize (lg_sl av ++ List.replicate (maxL - (lg_sl av).length) Slot.unset).toArray = ls at hl ⊢
  have hts := atoms_spec (ws := Cond.code y cc maxL ret :: q_T) B.pre
  have hlv2 : q_L ls maxL lv := by rw [← hlv]; exact q_entry r hl
  exact body (p, l, e, (headSpec (Cond.code y cc maxL ret :: q_T) rm).room, s, m, av.toArray, below, meth, c, 0, 0) rfl ⟨⟨B.exec, B.bytes, hml, findClass_of_methodNamed B.named, fun w hw => hts w (List.mem_cons_of_mem _ hw)⟩, B.returns, B.notSynchronized, Nat.le_refl _, Nat.le_refl _, Nat.zero_le _, Nat.zero_le _⟩ s.heap [] ls hB va_S.rf hlv2
theorem q_metV {l : Launch} {y : MethodName} {maxL : Nat} {rm : Room} {av : List Value} {Q : q_Mem → Prop} (r : Nat) (hy : plainName y.cls = true) (hlen : (lg_sl av).length ≤ maxL) (hlv : q_lvs av ++ List.replicate r none = lv)
    (body : ∀ X : q_X, q_l X = l → q_C X cc maxL y.cls ret rm.frames rm.locals → q_J X G maxL (q_QV X G Q) 0 lv [] mem) : q_MV l G y cc maxL ret rm av mem Q := by
  refine Met.ofW (cc := cc) (maxL := maxL) (ret := ret) hy rfl ?_
  intro p e s m args below meth c s₁ B hml hv
  obtain ⟨rfl, hB⟩ := hv
  have hl := lv_entry av (n := maxL) hlen
  rw [lg_entry_eq]
  generalize (lg_sl av ++ List.replicate (maxL - (lg_sl av).length) Slot.unset).toArray = ls at hl ⊢
  have hts := atoms_spec (ws := Cond.code y cc maxL ret :: q_T) B.pre
  have hlv2 : q_L ls maxL lv := by rw [← hlv]; exact q_entry r hl
  exact body (p, l, e, (headSpec (Cond.code y cc maxL ret :: q_T) rm).room, s, m, av.toArray, below, meth, c, 0, 0) rfl ⟨⟨B.exec, B.bytes, hml, findClass_of_methodNamed B.named, fun w hw => hts w (List.mem_cons_of_mem _ hw)⟩, B.returns, B.notSynchronized, Nat.le_refl _, Nat.le_refl _, Nat.zero_le _, Nat.zero_le _⟩ s.heap [] ls hB va_S.rf hlv2

/-! the calls -/
theorem q_callVI (hX : q_C X cc nL own ret F Lo) {y : MethodName} {bytes : ByteArray} {maxL n index : Nat} {ret2 : Option FieldType} {rm : Room} {As : List Value} {k ci N : Nat} {C : String} {T : u_T} {fs : List (Option Nat)} (hsh : q_sh[k]? = some (.inr (.inr (ci, fs)))) (hc : vwCl[ci]? = some (C, T, N)) {Q : Int32 → q_Mem → Prop} (w0 : Cond.methodLink own index y ∈ q_T) (w1 : Cond.instanceMethod y ∈ q_T) (w2 : Cond.selects C y y ∈ q_T) (w3 : Cond.initialized y.cls ∈ q_T) (w4 : Cond.code y bytes maxL ret2 ∈ q_T) (hd : y.cls ≠ "java/lang/invoke/MethodHandle" ∧ y.cls ≠ "java/lang/invoke/VarHandle" ∧ (parseMethodDescriptor y.desc).map (fun d => d.parameters.length) = some n) (hrm : rm.cells = 0 ∧ rm.slots = 0) (hroom : rm.frames + 1 ≤ F ∧ 8 + (maxL + 11) + rm.locals ≤ Lo) (hn : As.length = n) (hcat : (st.map fun v => v.category).sum ≤ 8) (d : decode cc pc = .ok (.invokevirtual index, 3)) (pc' : Nat) (ep : pc + 3 = pc') {stk : List Value} (es : stk = As.reverse ++ .ref (q_ad G k) :: st) (hM : q_MI (q_l X) G y bytes maxL ret2 rm (.ref (q_ad G k) :: As) mem Q) (kk : ∀ (r : Int32) (u : q_Mem), Q r u → q_J X G nL QQ pc' lv (.int r :: st) u) : q_J X G nL QQ pc lv stk mem := by
  subst ep
  subst es
  intro H locs ls hW hS hL
  refine va_calli (va_runV (n := n) (mc := 0) (ms := 0) (As := As) (rest := st) hX.1 hM ⟨callB_of n hX.1.2.2.2.2 (q_good w4) rfl hrm.1 hrm.2 (hX.1.2.2.2.2 _ w3) (hX.1.2.2.2.2 _ w0) hd ⟨Nat.le_trans hroom.1 hX.2.2.2.1, Nat.le_trans hroom.2 hX.2.2.2.2.1⟩, hX.1.2.2.2.2 _ w1, hX.1.2.2.2.2 _ w2⟩ ⟨q_blind G _ mem, va_recv hW.2.1 hW.1 hc (q_w_get G mem hsh), fun U hU hw => ⟨rfl, by unfold q_Bd; rw [hU]; exact hW.warm hw⟩⟩ rfl hn hL.1 rfl (lv_room hcat) d ⟨hX.2.2.2.2.2.1, hX.2.2.2.2.2.2⟩) hS (fun q _ h => h) (fun q h => h) (fun r u t H1 locs1 ht hvm hq hB hz1 hk1 hS1 => ?_)
  exact kk r u hq H1 locs1 ls ⟨by rw [← ht]; exact hB.1, va_K.moved hvm.symm hB.2.1, hB.2.2.1, hW.2.2.2⟩ hS1 hL
theorem q_callVNI (hX : q_C X cc nL own ret F Lo) {y : MethodName} {bytes : ByteArray} {maxL n index : Nat} {ret2 : Option FieldType} {rm : Room} {As : List Value} {k ci N : Nat} {C : String} {T : u_T} {fs : List (Option Nat)} (hsh : q_sh[k]? = some (.inr (.inr (ci, fs)))) (hc : vwCl[ci]? = some (C, T, N)) {Q : Int32 → q_Mem → Prop} {host : String} (w0 : (own, index, y, host) ∈ q_nm) (w1 : Cond.instanceMethod y ∈ q_T) (w2 : Cond.selects C y y ∈ q_T) (w3 : Cond.initialized y.cls ∈ q_T) (w4 : Cond.code y bytes maxL ret2 ∈ q_T) (hd : y.cls ≠ "java/lang/invoke/MethodHandle" ∧ y.cls ≠ "java/lang/invoke/VarHandle" ∧ (parseMethodDescriptor y.desc).map (fun d => d.parameters.length) = some n) (hrm : rm.cells = 0 ∧ rm.slots = 0) (hroom : rm.frames + 1 ≤ F ∧ 8 + (maxL + 11) + rm.locals ≤ Lo) (hn : As.length = n) (hcat : (st.map fun v => v.category).sum ≤ 8) (d : decode cc pc = .ok (.invokevirtual index, 3)) (pc' : Nat) (ep : pc + 3 = pc') {stk : List Value} (es : stk = As.reverse ++ .ref (q_ad G k) :: st) (hM : q_MI (q_l X) G y bytes maxL ret2 rm (.ref (q_ad G k) :: As) mem Q) (kk : ∀ (r : Int32) (u : q_Mem), Q r u → q_J X G nL QQ pc' lv (.int r :: st) u) : q_J X G nL QQ pc lv stk mem := by
  subst ep
  subst es
  intro H locs ls hW hS hL
  refine va_calli (va_runVN (n := n) (mc := 0) (ms := 0) (As := As) (rest := st) hX.1 hM ⟨⟨⟨hrm.1, hrm.2, Nat.le_trans hroom.1 hX.2.2.2.1, Nat.le_trans hroom.2 hX.2.2.2.2.1, pay_in hX.1.2.2.2.2 (q_good w4), List.mem_cons_self⟩, hX.1.2.2.2.2 _ w4, hX.1.2.2.2.2 _ w3, ⟨hd.1, hd.2.1⟩, (fun sig h => by have h2 := hd.2.2; rw [h] at h2; exact (Option.some.inj h2).symm), va_Nw.use rfl (hW.2.2.2.2 _ w0)⟩, hX.1.2.2.2.2 _ w1, hX.1.2.2.2.2 _ w2⟩ ⟨q_blind G _ mem, va_recv hW.2.1 hW.1 hc (q_w_get G mem hsh), fun U hU hw => ⟨rfl, by unfold q_Bd; rw [hU]; exact hW.warm hw⟩⟩ rfl hn hL.1 rfl (lv_room hcat) d ⟨hX.2.2.2.2.2.1, hX.2.2.2.2.2.2⟩) hS (fun q _ h => h) (fun q h => h) (fun r u t H1 locs1 ht hvm hq hB hz1 hk1 hS1 => ?_)
  exact kk r u hq H1 locs1 ls ⟨by rw [← ht]; exact hB.1, va_K.moved hvm.symm hB.2.1, hB.2.2.1, hW.2.2.2⟩ hS1 hL
theorem q_callSI (hX : q_C X cc nL own ret F Lo) {y : MethodName} {bytes : ByteArray} {maxL n index : Nat} {ret2 : Option FieldType} {rm : Room} {As : List Value} {Q : Int32 → q_Mem → Prop} (w0 : Cond.methodLink own index y ∈ q_T) (w1 : Cond.static y ∈ q_T) (w3 : Cond.initialized y.cls ∈ q_T) (w4 : Cond.code y bytes maxL ret2 ∈ q_T) (hd : y.cls ≠ "java/lang/invoke/MethodHandle" ∧ y.cls ≠ "java/lang/invoke/VarHandle" ∧ (parseMethodDescriptor y.desc).map (fun d => d.parameters.length) = some n) (hrm : rm.cells = 0 ∧ rm.slots = 0) (hroom : rm.frames + 1 ≤ F ∧ 8 + (maxL + 11) + rm.locals ≤ Lo) (hn : As.length = n) (hcat : (st.map fun v => v.category).sum ≤ 8) (d : decode cc pc = .ok (.invokestatic index, 3)) (pc' : Nat) (ep : pc + 3 = pc') {stk : List Value} (es : stk = As.reverse ++ st) (hM : q_MI (q_l X) G y bytes maxL ret2 rm As mem Q) (kk : ∀ (r : Int32) (u : q_Mem), Q r u → q_J X G nL QQ pc' lv (.int r :: st) u) : q_J X G nL QQ pc lv stk mem := by
  subst ep
  subst es
  intro H locs ls hW hS hL
  refine va_calli (va_runS (n := n) (mc := 0) (ms := 0) (As := As) (rest := st) hX.1 hM ⟨callB_of n hX.1.2.2.2.2 (q_good w4) rfl hrm.1 hrm.2 (hX.1.2.2.2.2 _ w3) (hX.1.2.2.2.2 _ w0) hd ⟨Nat.le_trans hroom.1 hX.2.2.2.1, Nat.le_trans hroom.2 hX.2.2.2.2.1⟩, hX.1.2.2.2.2 _ w1⟩ ⟨q_blind G _ mem, fun U hU hw => ⟨rfl, by unfold q_Bd; rw [hU]; exact hW.warm hw⟩⟩ rfl hn hL.1 rfl (lv_room hcat) d ⟨hX.2.2.2.2.2.1, hX.2.2.2.2.2.2⟩) hS (fun q _ h => h) (fun q h => h) (fun r u t H1 locs1 ht hvm hq hB hz1 hk1 hS1 => ?_)
  exact kk r u hq H1 locs1 ls ⟨by rw [← ht]; exact hB.1, va_K.moved hvm.symm hB.2.1, hB.2.2.1, hW.2.2.2⟩ hS1 hL
theorem q_callSNI (hX : q_C X cc nL own ret F Lo) {y : MethodName} {bytes : ByteArray} {maxL n index : Nat} {ret2 : Option FieldType} {rm : Room} {As : List Value} {Q : Int32 → q_Mem → Prop} {host : String} (w0 : (own, index, y, host) ∈ q_nm) (w1 : Cond.static y ∈ q_T) (w3 : Cond.initialized y.cls ∈ q_T) (w4 : Cond.code y bytes maxL ret2 ∈ q_T) (hd : y.cls ≠ "java/lang/invoke/MethodHandle" ∧ y.cls ≠ "java/lang/invoke/VarHandle" ∧ (parseMethodDescriptor y.desc).map (fun d => d.parameters.length) = some n) (hrm : rm.cells = 0 ∧ rm.slots = 0) (hroom : rm.frames + 1 ≤ F ∧ 8 + (maxL + 11) + rm.locals ≤ Lo) (hn : As.length = n) (hcat : (st.map fun v => v.category).sum ≤ 8) (d : decode cc pc = .ok (.invokestatic index, 3)) (pc' : Nat) (ep : pc + 3 = pc') {stk : List Value} (es : stk = As.reverse ++ st) (hM : q_MI (q_l X) G y bytes maxL ret2 rm As mem Q) (kk : ∀ (r : Int32) (u : q_Mem), Q r u → q_J X G nL QQ pc' lv (.int r :: st) u) : q_J X G nL QQ pc lv stk mem := by
  subst ep
  subst es
  intro H locs ls hW hS hL
  refine va_calli (va_runSN (n := n) (mc := 0) (ms := 0) (As := As) (rest := st) hX.1 hM ⟨⟨⟨hrm.1, hrm.2, Nat.le_trans hroom.1 hX.2.2.2.1, Nat.le_trans hroom.2 hX.2.2.2.2.1, pay_in hX.1.2.2.2.2 (q_good w4), List.mem_cons_self⟩, hX.1.2.2.2.2 _ w4, hX.1.2.2.2.2 _ w3, ⟨hd.1, hd.2.1⟩, (fun sig h => by have h2 := hd.2.2; rw [h] at h2; exact (Option.some.inj h2).symm), va_Nw.use rfl (hW.2.2.2.2 _ w0)⟩, hX.1.2.2.2.2 _ w1, trivial⟩ ⟨q_blind G _ mem, fun U hU hw => ⟨rfl, by unfold q_Bd; rw [hU]; exact hW.warm hw⟩⟩ rfl hn hL.1 rfl (lv_room hcat) d ⟨hX.2.2.2.2.2.1, hX.2.2.2.2.2.2⟩) hS (fun q _ h => h) (fun q h => h) (fun r u t H1 locs1 ht hvm hq hB hz1 hk1 hS1 => ?_)
  exact kk r u hq H1 locs1 ls ⟨by rw [← ht]; exact hB.1, va_K.moved hvm.symm hB.2.1, hB.2.2.1, hW.2.2.2⟩ hS1 hL
theorem q_callVL (hX : q_C X cc nL own ret F Lo) {y : MethodName} {bytes : ByteArray} {maxL n index : Nat} {ret2 : Option FieldType} {rm : Room} {As : List Value} {k ci N : Nat} {C : String} {T : u_T} {fs : List (Option Nat)} (hsh : q_sh[k]? = some (.inr (.inr (ci, fs)))) (hc : vwCl[ci]? = some (C, T, N)) {Q : Int64 → q_Mem → Prop} (w0 : Cond.methodLink own index y ∈ q_T) (w1 : Cond.instanceMethod y ∈ q_T) (w2 : Cond.selects C y y ∈ q_T) (w3 : Cond.initialized y.cls ∈ q_T) (w4 : Cond.code y bytes maxL ret2 ∈ q_T) (hd : y.cls ≠ "java/lang/invoke/MethodHandle" ∧ y.cls ≠ "java/lang/invoke/VarHandle" ∧ (parseMethodDescriptor y.desc).map (fun d => d.parameters.length) = some n) (hrm : rm.cells = 0 ∧ rm.slots = 0) (hroom : rm.frames + 1 ≤ F ∧ 8 + (maxL + 11) + rm.locals ≤ Lo) (hn : As.length = n) (hcat : (st.map fun v => v.category).sum ≤ 8) (d : decode cc pc = .ok (.invokevirtual index, 3)) (pc' : Nat) (ep : pc + 3 = pc') {stk : List Value} (es : stk = As.reverse ++ .ref (q_ad G k) :: st) (hM : q_ML (q_l X) G y bytes maxL ret2 rm (.ref (q_ad G k) :: As) mem Q) (kk : ∀ (r : Int64) (u : q_Mem), Q r u → q_J X G nL QQ pc' lv (.long r :: st) u) : q_J X G nL QQ pc lv stk mem := by
  subst ep
  subst es
  intro H locs ls hW hS hL
  refine va_calll (va_runV (n := n) (mc := 0) (ms := 0) (As := As) (rest := st) hX.1 hM ⟨callB_of n hX.1.2.2.2.2 (q_good w4) rfl hrm.1 hrm.2 (hX.1.2.2.2.2 _ w3) (hX.1.2.2.2.2 _ w0) hd ⟨Nat.le_trans hroom.1 hX.2.2.2.1, Nat.le_trans hroom.2 hX.2.2.2.2.1⟩, hX.1.2.2.2.2 _ w1, hX.1.2.2.2.2 _ w2⟩ ⟨q_blind G _ mem, va_recv hW.2.1 hW.1 hc (q_w_get G mem hsh), fun U hU hw => ⟨rfl, by unfold q_Bd; rw [hU]; exact hW.warm hw⟩⟩ rfl hn hL.1 rfl (lv_room hcat) d ⟨hX.2.2.2.2.2.1, hX.2.2.2.2.2.2⟩) hS (fun q _ h => h) (fun q h => h) (fun r u t H1 locs1 ht hvm hq hB hz1 hk1 hS1 => ?_)
  exact kk r u hq H1 locs1 ls ⟨by rw [← ht]; exact hB.1, va_K.moved hvm.symm hB.2.1, hB.2.2.1, hW.2.2.2⟩ hS1 hL
theorem q_callVNL (hX : q_C X cc nL own ret F Lo) {y : MethodName} {bytes : ByteArray} {maxL n index : Nat} {ret2 : Option FieldType} {rm : Room} {As : List Value} {k ci N : Nat} {C : String} {T : u_T} {fs : List (Option Nat)} (hsh : q_sh[k]? = some (.inr (.inr (ci, fs)))) (hc : vwCl[ci]? = some (C, T, N)) {Q : Int64 → q_Mem → Prop} {host : String} (w0 : (own, index, y, host) ∈ q_nm) (w1 : Cond.instanceMethod y ∈ q_T) (w2 : Cond.selects C y y ∈ q_T) (w3 : Cond.initialized y.cls ∈ q_T) (w4 : Cond.code y bytes maxL ret2 ∈ q_T) (hd : y.cls ≠ "java/lang/invoke/MethodHandle" ∧ y.cls ≠ "java/lang/invoke/VarHandle" ∧ (parseMethodDescriptor y.desc).map (fun d => d.parameters.length) = some n) (hrm : rm.cells = 0 ∧ rm.slots = 0) (hroom : rm.frames + 1 ≤ F ∧ 8 + (maxL + 11) + rm.locals ≤ Lo) (hn : As.length = n) (hcat : (st.map fun v => v.category).sum ≤ 8) (d : decode cc pc = .ok (.invokevirtual index, 3)) (pc' : Nat) (ep : pc + 3 = pc') {stk : List Value} (es : stk = As.reverse ++ .ref (q_ad G k) :: st) (hM : q_ML (q_l X) G y bytes maxL ret2 rm (.ref (q_ad G k) :: As) mem Q) (kk : ∀ (r : Int64) (u : q_Mem), Q r u → q_J X G nL QQ pc' lv (.long r :: st) u) : q_J X G nL QQ pc lv stk mem := by
  subst ep
  subst es
  intro H locs ls hW hS hL
  refine va_calll (va_runVN (n := n) (mc := 0) (ms := 0) (As := As) (rest := st) hX.1 hM ⟨⟨⟨hrm.1, hrm.2, Nat.le_trans hroom.1 hX.2.2.2.1, Nat.le_trans hroom.2 hX.2.2.2.2.1, pay_in hX.1.2.2.2.2 (q_good w4), List.mem_cons_self⟩, hX.1.2.2.2.2 _ w4, hX.1.2.2.2.2 _ w3, ⟨hd.1, hd.2.1⟩, (fun sig h => by have h2 := hd.2.2; rw [h] at h2; exact (Option.some.inj h2).symm), va_Nw.use rfl (hW.2.2.2.2 _ w0)⟩, hX.1.2.2.2.2 _ w1, hX.1.2.2.2.2 _ w2⟩ ⟨q_blind G _ mem, va_recv hW.2.1 hW.1 hc (q_w_get G mem hsh), fun U hU hw => ⟨rfl, by unfold q_Bd; rw [hU]; exact hW.warm hw⟩⟩ rfl hn hL.1 rfl (lv_room hcat) d ⟨hX.2.2.2.2.2.1, hX.2.2.2.2.2.2⟩) hS (fun q _ h => h) (fun q h => h) (fun r u t H1 locs1 ht hvm hq hB hz1 hk1 hS1 => ?_)
  exact kk r u hq H1 locs1 ls ⟨by rw [← ht]; exact hB.1, va_K.moved hvm.symm hB.2.1, hB.2.2.1, hW.2.2.2⟩ hS1 hL
theorem q_callSL (hX : q_C X cc nL own ret F Lo) {y : MethodName} {bytes : ByteArray} {maxL n index : Nat} {ret2 : Option FieldType} {rm : Room} {As : List Value} {Q : Int64 → q_Mem → Prop} (w0 : Cond.methodLink own index y ∈ q_T) (w1 : Cond.static y ∈ q_T) (w3 : Cond.initialized y.cls ∈ q_T) (w4 : Cond.code y bytes maxL ret2 ∈ q_T) (hd : y.cls ≠ "java/lang/invoke/MethodHandle" ∧ y.cls ≠ "java/lang/invoke/VarHandle" ∧ (parseMethodDescriptor y.desc).map (fun d => d.parameters.length) = some n) (hrm : rm.cells = 0 ∧ rm.slots = 0) (hroom : rm.frames + 1 ≤ F ∧ 8 + (maxL + 11) + rm.locals ≤ Lo) (hn : As.length = n) (hcat : (st.map fun v => v.category).sum ≤ 8) (d : decode cc pc = .ok (.invokestatic index, 3)) (pc' : Nat) (ep : pc + 3 = pc') {stk : List Value} (es : stk = As.reverse ++ st) (hM : q_ML (q_l X) G y bytes maxL ret2 rm As mem Q) (kk : ∀ (r : Int64) (u : q_Mem), Q r u → q_J X G nL QQ pc' lv (.long r :: st) u) : q_J X G nL QQ pc lv stk mem := by
  subst ep
  subst es
  intro H locs ls hW hS hL
  refine va_calll (va_runS (n := n) (mc := 0) (ms := 0) (As := As) (rest := st) hX.1 hM ⟨callB_of n hX.1.2.2.2.2 (q_good w4) rfl hrm.1 hrm.2 (hX.1.2.2.2.2 _ w3) (hX.1.2.2.2.2 _ w0) hd ⟨Nat.le_trans hroom.1 hX.2.2.2.1, Nat.le_trans hroom.2 hX.2.2.2.2.1⟩, hX.1.2.2.2.2 _ w1⟩ ⟨q_blind G _ mem, fun U hU hw => ⟨rfl, by unfold q_Bd; rw [hU]; exact hW.warm hw⟩⟩ rfl hn hL.1 rfl (lv_room hcat) d ⟨hX.2.2.2.2.2.1, hX.2.2.2.2.2.2⟩) hS (fun q _ h => h) (fun q h => h) (fun r u t H1 locs1 ht hvm hq hB hz1 hk1 hS1 => ?_)
  exact kk r u hq H1 locs1 ls ⟨by rw [← ht]; exact hB.1, va_K.moved hvm.symm hB.2.1, hB.2.2.1, hW.2.2.2⟩ hS1 hL
theorem q_callSNL (hX : q_C X cc nL own ret F Lo) {y : MethodName} {bytes : ByteArray} {maxL n index : Nat} {ret2 : Option FieldType} {rm : Room} {As : List Value} {Q : Int64 → q_Mem → Prop} {host : String} (w0 : (own, index, y, host) ∈ q_nm) (w1 : Cond.static y ∈ q_T) (w3 : Cond.initialized y.cls ∈ q_T) (w4 : Cond.code y bytes maxL ret2 ∈ q_T) (hd : y.cls ≠ "java/lang/invoke/MethodHandle" ∧ y.cls ≠ "java/lang/invoke/VarHandle" ∧ (parseMethodDescriptor y.desc).map (fun d => d.parameters.length) = some n) (hrm : rm.cells = 0 ∧ rm.slots = 0) (hroom : rm.frames + 1 ≤ F ∧ 8 + (maxL + 11) + rm.locals ≤ Lo) (hn : As.length = n) (hcat : (st.map fun v => v.category).sum ≤ 8) (d : decode cc pc = .ok (.invokestatic index, 3)) (pc' : Nat) (ep : pc + 3 = pc') {stk : List Value} (es : stk = As.reverse ++ st) (hM : q_ML (q_l X) G y bytes maxL ret2 rm As mem Q) (kk : ∀ (r : Int64) (u : q_Mem), Q r u → q_J X G nL QQ pc' lv (.long r :: st) u) : q_J X G nL QQ pc lv stk mem := by
  subst ep
  subst es
  intro H locs ls hW hS hL
  refine va_calll (va_runSN (n := n) (mc := 0) (ms := 0) (As := As) (rest := st) hX.1 hM ⟨⟨⟨hrm.1, hrm.2, Nat.le_trans hroom.1 hX.2.2.2.1, Nat.le_trans hroom.2 hX.2.2.2.2.1, pay_in hX.1.2.2.2.2 (q_good w4), List.mem_cons_self⟩, hX.1.2.2.2.2 _ w4, hX.1.2.2.2.2 _ w3, ⟨hd.1, hd.2.1⟩, (fun sig h => by have h2 := hd.2.2; rw [h] at h2; exact (Option.some.inj h2).symm), va_Nw.use rfl (hW.2.2.2.2 _ w0)⟩, hX.1.2.2.2.2 _ w1, trivial⟩ ⟨q_blind G _ mem, fun U hU hw => ⟨rfl, by unfold q_Bd; rw [hU]; exact hW.warm hw⟩⟩ rfl hn hL.1 rfl (lv_room hcat) d ⟨hX.2.2.2.2.2.1, hX.2.2.2.2.2.2⟩) hS (fun q _ h => h) (fun q h => h) (fun r u t H1 locs1 ht hvm hq hB hz1 hk1 hS1 => ?_)
  exact kk r u hq H1 locs1 ls ⟨by rw [← ht]; exact hB.1, va_K.moved hvm.symm hB.2.1, hB.2.2.1, hW.2.2.2⟩ hS1 hL
theorem q_callVV (hX : q_C X cc nL own ret F Lo) {y : MethodName} {bytes : ByteArray} {maxL n index : Nat} {ret2 : Option FieldType} {rm : Room} {As : List Value} {k ci N : Nat} {C : String} {T : u_T} {fs : List (Option Nat)} (hsh : q_sh[k]? = some (.inr (.inr (ci, fs)))) (hc : vwCl[ci]? = some (C, T, N)) {Q : q_Mem → Prop} (w0 : Cond.methodLink own index y ∈ q_T) (w1 : Cond.instanceMethod y ∈ q_T) (w2 : Cond.selects C y y ∈ q_T) (w3 : Cond.initialized y.cls ∈ q_T) (w4 : Cond.code y bytes maxL ret2 ∈ q_T) (hd : y.cls ≠ "java/lang/invoke/MethodHandle" ∧ y.cls ≠ "java/lang/invoke/VarHandle" ∧ (parseMethodDescriptor y.desc).map (fun d => d.parameters.length) = some n) (hrm : rm.cells = 0 ∧ rm.slots = 0) (hroom : rm.frames + 1 ≤ F ∧ 8 + (maxL + 11) + rm.locals ≤ Lo) (hn : As.length = n) (hcat : (st.map fun v => v.category).sum ≤ 8) (d : decode cc pc = .ok (.invokevirtual index, 3)) (pc' : Nat) (ep : pc + 3 = pc') {stk : List Value} (es : stk = As.reverse ++ .ref (q_ad G k) :: st) (hM : q_MV (q_l X) G y bytes maxL ret2 rm (.ref (q_ad G k) :: As) mem Q) (kk : ∀ (u : q_Mem), Q u → q_J X G nL QQ pc' lv (st) u) : q_J X G nL QQ pc lv stk mem := by
  subst ep
  subst es
  intro H locs ls hW hS hL
  refine va_callv (va_runV (n := n) (mc := 0) (ms := 0) (As := As) (rest := st) hX.1 hM ⟨callB_of n hX.1.2.2.2.2 (q_good w4) rfl hrm.1 hrm.2 (hX.1.2.2.2.2 _ w3) (hX.1.2.2.2.2 _ w0) hd ⟨Nat.le_trans hroom.1 hX.2.2.2.1, Nat.le_trans hroom.2 hX.2.2.2.2.1⟩, hX.1.2.2.2.2 _ w1, hX.1.2.2.2.2 _ w2⟩ ⟨q_blind G _ mem, va_recv hW.2.1 hW.1 hc (q_w_get G mem hsh), fun U hU hw => ⟨rfl, by unfold q_Bd; rw [hU]; exact hW.warm hw⟩⟩ rfl hn hL.1 rfl (lv_room hcat) d ⟨hX.2.2.2.2.2.1, hX.2.2.2.2.2.2⟩) hS (fun q _ h => h) (fun q h => h) (fun u t H1 locs1 ht hvm hq hB hz1 hk1 hS1 => ?_)
  exact kk u hq H1 locs1 ls ⟨by rw [← ht]; exact hB.1, va_K.moved hvm.symm hB.2.1, hB.2.2.1, hW.2.2.2⟩ hS1 hL
theorem q_callVNV (hX : q_C X cc nL own ret F Lo) {y : MethodName} {bytes : ByteArray} {maxL n index : Nat} {ret2 : Option FieldType} {rm : Room} {As : List Value} {k ci N : Nat} {C : String} {T : u_T} {fs : List (Option Nat)} (hsh : q_sh[k]? = some (.inr (.inr (ci, fs)))) (hc : vwCl[ci]? = some (C, T, N)) {Q : q_Mem → Prop} {host : String} (w0 : (own, index, y, host) ∈ q_nm) (w1 : Cond.instanceMethod y ∈ q_T) (w2 : Cond.selects C y y ∈ q_T) (w3 : Cond.initialized y.cls ∈ q_T) (w4 : Cond.code y bytes maxL ret2 ∈ q_T) (hd : y.cls ≠ "java/lang/invoke/MethodHandle" ∧ y.cls ≠ "java/lang/invoke/VarHandle" ∧ (parseMethodDescriptor y.desc).map (fun d => d.parameters.length) = some n) (hrm : rm.cells = 0 ∧ rm.slots = 0) (hroom : rm.frames + 1 ≤ F ∧ 8 + (maxL + 11) + rm.locals ≤ Lo) (hn : As.length = n) (hcat : (st.map fun v => v.category).sum ≤ 8) (d : decode cc pc = .ok (.invokevirtual index, 3)) (pc' : Nat) (ep : pc + 3 = pc') {stk : List Value} (es : stk = As.reverse ++ .ref (q_ad G k) :: st) (hM : q_MV (q_l X) G y bytes maxL ret2 rm (.ref (q_ad G k) :: As) mem Q) (kk : ∀ (u : q_Mem), Q u → q_J X G nL QQ pc' lv (st) u) : q_J X G nL QQ pc lv stk mem := by
  subst ep
  subst es
  intro H locs ls hW hS hL
  refine va_callv (va_runVN (n := n) (mc := 0) (ms := 0) (As := As) (rest := st) hX.1 hM ⟨⟨⟨hrm.1, hrm.2, Nat.le_trans hroom.1 hX.2.2.2.1, Nat.le_trans hroom.2 hX.2.2.2.2.1, pay_in hX.1.2.2.2.2 (q_good w4), List.mem_cons_self⟩, hX.1.2.2.2.2 _ w4, hX.1.2.2.2.2 _ w3, ⟨hd.1, hd.2.1⟩, (fun sig h => by have h2 := hd.2.2; rw [h] at h2; exact (Option.some.inj h2).symm), va_Nw.use rfl (hW.2.2.2.2 _ w0)⟩, hX.1.2.2.2.2 _ w1, hX.1.2.2.2.2 _ w2⟩ ⟨q_blind G _ mem, va_recv hW.2.1 hW.1 hc (q_w_get G mem hsh), fun U hU hw => ⟨rfl, by unfold q_Bd; rw [hU]; exact hW.warm hw⟩⟩ rfl hn hL.1 rfl (lv_room hcat) d ⟨hX.2.2.2.2.2.1, hX.2.2.2.2.2.2⟩) hS (fun q _ h => h) (fun q h => h) (fun u t H1 locs1 ht hvm hq hB hz1 hk1 hS1 => ?_)
  exact kk u hq H1 locs1 ls ⟨by rw [← ht]; exact hB.1, va_K.moved hvm.symm hB.2.1, hB.2.2.1, hW.2.2.2⟩ hS1 hL
theorem q_callSV (hX : q_C X cc nL own ret F Lo) {y : MethodName} {bytes : ByteArray} {maxL n index : Nat} {ret2 : Option FieldType} {rm : Room} {As : List Value} {Q : q_Mem → Prop} (w0 : Cond.methodLink own index y ∈ q_T) (w1 : Cond.static y ∈ q_T) (w3 : Cond.initialized y.cls ∈ q_T) (w4 : Cond.code y bytes maxL ret2 ∈ q_T) (hd : y.cls ≠ "java/lang/invoke/MethodHandle" ∧ y.cls ≠ "java/lang/invoke/VarHandle" ∧ (parseMethodDescriptor y.desc).map (fun d => d.parameters.length) = some n) (hrm : rm.cells = 0 ∧ rm.slots = 0) (hroom : rm.frames + 1 ≤ F ∧ 8 + (maxL + 11) + rm.locals ≤ Lo) (hn : As.length = n) (hcat : (st.map fun v => v.category).sum ≤ 8) (d : decode cc pc = .ok (.invokestatic index, 3)) (pc' : Nat) (ep : pc + 3 = pc') {stk : List Value} (es : stk = As.reverse ++ st) (hM : q_MV (q_l X) G y bytes maxL ret2 rm As mem Q) (kk : ∀ (u : q_Mem), Q u → q_J X G nL QQ pc' lv (st) u) : q_J X G nL QQ pc lv stk mem := by
  subst ep
  subst es
  intro H locs ls hW hS hL
  refine va_callv (va_runS (n := n) (mc := 0) (ms := 0) (As := As) (rest := st) hX.1 hM ⟨callB_of n hX.1.2.2.2.2 (q_good w4) rfl hrm.1 hrm.2 (hX.1.2.2.2.2 _ w3) (hX.1.2.2.2.2 _ w0) hd ⟨Nat.le_trans hroom.1 hX.2.2.2.1, Nat.le_trans hroom.2 hX.2.2.2.2.1⟩, hX.1.2.2.2.2 _ w1⟩ ⟨q_blind G _ mem, fun U hU hw => ⟨rfl, by unfold q_Bd; rw [hU]; exact hW.warm hw⟩⟩ rfl hn hL.1 rfl (lv_room hcat) d ⟨hX.2.2.2.2.2.1, hX.2.2.2.2.2.2⟩) hS (fun q _ h => h) (fun q h => h) (fun u t H1 locs1 ht hvm hq hB hz1 hk1 hS1 => ?_)
  exact kk u hq H1 locs1 ls ⟨by rw [← ht]; exact hB.1, va_K.moved hvm.symm hB.2.1, hB.2.2.1, hW.2.2.2⟩ hS1 hL
theorem q_callSNV (hX : q_C X cc nL own ret F Lo) {y : MethodName} {bytes : ByteArray} {maxL n index : Nat} {ret2 : Option FieldType} {rm : Room} {As : List Value} {Q : q_Mem → Prop} {host : String} (w0 : (own, index, y, host) ∈ q_nm) (w1 : Cond.static y ∈ q_T) (w3 : Cond.initialized y.cls ∈ q_T) (w4 : Cond.code y bytes maxL ret2 ∈ q_T) (hd : y.cls ≠ "java/lang/invoke/MethodHandle" ∧ y.cls ≠ "java/lang/invoke/VarHandle" ∧ (parseMethodDescriptor y.desc).map (fun d => d.parameters.length) = some n) (hrm : rm.cells = 0 ∧ rm.slots = 0) (hroom : rm.frames + 1 ≤ F ∧ 8 + (maxL + 11) + rm.locals ≤ Lo) (hn : As.length = n) (hcat : (st.map fun v => v.category).sum ≤ 8) (d : decode cc pc = .ok (.invokestatic index, 3)) (pc' : Nat) (ep : pc + 3 = pc') {stk : List Value} (es : stk = As.reverse ++ st) (hM : q_MV (q_l X) G y bytes maxL ret2 rm As mem Q) (kk : ∀ (u : q_Mem), Q u → q_J X G nL QQ pc' lv (st) u) : q_J X G nL QQ pc lv stk mem := by
  subst ep
  subst es
  intro H locs ls hW hS hL
  refine va_callv (va_runSN (n := n) (mc := 0) (ms := 0) (As := As) (rest := st) hX.1 hM ⟨⟨⟨hrm.1, hrm.2, Nat.le_trans hroom.1 hX.2.2.2.1, Nat.le_trans hroom.2 hX.2.2.2.2.1, pay_in hX.1.2.2.2.2 (q_good w4), List.mem_cons_self⟩, hX.1.2.2.2.2 _ w4, hX.1.2.2.2.2 _ w3, ⟨hd.1, hd.2.1⟩, (fun sig h => by have h2 := hd.2.2; rw [h] at h2; exact (Option.some.inj h2).symm), va_Nw.use rfl (hW.2.2.2.2 _ w0)⟩, hX.1.2.2.2.2 _ w1, trivial⟩ ⟨q_blind G _ mem, fun U hU hw => ⟨rfl, by unfold q_Bd; rw [hU]; exact hW.warm hw⟩⟩ rfl hn hL.1 rfl (lv_room hcat) d ⟨hX.2.2.2.2.2.1, hX.2.2.2.2.2.2⟩) hS (fun q _ h => h) (fun q h => h) (fun u t H1 locs1 ht hvm hq hB hz1 hk1 hS1 => ?_)
  exact kk u hq H1 locs1 ls ⟨by rw [← ht]; exact hB.1, va_K.moved hvm.symm hB.2.1, hB.2.2.1, hW.2.2.2⟩ hS1 hL
end QC
end
