/-! ===== the words of the tables that a call may take along ===== -/
def q_T : List Cond := lw_tbl.filter goodWord
theorem q_Tin {w : Cond} (i : Nat) (h : lw_tbl[i]? = some w) (hg : goodWord w = true) : w ∈ q_T := List.mem_filter.mpr ⟨List.mem_of_getElem? h, hg⟩
theorem q_Tall : q_T.all goodWord = true := List.all_eq_true.mpr fun w h => (List.mem_filter.mp h).2
theorem q_Tlw : ∀ w ∈ q_T, w ∈ lw_tbl := fun w h => (List.mem_filter.mp h).1
theorem q_Tsub {ws : List Cond} (ps : List Nat) (hp : ws = ps.filterMap (fun i => lw_tbl[i]?)) (h : ws.all goodWord = true) : ∀ w ∈ ws, w ∈ q_T := by
  intro w hw
  have h1 := List.all_eq_true.mp h w hw
  rw [hp] at hw
  obtain ⟨i, -, hi⟩ := List.mem_filterMap.mp hw
  exact q_Tin i hi h1
abbrev vwCl : List vw_C := [(RX0, TX0, 2), (RX1, TX1, 12), (RX2, TX2, 10), (RX3, TX3, 26)]
theorem q_inX0 : ∀ w ∈ wsX00, w ∈ q_T := q_Tsub [141, 143] (by decide +kernel) (by decide +kernel)
theorem q_inX1 : ∀ w ∈ wsX10, w ∈ q_T := q_Tsub [106, 108, 110, 112, 114, 116, 118, 120, 122, 124, 126, 128] (by decide +kernel) (by decide +kernel)
theorem q_inX2 : ∀ w ∈ wsX20, w ∈ q_T := q_Tsub [157, 159, 161, 163, 165, 167, 169, 171, 173, 175] (by decide +kernel) (by decide +kernel)
theorem q_inX3 : ∀ w ∈ wsX30, w ∈ q_T := q_Tsub [510, 512, 514, 516, 518, 520, 522, 524, 526, 528, 530, 532, 534, 536, 538, 540, 542, 544, 546, 548, 550, 552, 554, 556, 558, 560] (by decide +kernel) (by decide +kernel)
theorem tw_0 : Cond.selects RX1 yX1_addInside yX1_addInside ∈ q_T := q_Tin 0 (by decide +kernel) (by decide +kernel)
theorem tw_1 : Cond.selects RX1 yX1_empty yX1_empty ∈ q_T := q_Tin 1 (by decide +kernel) (by decide +kernel)
theorem tw_2 : Cond.selects RX1 yX1_has yX1_has ∈ q_T := q_Tin 2 (by decide +kernel) (by decide +kernel)
theorem tw_3 : Cond.selects RX1 yX1_tellOf yX1_tellOf ∈ q_T := q_Tin 3 (by decide +kernel) (by decide +kernel)
theorem tw_4 : Cond.selects RX1 yX1_dampOf yX1_dampOf ∈ q_T := q_Tin 4 (by decide +kernel) (by decide +kernel)
theorem tw_5 : Cond.selects RX2 yX2_nothingCanPass yX2_nothingCanPass ∈ q_T := q_Tin 5 (by decide +kernel) (by decide +kernel)
theorem tw_6 : Cond.selects RX1 yX1_letHourPass yX1_letHourPass ∈ q_T := q_Tin 6 (by decide +kernel) (by decide +kernel)
theorem tw_7 : Cond.selects RX1 yX1_moveWater yX1_moveWater ∈ q_T := q_Tin 7 (by decide +kernel) (by decide +kernel)
theorem tw_8 : Cond.selects RX1 yX1_takeRain yX1_takeRain ∈ q_T := q_Tin 8 (by decide +kernel) (by decide +kernel)
theorem tw_9 : Cond.selects RX1 yX1_freeRoom yX1_freeRoom ∈ q_T := q_Tin 9 (by decide +kernel) (by decide +kernel)
theorem tw_10 : Cond.selects RX1 yX1_crossBorder yX1_crossBorder ∈ q_T := q_Tin 10 (by decide +kernel) (by decide +kernel)
theorem tw_11 : Cond.selects RX1 yX1_steamResist yX1_steamResist ∈ q_T := q_Tin 11 (by decide +kernel) (by decide +kernel)
theorem tw_12 : Cond.selects RX1 yX1_waterToGive yX1_waterToGive ∈ q_T := q_Tin 12 (by decide +kernel) (by decide +kernel)
theorem tw_13 : Cond.selects RX1 yX1_addWater yX1_addWater ∈ q_T := q_Tin 13 (by decide +kernel) (by decide +kernel)
theorem tw_14 : Cond.selects RX1 yX1_feelWarmth yX1_feelWarmth ∈ q_T := q_Tin 14 (by decide +kernel) (by decide +kernel)
theorem tw_15 : Cond.selects RX1 yX1_resistOf yX1_resistOf ∈ q_T := q_Tin 15 (by decide +kernel) (by decide +kernel)
theorem tw_16 : Cond.selects RX1 yX1_countFrost yX1_countFrost ∈ q_T := q_Tin 16 (by decide +kernel) (by decide +kernel)
theorem tw_17 : Cond.selects RX1 yX1_countMould yX1_countMould ∈ q_T := q_Tin 17 (by decide +kernel) (by decide +kernel)
theorem tw_18 : Cond.selects RX2 yX2_hourBehind yX2_hourBehind ∈ q_T := q_Tin 18 (by decide +kernel) (by decide +kernel)
theorem tw_19 : Cond.selects RX2 yX2_roundKeepsWater yX2_roundKeepsWater ∈ q_T := q_Tin 19 (by decide +kernel) (by decide +kernel)
theorem tw_20 : Cond.selects RX1 yX1_becomeAs yX1_becomeAs ∈ q_T := q_Tin 20 (by decide +kernel) (by decide +kernel)
theorem tw_21 : Cond.selects RX1 yX1_holdsSameWaterAs yX1_holdsSameWaterAs ∈ q_T := q_Tin 21 (by decide +kernel) (by decide +kernel)
theorem tw_22 : Cond.selects RX2 yX2_faceRefusal yX2_faceRefusal ∈ q_T := q_Tin 22 (by decide +kernel) (by decide +kernel)
theorem tw_23 : Cond.selects RX2 yX2_hourRefusal yX2_hourRefusal ∈ q_T := q_Tin 23 (by decide +kernel) (by decide +kernel)
theorem tw_24 : Cond.selects RX0 yX0_pressureAt yX0_pressureAt ∈ q_T := q_Tin 24 (by decide +kernel) (by decide +kernel)
theorem tw_25 : Cond.selects RX0 yX0_pressureBehind yX0_pressureBehind ∈ q_T := q_Tin 25 (by decide +kernel) (by decide +kernel)
theorem tw_26 : Cond.selects RX0 yX0_warmthAt yX0_warmthAt ∈ q_T := q_Tin 26 (by decide +kernel) (by decide +kernel)
theorem tw_27 : Cond.selects RX0 yX0_warmthBehind yX0_warmthBehind ∈ q_T := q_Tin 27 (by decide +kernel) (by decide +kernel)
theorem tw_28 : Cond.selects RX0 yX0_excessBehind yX0_excessBehind ∈ q_T := q_Tin 28 (by decide +kernel) (by decide +kernel)
theorem tw_29 : Cond.selects RX0 yX0_findBestOrder yX0_findBestOrder ∈ q_T := q_Tin 29 (by decide +kernel) (by decide +kernel)
theorem tw_30 : Cond.selects RX0 yX0_weighSets yX0_weighSets ∈ q_T := q_Tin 30 (by decide +kernel) (by decide +kernel)
theorem tw_31 : Cond.selects RX0 yX0_bestBehind yX0_bestBehind ∈ q_T := q_Tin 31 (by decide +kernel) (by decide +kernel)
theorem tw_32 : Cond.selects RX1 yX1_standInOrder yX1_standInOrder ∈ q_T := q_Tin 32 (by decide +kernel) (by decide +kernel)
theorem tw_33 : Cond.selects RX1 yX1_reorder yX1_reorder ∈ q_T := q_Tin 33 (by decide +kernel) (by decide +kernel)
theorem tw_34 : Cond.selects RX2 yX2_lastHourRead yX2_lastHourRead ∈ q_T := q_Tin 34 (by decide +kernel) (by decide +kernel)
theorem tw_35 : Cond.selects RX2 yX2_readingsHoldWith yX2_readingsHoldWith ∈ q_T := q_Tin 35 (by decide +kernel) (by decide +kernel)
theorem tw_36 : Cond.selects RX2 yX2_readingsHoldBehind yX2_readingsHoldBehind ∈ q_T := q_Tin 36 (by decide +kernel) (by decide +kernel)
theorem tw_37 : Cond.selects RX2 yX2_tellCount yX2_tellCount ∈ q_T := q_Tin 37 (by decide +kernel) (by decide +kernel)
theorem tw_38 : Cond.selects RX1 yX1_allWater yX1_allWater ∈ q_T := q_Tin 38 (by decide +kernel) (by decide +kernel)
theorem tw_39 : Cond.selects RX3 yX3_isLayer yX3_isLayer ∈ q_T := q_Tin 39 (by decide +kernel) (by decide +kernel)
theorem tw_40 : Cond.selects RX3 yX3_aboutOf yX3_aboutOf ∈ q_T := q_Tin 40 (by decide +kernel) (by decide +kernel)
theorem tw_41 : Cond.selects RX3 yX3_damp yX3_damp ∈ q_T := q_Tin 41 (by decide +kernel) (by decide +kernel)
theorem tw_42 : Cond.selects RX3 yX3_mayGo yX3_mayGo ∈ q_T := q_Tin 42 (by decide +kernel) (by decide +kernel)
theorem tw_43 : Cond.selects RX3 yX3_goOn yX3_goOn ∈ q_T := q_Tin 43 (by decide +kernel) (by decide +kernel)
theorem tw_44 : Cond.selects RX3 yX3_cross yX3_cross ∈ q_T := q_Tin 44 (by decide +kernel) (by decide +kernel)
theorem tw_45 : Cond.selects RX3 yX3_heatOf yX3_heatOf ∈ q_T := q_Tin 45 (by decide +kernel) (by decide +kernel)
theorem tw_46 : Cond.selects RX3 yX3_refusal yX3_refusal ∈ q_T := q_Tin 46 (by decide +kernel) (by decide +kernel)
theorem tw_47 : Cond.selects RX3 yX3_isHour yX3_isHour ∈ q_T := q_Tin 47 (by decide +kernel) (by decide +kernel)
theorem tw_48 : Cond.selects RX3 yX3_plain yX3_plain ∈ q_T := q_Tin 48 (by decide +kernel) (by decide +kernel)
theorem tw_49 : Cond.selects RX3 yX3_pressureOf yX3_pressureOf ∈ q_T := q_Tin 49 (by decide +kernel) (by decide +kernel)
theorem tw_50 : Cond.selects RX3 yX3_between yX3_between ∈ q_T := q_Tin 50 (by decide +kernel) (by decide +kernel)
theorem tw_51 : Cond.selects RX3 yX3_warmthOf yX3_warmthOf ∈ q_T := q_Tin 51 (by decide +kernel) (by decide +kernel)
theorem tw_52 : Cond.selects RX3 yX3_excessOf yX3_excessOf ∈ q_T := q_Tin 52 (by decide +kernel) (by decide +kernel)
theorem tw_53 : Cond.selects RX3 yX3_findBest yX3_findBest ∈ q_T := q_Tin 53 (by decide +kernel) (by decide +kernel)
theorem tw_54 : Cond.selects RX3 yX3_goOnOrder yX3_goOnOrder ∈ q_T := q_Tin 54 (by decide +kernel) (by decide +kernel)
theorem tw_55 : Cond.selects RX3 yX3_swap yX3_swap ∈ q_T := q_Tin 55 (by decide +kernel) (by decide +kernel)
theorem tw_56 : Cond.selects RX3 yX3_layAside yX3_layAside ∈ q_T := q_Tin 56 (by decide +kernel) (by decide +kernel)
theorem tw_57 : Cond.selects RX3 yX3_fetch yX3_fetch ∈ q_T := q_Tin 57 (by decide +kernel) (by decide +kernel)
theorem tw_58 : Cond.initialized RL ∈ q_T := q_Tin 58 (by decide +kernel) (by decide +kernel)
theorem tw_59 : Cond.initialized RX2 ∈ q_T := q_Tin 59 (by decide +kernel) (by decide +kernel)
theorem tw_60 : Cond.initialized RX1 ∈ q_T := q_Tin 60 (by decide +kernel) (by decide +kernel)
theorem tw_61 : Cond.initialized "java/lang/System" ∈ q_T := q_Tin 61 (by decide +kernel) (by decide +kernel)
theorem tw_62 : Cond.initialized RX0 ∈ q_T := q_Tin 62 (by decide +kernel) (by decide +kernel)
theorem tw_63 : Cond.initialized RX3 ∈ q_T := q_Tin 63 (by decide +kernel) (by decide +kernel)
theorem tw_64 : Cond.initialized "java/lang/Math" ∈ q_T := q_Tin 64 (by decide +kernel) (by decide +kernel)
theorem tw_65 : Cond.classLink RL 7 RX2 ∈ q_T := q_Tin 65 (by decide +kernel) (by decide +kernel)
theorem tw_66 : Cond.instantiable RX2 10 ∈ q_T := q_Tin 66 (by decide +kernel) (by decide +kernel)
theorem tw_67 : Cond.methodLink RL 9 yX2_init ∈ q_T := q_Tin 67 (by decide +kernel) (by decide +kernel)
theorem tw_68 : Cond.instanceMethod yX2_init ∈ q_T := q_Tin 68 (by decide +kernel) (by decide +kernel)
set_option maxRecDepth 100000 in
theorem tw_69 : Cond.code yX2_init cX2_init 1 none ∈ q_T := q_Tin 69 rfl rfl
theorem tw_70 : Cond.methodLink RX2 1 objectInit ∈ q_T := q_Tin 70 (by decide +kernel) (by decide +kernel)
theorem tw_71 : Cond.instanceMethod objectInit ∈ q_T := q_Tin 71 (by decide +kernel) (by decide +kernel)
set_option maxRecDepth 100000 in
theorem tw_72 : Cond.code objectInit ⟨#[0xb1]⟩ 1 none ∈ q_T := q_Tin 72 rfl rfl
theorem tw_73 : Cond.classLink RX2 7 RX1 ∈ q_T := q_Tin 73 (by decide +kernel) (by decide +kernel)
theorem tw_74 : Cond.instantiable RX1 12 ∈ q_T := q_Tin 74 (by decide +kernel) (by decide +kernel)
theorem tw_76 : Cond.instanceMethod yX1_init ∈ q_T := q_Tin 76 (by decide +kernel) (by decide +kernel)
set_option maxRecDepth 100000 in
theorem tw_77 : Cond.code yX1_init cX1_init 2 none ∈ q_T := q_Tin 77 rfl rfl
theorem tw_78 : Cond.methodLink RX1 3 objectInit ∈ q_T := q_Tin 78 (by decide +kernel) (by decide +kernel)
theorem tw_79 : Cond.classLink RX1 9 "[[I" ∈ q_T := q_Tin 79 (by decide +kernel) (by decide +kernel)
theorem tw_83 : Cond.methodLink RX1 54 arraycopyName ∈ q_T := q_Tin 83 (by decide +kernel) (by decide +kernel)
theorem tw_84 : Cond.static arraycopyName ∈ q_T := q_Tin 84 (by decide +kernel) (by decide +kernel)
theorem tw_85 : Cond.native arraycopyName ∈ q_T := q_Tin 85 (by decide +kernel) (by decide +kernel)
theorem tw_86 : Cond.fieldLink RX1 11 "WetWalls$Wall" "corners" "[[I" ∈ q_T := q_Tin 86 (by decide +kernel) (by decide +kernel)
theorem tw_88 : Cond.fieldLink RX1 16 "WetWalls$Wall" "room" "[I" ∈ q_T := q_Tin 88 (by decide +kernel) (by decide +kernel)
theorem tw_90 : Cond.fieldLink RX1 20 "WetWalls$Wall" "steam" "[I" ∈ q_T := q_Tin 90 (by decide +kernel) (by decide +kernel)
theorem tw_92 : Cond.fieldLink RX1 23 "WetWalls$Wall" "heat" "[I" ∈ q_T := q_Tin 92 (by decide +kernel) (by decide +kernel)
theorem tw_94 : Cond.fieldLink RX1 26 "WetWalls$Wall" "curve" "[I" ∈ q_T := q_Tin 94 (by decide +kernel) (by decide +kernel)
theorem tw_95 : Cond.fieldLink RX1 29 "WetWalls$Wall" "held" "[I" ∈ q_T := q_Tin 95 (by decide +kernel) (by decide +kernel)
theorem tw_97 : Cond.fieldLink RX1 32 "WetWalls$Wall" "frost" "[I" ∈ q_T := q_Tin 97 (by decide +kernel) (by decide +kernel)
theorem tw_98 : Cond.fieldLink RX1 35 "WetWalls$Wall" "mould" "[I" ∈ q_T := q_Tin 98 (by decide +kernel) (by decide +kernel)
theorem tw_99 : Cond.fieldLink RX1 38 "WetWalls$Wall" "warm" "[I" ∈ q_T := q_Tin 99 (by decide +kernel) (by decide +kernel)
theorem tw_100 : Cond.fieldLink RX1 41 "WetWalls$Wall" "sums" "[I" ∈ q_T := q_Tin 100 (by decide +kernel) (by decide +kernel)
theorem tw_102 : Cond.fieldLink RX1 44 "WetWalls$Wall" "spare" "[I" ∈ q_T := q_Tin 102 (by decide +kernel) (by decide +kernel)
theorem tw_103 : Cond.fieldLink RX1 47 "WetWalls$Wall" "size" "I" ∈ q_T := q_Tin 103 (by decide +kernel) (by decide +kernel)
theorem tw_131 : Cond.arrayClass .int ∈ q_T := q_Tin 131 (by decide +kernel) (by decide +kernel)
theorem tw_132 : Cond.classLink RX2 19 RX0 ∈ q_T := q_Tin 132 (by decide +kernel) (by decide +kernel)
theorem tw_133 : Cond.instantiable RX0 2 ∈ q_T := q_Tin 133 (by decide +kernel) (by decide +kernel)
theorem tw_135 : Cond.instanceMethod yX0_init ∈ q_T := q_Tin 135 (by decide +kernel) (by decide +kernel)
set_option maxRecDepth 100000 in
theorem tw_136 : Cond.code yX0_init cX0_init 1 none ∈ q_T := q_Tin 136 rfl rfl
theorem tw_137 : Cond.methodLink RX0 3 objectInit ∈ q_T := q_Tin 137 (by decide +kernel) (by decide +kernel)
theorem tw_138 : Cond.fieldLink RX0 9 "WetWalls$OldWay" "leastBehind" "[I" ∈ q_T := q_Tin 138 (by decide +kernel) (by decide +kernel)
theorem tw_139 : Cond.fieldLink RX0 15 "WetWalls$OldWay" "order" "[I" ∈ q_T := q_Tin 139 (by decide +kernel) (by decide +kernel)
theorem tw_146 : Cond.classLink RX2 26 "[[I" ∈ q_T := q_Tin 146 (by decide +kernel) (by decide +kernel)
theorem tw_147 : Cond.fieldLink RX2 10 "WetWalls" "wall" "LWetWalls$Wall;" ∈ q_T := q_Tin 147 (by decide +kernel) (by decide +kernel)
theorem tw_148 : Cond.fieldLink RX2 16 "WetWalls" "trialWall" "LWetWalls$Wall;" ∈ q_T := q_Tin 148 (by decide +kernel) (by decide +kernel)
theorem tw_149 : Cond.fieldLink RX2 22 "WetWalls" "oldWay" "LWetWalls$OldWay;" ∈ q_T := q_Tin 149 (by decide +kernel) (by decide +kernel)
theorem tw_150 : Cond.fieldLink RX2 28 "WetWalls" "hours" "[[I" ∈ q_T := q_Tin 150 (by decide +kernel) (by decide +kernel)
theorem tw_151 : Cond.fieldLink RX2 31 "WetWalls" "hoursHeld" "I" ∈ q_T := q_Tin 151 (by decide +kernel) (by decide +kernel)
theorem tw_152 : Cond.fieldLink RX2 35 "WetWalls" "nextHour" "I" ∈ q_T := q_Tin 152 (by decide +kernel) (by decide +kernel)
theorem tw_153 : Cond.fieldLink RX2 38 "WetWalls" "shareNow" "I" ∈ q_T := q_Tin 153 (by decide +kernel) (by decide +kernel)
theorem tw_154 : Cond.fieldLink RX2 41 "WetWalls" "readings" "[[I" ∈ q_T := q_Tin 154 (by decide +kernel) (by decide +kernel)
theorem tw_155 : Cond.fieldLink RX2 44 "WetWalls" "readingsHeld" "I" ∈ q_T := q_Tin 155 (by decide +kernel) (by decide +kernel)
theorem tw_156 : Cond.fieldLink RX2 47 "WetWalls" "fitsDone" "I" ∈ q_T := q_Tin 156 (by decide +kernel) (by decide +kernel)
theorem tw_178 : Cond.methodLink RL 13 yX2_layer ∈ q_T := q_Tin 178 (by decide +kernel) (by decide +kernel)
theorem tw_179 : Cond.instanceMethod yX2_layer ∈ q_T := q_Tin 179 (by decide +kernel) (by decide +kernel)
theorem tw_180 : Cond.selects RX2 yX2_layer yX2_layer ∈ q_T := q_Tin 180 (by decide +kernel) (by decide +kernel)
set_option maxRecDepth 100000 in
theorem tw_181 : Cond.code yX2_layer cX2_layer 5 (some .int) ∈ q_T := q_Tin 181 rfl rfl
theorem tw_182 : Cond.methodLink RX2 50 yX2_within ∈ q_T := q_Tin 182 (by decide +kernel) (by decide +kernel)
theorem tw_183 : Cond.static yX2_within ∈ q_T := q_Tin 183 (by decide +kernel) (by decide +kernel)
set_option maxRecDepth 100000 in
theorem tw_184 : Cond.code yX2_within cX2_within 3 (some .boolean) ∈ q_T := q_Tin 184 rfl rfl
theorem tw_187 : Cond.instanceMethod yX1_addInside ∈ q_T := q_Tin 187 (by decide +kernel) (by decide +kernel)
set_option maxRecDepth 100000 in
theorem tw_188 : Cond.code yX1_addInside cX1_addInside 5 none ∈ q_T := q_Tin 188 rfl rfl
theorem tw_189 : Cond.methodLink RL 18 yX2_clear ∈ q_T := q_Tin 189 (by decide +kernel) (by decide +kernel)
theorem tw_190 : Cond.instanceMethod yX2_clear ∈ q_T := q_Tin 190 (by decide +kernel) (by decide +kernel)
theorem tw_191 : Cond.selects RX2 yX2_clear yX2_clear ∈ q_T := q_Tin 191 (by decide +kernel) (by decide +kernel)
set_option maxRecDepth 100000 in
theorem tw_192 : Cond.code yX2_clear cX2_clear 2 (some .int) ∈ q_T := q_Tin 192 rfl rfl
theorem tw_195 : Cond.instanceMethod yX1_empty ∈ q_T := q_Tin 195 (by decide +kernel) (by decide +kernel)
set_option maxRecDepth 100000 in
theorem tw_196 : Cond.code yX1_empty cX1_empty 2 none ∈ q_T := q_Tin 196 rfl rfl
theorem tw_197 : Cond.methodLink RL 23 yX2_corner ∈ q_T := q_Tin 197 (by decide +kernel) (by decide +kernel)
theorem tw_198 : Cond.instanceMethod yX2_corner ∈ q_T := q_Tin 198 (by decide +kernel) (by decide +kernel)
theorem tw_199 : Cond.selects RX2 yX2_corner yX2_corner ∈ q_T := q_Tin 199 (by decide +kernel) (by decide +kernel)
set_option maxRecDepth 100000 in
theorem tw_200 : Cond.code yX2_corner cX2_corner 8 (some .int) ∈ q_T := q_Tin 200 rfl rfl
theorem tw_201 : Cond.methodLink RL 28 yX2_water ∈ q_T := q_Tin 201 (by decide +kernel) (by decide +kernel)
theorem tw_202 : Cond.instanceMethod yX2_water ∈ q_T := q_Tin 202 (by decide +kernel) (by decide +kernel)
theorem tw_203 : Cond.selects RX2 yX2_water yX2_water ∈ q_T := q_Tin 203 (by decide +kernel) (by decide +kernel)
set_option maxRecDepth 100000 in
theorem tw_204 : Cond.code yX2_water cX2_water 4 (some .int) ∈ q_T := q_Tin 204 rfl rfl
theorem tw_207 : Cond.instanceMethod yX1_has ∈ q_T := q_Tin 207 (by decide +kernel) (by decide +kernel)
set_option maxRecDepth 100000 in
theorem tw_208 : Cond.code yX1_has cX1_has 2 (some .boolean) ∈ q_T := q_Tin 208 rfl rfl
theorem tw_209 : Cond.methodLink RL 33 yX2_about ∈ q_T := q_Tin 209 (by decide +kernel) (by decide +kernel)
theorem tw_210 : Cond.instanceMethod yX2_about ∈ q_T := q_Tin 210 (by decide +kernel) (by decide +kernel)
theorem tw_211 : Cond.selects RX2 yX2_about yX2_about ∈ q_T := q_Tin 211 (by decide +kernel) (by decide +kernel)
set_option maxRecDepth 100000 in
theorem tw_212 : Cond.code yX2_about cX2_about 3 (some .int) ∈ q_T := q_Tin 212 rfl rfl
theorem tw_215 : Cond.instanceMethod yX1_tellOf ∈ q_T := q_Tin 215 (by decide +kernel) (by decide +kernel)
set_option maxRecDepth 100000 in
theorem tw_216 : Cond.code yX1_tellOf cX1_tellOf 3 (some .int) ∈ q_T := q_Tin 216 rfl rfl
theorem tw_217 : Cond.methodLink RX1 71 yX1_dampOf ∈ q_T := q_Tin 217 (by decide +kernel) (by decide +kernel)
theorem tw_219 : Cond.instanceMethod yX1_dampOf ∈ q_T := q_Tin 219 (by decide +kernel) (by decide +kernel)
set_option maxRecDepth 100000 in
theorem tw_220 : Cond.code yX1_dampOf cX1_dampOf 5 (some .int) ∈ q_T := q_Tin 220 rfl rfl
theorem tw_222 : Cond.static yX2_partDown ∈ q_T := q_Tin 222 (by decide +kernel) (by decide +kernel)
set_option maxRecDepth 100000 in
theorem tw_223 : Cond.code yX2_partDown cX2_partDown 2 (some .int) ∈ q_T := q_Tin 223 rfl rfl
theorem tw_224 : Cond.methodLink RL 37 yX2_hour ∈ q_T := q_Tin 224 (by decide +kernel) (by decide +kernel)
theorem tw_225 : Cond.instanceMethod yX2_hour ∈ q_T := q_Tin 225 (by decide +kernel) (by decide +kernel)
theorem tw_226 : Cond.selects RX2 yX2_hour yX2_hour ∈ q_T := q_Tin 226 (by decide +kernel) (by decide +kernel)
set_option maxRecDepth 100000 in
theorem tw_227 : Cond.code yX2_hour cX2_hour 7 (some .int) ∈ q_T := q_Tin 227 rfl rfl
theorem tw_228 : Cond.methodLink RX2 85 yX2_isDamp ∈ q_T := q_Tin 228 (by decide +kernel) (by decide +kernel)
theorem tw_229 : Cond.static yX2_isDamp ∈ q_T := q_Tin 229 (by decide +kernel) (by decide +kernel)
set_option maxRecDepth 100000 in
theorem tw_230 : Cond.code yX2_isDamp cX2_isDamp 1 (some .boolean) ∈ q_T := q_Tin 230 rfl rfl
theorem tw_231 : Cond.methodLink RX2 88 yX2_isWarmth ∈ q_T := q_Tin 231 (by decide +kernel) (by decide +kernel)
theorem tw_232 : Cond.static yX2_isWarmth ∈ q_T := q_Tin 232 (by decide +kernel) (by decide +kernel)
set_option maxRecDepth 100000 in
theorem tw_233 : Cond.code yX2_isWarmth cX2_isWarmth 1 (some .boolean) ∈ q_T := q_Tin 233 rfl rfl
theorem tw_234 : Cond.methodLink RL 42 yX2_fair ∈ q_T := q_Tin 234 (by decide +kernel) (by decide +kernel)
theorem tw_235 : Cond.instanceMethod yX2_fair ∈ q_T := q_Tin 235 (by decide +kernel) (by decide +kernel)
theorem tw_236 : Cond.selects RX2 yX2_fair yX2_fair ∈ q_T := q_Tin 236 (by decide +kernel) (by decide +kernel)
set_option maxRecDepth 100000 in
theorem tw_237 : Cond.code yX2_fair cX2_fair 2 (some .int) ∈ q_T := q_Tin 237 rfl rfl
theorem tw_238 : Cond.methodLink RL 46 yX2_share ∈ q_T := q_Tin 238 (by decide +kernel) (by decide +kernel)
theorem tw_239 : Cond.instanceMethod yX2_share ∈ q_T := q_Tin 239 (by decide +kernel) (by decide +kernel)
theorem tw_240 : Cond.selects RX2 yX2_share yX2_share ∈ q_T := q_Tin 240 (by decide +kernel) (by decide +kernel)
set_option maxRecDepth 100000 in
theorem tw_241 : Cond.code yX2_share cX2_share 3 (some .int) ∈ q_T := q_Tin 241 rfl rfl
theorem tw_242 : Cond.methodLink RL 51 yX2_pass ∈ q_T := q_Tin 242 (by decide +kernel) (by decide +kernel)
theorem tw_243 : Cond.instanceMethod yX2_pass ∈ q_T := q_Tin 243 (by decide +kernel) (by decide +kernel)
theorem tw_244 : Cond.selects RX2 yX2_pass yX2_pass ∈ q_T := q_Tin 244 (by decide +kernel) (by decide +kernel)
set_option maxRecDepth 100000 in
theorem tw_245 : Cond.code yX2_pass cX2_pass 3 (some .int) ∈ q_T := q_Tin 245 rfl rfl
theorem tw_246 : Cond.methodLink RX2 91 yX2_nothingCanPass ∈ q_T := q_Tin 246 (by decide +kernel) (by decide +kernel)
theorem tw_248 : Cond.instanceMethod yX2_nothingCanPass ∈ q_T := q_Tin 248 (by decide +kernel) (by decide +kernel)
set_option maxRecDepth 100000 in
theorem tw_249 : Cond.code yX2_nothingCanPass cX2_nothingCanPass 1 (some .boolean) ∈ q_T := q_Tin 249 rfl rfl
theorem tw_252 : Cond.instanceMethod yX1_letHourPass ∈ q_T := q_Tin 252 (by decide +kernel) (by decide +kernel)
set_option maxRecDepth 100000 in
theorem tw_253 : Cond.code yX1_letHourPass cX1_letHourPass 3 none ∈ q_T := q_Tin 253 rfl rfl
theorem tw_254 : Cond.methodLink RX1 79 yX1_moveWater ∈ q_T := q_Tin 254 (by decide +kernel) (by decide +kernel)
theorem tw_256 : Cond.instanceMethod yX1_moveWater ∈ q_T := q_Tin 256 (by decide +kernel) (by decide +kernel)
set_option maxRecDepth 100000 in
theorem tw_257 : Cond.code yX1_moveWater cX1_moveWater 4 none ∈ q_T := q_Tin 257 rfl rfl
theorem tw_258 : Cond.methodLink RX1 87 yX1_takeRain ∈ q_T := q_Tin 258 (by decide +kernel) (by decide +kernel)
theorem tw_260 : Cond.instanceMethod yX1_takeRain ∈ q_T := q_Tin 260 (by decide +kernel) (by decide +kernel)
set_option maxRecDepth 100000 in
theorem tw_261 : Cond.code yX1_takeRain cX1_takeRain 3 none ∈ q_T := q_Tin 261 rfl rfl
theorem tw_262 : Cond.methodLink RX1 95 yX1_freeRoom ∈ q_T := q_Tin 262 (by decide +kernel) (by decide +kernel)
theorem tw_264 : Cond.instanceMethod yX1_freeRoom ∈ q_T := q_Tin 264 (by decide +kernel) (by decide +kernel)
set_option maxRecDepth 100000 in
theorem tw_265 : Cond.code yX1_freeRoom cX1_freeRoom 2 (some .int) ∈ q_T := q_Tin 265 rfl rfl
theorem tw_266 : Cond.methodLink RX1 67 yX1_has ∈ q_T := q_Tin 266 (by decide +kernel) (by decide +kernel)
theorem tw_267 : Cond.constant RX1 115 (2147483647) ∈ q_T := q_Tin 267 (by decide +kernel) (by decide +kernel)
theorem tw_268 : Cond.methodLink RX1 98 Lib.Math.min.name ∈ q_T := q_Tin 268 (by decide +kernel) (by decide +kernel)
theorem tw_269 : Cond.static Lib.Math.min.name ∈ q_T := q_Tin 269 (by decide +kernel) (by decide +kernel)
set_option maxRecDepth 100000 in
theorem tw_270 : Cond.code Lib.Math.min.name Lib.Math.min.code 2 (some .int) ∈ q_T := q_Tin 270 rfl rfl
theorem tw_271 : Cond.methodLink RX1 91 yX1_crossBorder ∈ q_T := q_Tin 271 (by decide +kernel) (by decide +kernel)
theorem tw_273 : Cond.instanceMethod yX1_crossBorder ∈ q_T := q_Tin 273 (by decide +kernel) (by decide +kernel)
set_option maxRecDepth 100000 in
theorem tw_274 : Cond.code yX1_crossBorder cX1_crossBorder 7 none ∈ q_T := q_Tin 274 rfl rfl
theorem tw_275 : Cond.methodLink RX1 103 yX1_steamResist ∈ q_T := q_Tin 275 (by decide +kernel) (by decide +kernel)
theorem tw_277 : Cond.instanceMethod yX1_steamResist ∈ q_T := q_Tin 277 (by decide +kernel) (by decide +kernel)
set_option maxRecDepth 100000 in
theorem tw_278 : Cond.code yX1_steamResist cX1_steamResist 2 (some .int) ∈ q_T := q_Tin 278 rfl rfl
theorem tw_280 : Cond.static yX2_partCut ∈ q_T := q_Tin 280 (by decide +kernel) (by decide +kernel)
set_option maxRecDepth 100000 in
theorem tw_281 : Cond.code yX2_partCut cX2_partCut 2 (some .int) ∈ q_T := q_Tin 281 rfl rfl
theorem tw_282 : Cond.methodLink RX1 109 yX1_waterToGive ∈ q_T := q_Tin 282 (by decide +kernel) (by decide +kernel)
theorem tw_284 : Cond.instanceMethod yX1_waterToGive ∈ q_T := q_Tin 284 (by decide +kernel) (by decide +kernel)
set_option maxRecDepth 100000 in
theorem tw_285 : Cond.code yX1_waterToGive cX1_waterToGive 2 (some .int) ∈ q_T := q_Tin 285 rfl rfl
theorem tw_286 : Cond.methodLink RX1 112 yX1_addWater ∈ q_T := q_Tin 286 (by decide +kernel) (by decide +kernel)
theorem tw_288 : Cond.instanceMethod yX1_addWater ∈ q_T := q_Tin 288 (by decide +kernel) (by decide +kernel)
set_option maxRecDepth 100000 in
theorem tw_289 : Cond.code yX1_addWater cX1_addWater 3 none ∈ q_T := q_Tin 289 rfl rfl
theorem tw_290 : Cond.methodLink RX1 83 yX1_feelWarmth ∈ q_T := q_Tin 290 (by decide +kernel) (by decide +kernel)
theorem tw_292 : Cond.instanceMethod yX1_feelWarmth ∈ q_T := q_Tin 292 (by decide +kernel) (by decide +kernel)
set_option maxRecDepth 100000 in
theorem tw_293 : Cond.code yX1_feelWarmth cX1_feelWarmth 7 none ∈ q_T := q_Tin 293 rfl rfl
theorem tw_294 : Cond.methodLink RX1 116 yX1_firstLayers ∈ q_T := q_Tin 294 (by decide +kernel) (by decide +kernel)
theorem tw_295 : Cond.static yX1_firstLayers ∈ q_T := q_Tin 295 (by decide +kernel) (by decide +kernel)
set_option maxRecDepth 100000 in
theorem tw_296 : Cond.code yX1_firstLayers cX1_firstLayers 1 (some .int) ∈ q_T := q_Tin 296 rfl rfl
theorem tw_297 : Cond.methodLink RX1 119 yX1_resistOf ∈ q_T := q_Tin 297 (by decide +kernel) (by decide +kernel)
theorem tw_299 : Cond.instanceMethod yX1_resistOf ∈ q_T := q_Tin 299 (by decide +kernel) (by decide +kernel)
set_option maxRecDepth 100000 in
theorem tw_300 : Cond.code yX1_resistOf cX1_resistOf 5 (some .int) ∈ q_T := q_Tin 300 rfl rfl
theorem tw_301 : Cond.methodLink RX1 123 yX1_countFrost ∈ q_T := q_Tin 301 (by decide +kernel) (by decide +kernel)
theorem tw_303 : Cond.instanceMethod yX1_countFrost ∈ q_T := q_Tin 303 (by decide +kernel) (by decide +kernel)
set_option maxRecDepth 100000 in
theorem tw_304 : Cond.code yX1_countFrost cX1_countFrost 2 none ∈ q_T := q_Tin 304 rfl rfl
theorem tw_305 : Cond.methodLink RX1 126 yX1_countMould ∈ q_T := q_Tin 305 (by decide +kernel) (by decide +kernel)
theorem tw_307 : Cond.instanceMethod yX1_countMould ∈ q_T := q_Tin 307 (by decide +kernel) (by decide +kernel)
set_option maxRecDepth 100000 in
theorem tw_308 : Cond.code yX1_countMould cX1_countMould 2 none ∈ q_T := q_Tin 308 rfl rfl
theorem tw_309 : Cond.methodLink RX1 129 Lib.Math.max.name ∈ q_T := q_Tin 309 (by decide +kernel) (by decide +kernel)
theorem tw_310 : Cond.static Lib.Math.max.name ∈ q_T := q_Tin 310 (by decide +kernel) (by decide +kernel)
set_option maxRecDepth 100000 in
theorem tw_311 : Cond.code Lib.Math.max.name Lib.Math.max.code 2 (some .int) ∈ q_T := q_Tin 311 rfl rfl
theorem tw_312 : Cond.methodLink RX2 99 yX2_hourBehind ∈ q_T := q_Tin 312 (by decide +kernel) (by decide +kernel)
theorem tw_314 : Cond.instanceMethod yX2_hourBehind ∈ q_T := q_Tin 314 (by decide +kernel) (by decide +kernel)
set_option maxRecDepth 100000 in
theorem tw_315 : Cond.code yX2_hourBehind cX2_hourBehind 2 (some .int) ∈ q_T := q_Tin 315 rfl rfl
theorem tw_316 : Cond.methodLink RL 55 yX2_steady ∈ q_T := q_Tin 316 (by decide +kernel) (by decide +kernel)
theorem tw_317 : Cond.instanceMethod yX2_steady ∈ q_T := q_Tin 317 (by decide +kernel) (by decide +kernel)
theorem tw_318 : Cond.selects RX2 yX2_steady yX2_steady ∈ q_T := q_Tin 318 (by decide +kernel) (by decide +kernel)
set_option maxRecDepth 100000 in
theorem tw_319 : Cond.code yX2_steady cX2_steady 3 (some .int) ∈ q_T := q_Tin 319 rfl rfl
theorem tw_320 : Cond.methodLink RX2 103 yX2_roundKeepsWater ∈ q_T := q_Tin 320 (by decide +kernel) (by decide +kernel)
theorem tw_322 : Cond.instanceMethod yX2_roundKeepsWater ∈ q_T := q_Tin 322 (by decide +kernel) (by decide +kernel)
set_option maxRecDepth 100000 in
theorem tw_323 : Cond.code yX2_roundKeepsWater cX2_roundKeepsWater 2 (some .boolean) ∈ q_T := q_Tin 323 rfl rfl
theorem tw_326 : Cond.instanceMethod yX1_becomeAs ∈ q_T := q_Tin 326 (by decide +kernel) (by decide +kernel)
set_option maxRecDepth 100000 in
theorem tw_327 : Cond.code yX1_becomeAs cX1_becomeAs 3 none ∈ q_T := q_Tin 327 rfl rfl
theorem tw_328 : Cond.methodLink RX1 60 yX1_copyRow ∈ q_T := q_Tin 328 (by decide +kernel) (by decide +kernel)
theorem tw_329 : Cond.static yX1_copyRow ∈ q_T := q_Tin 329 (by decide +kernel) (by decide +kernel)
set_option maxRecDepth 100000 in
theorem tw_330 : Cond.code yX1_copyRow cX1_copyRow 2 none ∈ q_T := q_Tin 330 rfl rfl
theorem tw_333 : Cond.instanceMethod yX1_holdsSameWaterAs ∈ q_T := q_Tin 333 (by decide +kernel) (by decide +kernel)
set_option maxRecDepth 100000 in
theorem tw_334 : Cond.code yX1_holdsSameWaterAs cX1_holdsSameWaterAs 3 (some .boolean) ∈ q_T := q_Tin 334 rfl rfl
theorem tw_335 : Cond.methodLink RL 59 yX2_sum ∈ q_T := q_Tin 335 (by decide +kernel) (by decide +kernel)
theorem tw_336 : Cond.instanceMethod yX2_sum ∈ q_T := q_Tin 336 (by decide +kernel) (by decide +kernel)
theorem tw_337 : Cond.selects RX2 yX2_sum yX2_sum ∈ q_T := q_Tin 337 (by decide +kernel) (by decide +kernel)
set_option maxRecDepth 100000 in
theorem tw_338 : Cond.code yX2_sum cX2_sum 2 (some .int) ∈ q_T := q_Tin 338 rfl rfl
theorem tw_339 : Cond.constant RX2 106 (-1000000001) ∈ q_T := q_Tin 339 (by decide +kernel) (by decide +kernel)
theorem tw_340 : Cond.methodLink RL 63 yX2_pressure ∈ q_T := q_Tin 340 (by decide +kernel) (by decide +kernel)
theorem tw_341 : Cond.instanceMethod yX2_pressure ∈ q_T := q_Tin 341 (by decide +kernel) (by decide +kernel)
theorem tw_342 : Cond.selects RX2 yX2_pressure yX2_pressure ∈ q_T := q_Tin 342 (by decide +kernel) (by decide +kernel)
set_option maxRecDepth 100000 in
theorem tw_343 : Cond.code yX2_pressure cX2_pressure 4 (some .int) ∈ q_T := q_Tin 343 rfl rfl
theorem tw_344 : Cond.methodLink RX2 107 yX2_faceRefusal ∈ q_T := q_Tin 344 (by decide +kernel) (by decide +kernel)
theorem tw_346 : Cond.instanceMethod yX2_faceRefusal ∈ q_T := q_Tin 346 (by decide +kernel) (by decide +kernel)
set_option maxRecDepth 100000 in
theorem tw_347 : Cond.code yX2_faceRefusal cX2_faceRefusal 4 (some .int) ∈ q_T := q_Tin 347 rfl rfl
theorem tw_348 : Cond.methodLink RX2 117 yX2_hourRefusal ∈ q_T := q_Tin 348 (by decide +kernel) (by decide +kernel)
theorem tw_350 : Cond.instanceMethod yX2_hourRefusal ∈ q_T := q_Tin 350 (by decide +kernel) (by decide +kernel)
set_option maxRecDepth 100000 in
theorem tw_351 : Cond.code yX2_hourRefusal cX2_hourRefusal 2 (some .int) ∈ q_T := q_Tin 351 rfl rfl
theorem tw_354 : Cond.instanceMethod yX0_pressureAt ∈ q_T := q_Tin 354 (by decide +kernel) (by decide +kernel)
set_option maxRecDepth 100000 in
theorem tw_355 : Cond.code yX0_pressureAt cX0_pressureAt 4 (some .int) ∈ q_T := q_Tin 355 rfl rfl
theorem tw_356 : Cond.methodLink RX0 26 yX0_pressureIn ∈ q_T := q_Tin 356 (by decide +kernel) (by decide +kernel)
theorem tw_357 : Cond.static yX0_pressureIn ∈ q_T := q_Tin 357 (by decide +kernel) (by decide +kernel)
set_option maxRecDepth 100000 in
theorem tw_358 : Cond.code yX0_pressureIn cX0_pressureIn 2 (some .int) ∈ q_T := q_Tin 358 rfl rfl
theorem tw_359 : Cond.methodLink RX0 18 yX0_saturation ∈ q_T := q_Tin 359 (by decide +kernel) (by decide +kernel)
theorem tw_360 : Cond.static yX0_saturation ∈ q_T := q_Tin 360 (by decide +kernel) (by decide +kernel)
set_option maxRecDepth 100000 in
theorem tw_361 : Cond.code yX0_saturation cX0_saturation 1 (some .int) ∈ q_T := q_Tin 361 rfl rfl
theorem tw_364 : Cond.methodLink RX0 38 yX0_pressureBehind ∈ q_T := q_Tin 364 (by decide +kernel) (by decide +kernel)
theorem tw_366 : Cond.instanceMethod yX0_pressureBehind ∈ q_T := q_Tin 366 (by decide +kernel) (by decide +kernel)
set_option maxRecDepth 100000 in
theorem tw_367 : Cond.code yX0_pressureBehind cX0_pressureBehind 7 (some .int) ∈ q_T := q_Tin 367 rfl rfl
theorem tw_369 : Cond.methodLink RX0 52 yX0_between ∈ q_T := q_Tin 369 (by decide +kernel) (by decide +kernel)
theorem tw_370 : Cond.static yX0_between ∈ q_T := q_Tin 370 (by decide +kernel) (by decide +kernel)
set_option maxRecDepth 100000 in
theorem tw_371 : Cond.code yX0_between cX0_between 4 (some .int) ∈ q_T := q_Tin 371 rfl rfl
theorem tw_372 : Cond.methodLink RL 67 yX2_warmth ∈ q_T := q_Tin 372 (by decide +kernel) (by decide +kernel)
theorem tw_373 : Cond.instanceMethod yX2_warmth ∈ q_T := q_Tin 373 (by decide +kernel) (by decide +kernel)
theorem tw_374 : Cond.selects RX2 yX2_warmth yX2_warmth ∈ q_T := q_Tin 374 (by decide +kernel) (by decide +kernel)
set_option maxRecDepth 100000 in
theorem tw_375 : Cond.code yX2_warmth cX2_warmth 4 (some .int) ∈ q_T := q_Tin 375 rfl rfl
theorem tw_378 : Cond.instanceMethod yX0_warmthAt ∈ q_T := q_Tin 378 (by decide +kernel) (by decide +kernel)
set_option maxRecDepth 100000 in
theorem tw_379 : Cond.code yX0_warmthAt cX0_warmthAt 4 (some .int) ∈ q_T := q_Tin 379 rfl rfl
theorem tw_380 : Cond.methodLink RX0 42 yX0_warmthBehind ∈ q_T := q_Tin 380 (by decide +kernel) (by decide +kernel)
theorem tw_382 : Cond.instanceMethod yX0_warmthBehind ∈ q_T := q_Tin 382 (by decide +kernel) (by decide +kernel)
set_option maxRecDepth 100000 in
theorem tw_383 : Cond.code yX0_warmthBehind cX0_warmthBehind 5 (some .int) ∈ q_T := q_Tin 383 rfl rfl
theorem tw_384 : Cond.methodLink RL 71 yX2_excess ∈ q_T := q_Tin 384 (by decide +kernel) (by decide +kernel)
theorem tw_385 : Cond.instanceMethod yX2_excess ∈ q_T := q_Tin 385 (by decide +kernel) (by decide +kernel)
theorem tw_386 : Cond.selects RX2 yX2_excess yX2_excess ∈ q_T := q_Tin 386 (by decide +kernel) (by decide +kernel)
set_option maxRecDepth 100000 in
theorem tw_387 : Cond.code yX2_excess cX2_excess 4 (some .int) ∈ q_T := q_Tin 387 rfl rfl
theorem tw_391 : Cond.instanceMethod yX0_excessBehind ∈ q_T := q_Tin 391 (by decide +kernel) (by decide +kernel)
set_option maxRecDepth 100000 in
theorem tw_392 : Cond.code yX0_excessBehind cX0_excessBehind 5 (some .int) ∈ q_T := q_Tin 392 rfl rfl
theorem tw_393 : Cond.methodLink RX0 59 Lib.Math.max.name ∈ q_T := q_Tin 393 (by decide +kernel) (by decide +kernel)
theorem tw_394 : Cond.methodLink RL 75 yX2_best ∈ q_T := q_Tin 394 (by decide +kernel) (by decide +kernel)
theorem tw_395 : Cond.instanceMethod yX2_best ∈ q_T := q_Tin 395 (by decide +kernel) (by decide +kernel)
theorem tw_396 : Cond.selects RX2 yX2_best yX2_best ∈ q_T := q_Tin 396 (by decide +kernel) (by decide +kernel)
set_option maxRecDepth 100000 in
theorem tw_397 : Cond.code yX2_best cX2_best 3 (some .int) ∈ q_T := q_Tin 397 rfl rfl
theorem tw_400 : Cond.instanceMethod yX0_findBestOrder ∈ q_T := q_Tin 400 (by decide +kernel) (by decide +kernel)
set_option maxRecDepth 100000 in
theorem tw_401 : Cond.code yX0_findBestOrder cX0_findBestOrder 6 (some .int) ∈ q_T := q_Tin 401 rfl rfl
theorem tw_402 : Cond.methodLink RX0 64 yX0_weighSets ∈ q_T := q_Tin 402 (by decide +kernel) (by decide +kernel)
theorem tw_404 : Cond.instanceMethod yX0_weighSets ∈ q_T := q_Tin 404 (by decide +kernel) (by decide +kernel)
set_option maxRecDepth 100000 in
theorem tw_405 : Cond.code yX0_weighSets cX0_weighSets 7 none ∈ q_T := q_Tin 405 rfl rfl
theorem tw_406 : Cond.methodLink RX0 68 yX0_bestBehind ∈ q_T := q_Tin 406 (by decide +kernel) (by decide +kernel)
theorem tw_408 : Cond.instanceMethod yX0_bestBehind ∈ q_T := q_Tin 408 (by decide +kernel) (by decide +kernel)
set_option maxRecDepth 100000 in
theorem tw_409 : Cond.code yX0_bestBehind cX0_bestBehind 6 (some .int) ∈ q_T := q_Tin 409 rfl rfl
theorem tw_410 : Cond.methodLink RX0 71 yX0_excessBehind ∈ q_T := q_Tin 410 (by decide +kernel) (by decide +kernel)
theorem tw_411 : Cond.methodLink RL 79 yX2_placed ∈ q_T := q_Tin 411 (by decide +kernel) (by decide +kernel)
theorem tw_412 : Cond.instanceMethod yX2_placed ∈ q_T := q_Tin 412 (by decide +kernel) (by decide +kernel)
theorem tw_413 : Cond.selects RX2 yX2_placed yX2_placed ∈ q_T := q_Tin 413 (by decide +kernel) (by decide +kernel)
set_option maxRecDepth 100000 in
theorem tw_414 : Cond.code yX2_placed cX2_placed 4 (some .int) ∈ q_T := q_Tin 414 rfl rfl
theorem tw_415 : Cond.methodLink RL 83 yX2_arrange ∈ q_T := q_Tin 415 (by decide +kernel) (by decide +kernel)
theorem tw_416 : Cond.instanceMethod yX2_arrange ∈ q_T := q_Tin 416 (by decide +kernel) (by decide +kernel)
theorem tw_417 : Cond.selects RX2 yX2_arrange yX2_arrange ∈ q_T := q_Tin 417 (by decide +kernel) (by decide +kernel)
set_option maxRecDepth 100000 in
theorem tw_418 : Cond.code yX2_arrange cX2_arrange 5 (some .int) ∈ q_T := q_Tin 418 rfl rfl
theorem tw_421 : Cond.instanceMethod yX1_standInOrder ∈ q_T := q_Tin 421 (by decide +kernel) (by decide +kernel)
set_option maxRecDepth 100000 in
theorem tw_422 : Cond.code yX1_standInOrder cX1_standInOrder 2 none ∈ q_T := q_Tin 422 rfl rfl
theorem tw_423 : Cond.methodLink RX1 64 yX1_reorder ∈ q_T := q_Tin 423 (by decide +kernel) (by decide +kernel)
theorem tw_425 : Cond.instanceMethod yX1_reorder ∈ q_T := q_Tin 425 (by decide +kernel) (by decide +kernel)
set_option maxRecDepth 100000 in
theorem tw_426 : Cond.code yX1_reorder cX1_reorder 5 none ∈ q_T := q_Tin 426 rfl rfl
theorem tw_427 : Cond.methodLink RL 87 yX2_read ∈ q_T := q_Tin 427 (by decide +kernel) (by decide +kernel)
theorem tw_428 : Cond.instanceMethod yX2_read ∈ q_T := q_Tin 428 (by decide +kernel) (by decide +kernel)
theorem tw_429 : Cond.selects RX2 yX2_read yX2_read ∈ q_T := q_Tin 429 (by decide +kernel) (by decide +kernel)
set_option maxRecDepth 100000 in
theorem tw_430 : Cond.code yX2_read cX2_read 6 (some .int) ∈ q_T := q_Tin 430 rfl rfl
theorem tw_431 : Cond.methodLink RL 91 yX2_forget ∈ q_T := q_Tin 431 (by decide +kernel) (by decide +kernel)
theorem tw_432 : Cond.instanceMethod yX2_forget ∈ q_T := q_Tin 432 (by decide +kernel) (by decide +kernel)
theorem tw_433 : Cond.selects RX2 yX2_forget yX2_forget ∈ q_T := q_Tin 433 (by decide +kernel) (by decide +kernel)
set_option maxRecDepth 100000 in
theorem tw_434 : Cond.code yX2_forget cX2_forget 2 (some .int) ∈ q_T := q_Tin 434 rfl rfl
theorem tw_435 : Cond.methodLink RL 95 yX2_fits ∈ q_T := q_Tin 435 (by decide +kernel) (by decide +kernel)
theorem tw_436 : Cond.instanceMethod yX2_fits ∈ q_T := q_Tin 436 (by decide +kernel) (by decide +kernel)
theorem tw_437 : Cond.selects RX2 yX2_fits yX2_fits ∈ q_T := q_Tin 437 (by decide +kernel) (by decide +kernel)
set_option maxRecDepth 100000 in
theorem tw_438 : Cond.code yX2_fits cX2_fits 4 (some .int) ∈ q_T := q_Tin 438 rfl rfl
theorem tw_439 : Cond.methodLink RX2 137 yX2_lastHourRead ∈ q_T := q_Tin 439 (by decide +kernel) (by decide +kernel)
theorem tw_441 : Cond.instanceMethod yX2_lastHourRead ∈ q_T := q_Tin 441 (by decide +kernel) (by decide +kernel)
set_option maxRecDepth 100000 in
theorem tw_442 : Cond.code yX2_lastHourRead cX2_lastHourRead 3 (some .int) ∈ q_T := q_Tin 442 rfl rfl
theorem tw_443 : Cond.methodLink RX2 168 Lib.Math.max.name ∈ q_T := q_Tin 443 (by decide +kernel) (by decide +kernel)
theorem tw_444 : Cond.methodLink RX2 141 yX2_readingsHoldWith ∈ q_T := q_Tin 444 (by decide +kernel) (by decide +kernel)
theorem tw_446 : Cond.instanceMethod yX2_readingsHoldWith ∈ q_T := q_Tin 446 (by decide +kernel) (by decide +kernel)
set_option maxRecDepth 100000 in
theorem tw_447 : Cond.code yX2_readingsHoldWith cX2_readingsHoldWith 5 (some .boolean) ∈ q_T := q_Tin 447 rfl rfl
theorem tw_449 : Cond.methodLink RX2 176 yX2_readingsHoldBehind ∈ q_T := q_Tin 449 (by decide +kernel) (by decide +kernel)
theorem tw_451 : Cond.instanceMethod yX2_readingsHoldBehind ∈ q_T := q_Tin 451 (by decide +kernel) (by decide +kernel)
set_option maxRecDepth 100000 in
theorem tw_452 : Cond.code yX2_readingsHoldBehind cX2_readingsHoldBehind 4 (some .boolean) ∈ q_T := q_Tin 452 rfl rfl
theorem tw_454 : Cond.methodLink RL 99 yX2_count ∈ q_T := q_Tin 454 (by decide +kernel) (by decide +kernel)
theorem tw_455 : Cond.instanceMethod yX2_count ∈ q_T := q_Tin 455 (by decide +kernel) (by decide +kernel)
theorem tw_456 : Cond.selects RX2 yX2_count yX2_count ∈ q_T := q_Tin 456 (by decide +kernel) (by decide +kernel)
set_option maxRecDepth 100000 in
theorem tw_457 : Cond.code yX2_count cX2_count 2 (some .int) ∈ q_T := q_Tin 457 rfl rfl
theorem tw_458 : Cond.methodLink RX2 145 yX2_tellCount ∈ q_T := q_Tin 458 (by decide +kernel) (by decide +kernel)
theorem tw_460 : Cond.instanceMethod yX2_tellCount ∈ q_T := q_Tin 460 (by decide +kernel) (by decide +kernel)
set_option maxRecDepth 100000 in
theorem tw_461 : Cond.code yX2_tellCount cX2_tellCount 2 (some .int) ∈ q_T := q_Tin 461 rfl rfl
theorem tw_464 : Cond.instanceMethod yX1_allWater ∈ q_T := q_Tin 464 (by decide +kernel) (by decide +kernel)
set_option maxRecDepth 100000 in
theorem tw_465 : Cond.code yX1_allWater cX1_allWater 3 (some .int) ∈ q_T := q_Tin 465 rfl rfl
theorem tw_466 : Cond.methodLink RL 103 yX2_digest ∈ q_T := q_Tin 466 (by decide +kernel) (by decide +kernel)
theorem tw_467 : Cond.instanceMethod yX2_digest ∈ q_T := q_Tin 467 (by decide +kernel) (by decide +kernel)
theorem tw_468 : Cond.selects RX2 yX2_digest yX2_digest ∈ q_T := q_Tin 468 (by decide +kernel) (by decide +kernel)
set_option maxRecDepth 100000 in
theorem tw_469 : Cond.code yX2_digest cX2_digest 5 (some .long) ∈ q_T := q_Tin 469 rfl rfl
theorem tw_470 : Cond.constantLong RX2 148 (181) ∈ q_T := q_Tin 470 (by decide +kernel) (by decide +kernel)
theorem tw_471 : Cond.methodLink RX2 150 yX2_mixRow ∈ q_T := q_Tin 471 (by decide +kernel) (by decide +kernel)
theorem tw_472 : Cond.static yX2_mixRow ∈ q_T := q_Tin 472 (by decide +kernel) (by decide +kernel)
set_option maxRecDepth 100000 in
theorem tw_473 : Cond.code yX2_mixRow cX2_mixRow 5 (some .long) ∈ q_T := q_Tin 473 rfl rfl
theorem tw_474 : Cond.methodLink RX2 154 yX2_mix ∈ q_T := q_Tin 474 (by decide +kernel) (by decide +kernel)
theorem tw_475 : Cond.static yX2_mix ∈ q_T := q_Tin 475 (by decide +kernel) (by decide +kernel)
set_option maxRecDepth 100000 in
theorem tw_476 : Cond.code yX2_mix cX2_mix 4 (some .long) ∈ q_T := q_Tin 476 rfl rfl
theorem tw_477 : Cond.constantLong RX2 158 (31) ∈ q_T := q_Tin 477 (by decide +kernel) (by decide +kernel)
theorem tw_478 : Cond.classLink RL 10 RX3 ∈ q_T := q_Tin 478 (by decide +kernel) (by decide +kernel)
theorem tw_479 : Cond.instantiable RX3 26 ∈ q_T := q_Tin 479 (by decide +kernel) (by decide +kernel)
theorem tw_480 : Cond.methodLink RL 12 yX3_init ∈ q_T := q_Tin 480 (by decide +kernel) (by decide +kernel)
theorem tw_481 : Cond.instanceMethod yX3_init ∈ q_T := q_Tin 481 (by decide +kernel) (by decide +kernel)
set_option maxRecDepth 100000 in
theorem tw_482 : Cond.code yX3_init cX3_init 2 none ∈ q_T := q_Tin 482 rfl rfl
theorem tw_483 : Cond.methodLink RX3 1 objectInit ∈ q_T := q_Tin 483 (by decide +kernel) (by decide +kernel)
theorem tw_484 : Cond.fieldLink RX3 74 "WetWallsModel" "n" "I" ∈ q_T := q_Tin 484 (by decide +kernel) (by decide +kernel)
theorem tw_485 : Cond.fieldLink RX3 7 "WetWallsModel" "room" "[I" ∈ q_T := q_Tin 485 (by decide +kernel) (by decide +kernel)
theorem tw_486 : Cond.fieldLink RX3 13 "WetWallsModel" "steam" "[I" ∈ q_T := q_Tin 486 (by decide +kernel) (by decide +kernel)
theorem tw_487 : Cond.fieldLink RX3 16 "WetWallsModel" "heat" "[I" ∈ q_T := q_Tin 487 (by decide +kernel) (by decide +kernel)
theorem tw_488 : Cond.fieldLink RX3 19 "WetWallsModel" "curve" "[I" ∈ q_T := q_Tin 488 (by decide +kernel) (by decide +kernel)
theorem tw_489 : Cond.fieldLink RX3 22 "WetWallsModel" "water" "[I" ∈ q_T := q_Tin 489 (by decide +kernel) (by decide +kernel)
theorem tw_490 : Cond.fieldLink RX3 25 "WetWallsModel" "frost" "[I" ∈ q_T := q_Tin 490 (by decide +kernel) (by decide +kernel)
theorem tw_491 : Cond.fieldLink RX3 28 "WetWallsModel" "mould" "[I" ∈ q_T := q_Tin 491 (by decide +kernel) (by decide +kernel)
theorem tw_492 : Cond.fieldLink RX3 31 "WetWallsModel" "warm" "[I" ∈ q_T := q_Tin 492 (by decide +kernel) (by decide +kernel)
theorem tw_493 : Cond.fieldLink RX3 34 "WetWallsModel" "corners" "[I" ∈ q_T := q_Tin 493 (by decide +kernel) (by decide +kernel)
theorem tw_494 : Cond.fieldLink RX3 37 "WetWallsModel" "sums" "[I" ∈ q_T := q_Tin 494 (by decide +kernel) (by decide +kernel)
theorem tw_495 : Cond.fieldLink RX3 108 "WetWallsModel" "hours" "I" ∈ q_T := q_Tin 495 (by decide +kernel) (by decide +kernel)
theorem tw_496 : Cond.fieldLink RX3 111 "WetWallsModel" "next" "I" ∈ q_T := q_Tin 496 (by decide +kernel) (by decide +kernel)
theorem tw_497 : Cond.fieldLink RX3 70 "WetWallsModel" "share" "I" ∈ q_T := q_Tin 497 (by decide +kernel) (by decide +kernel)
theorem tw_498 : Cond.fieldLink RX3 40 "WetWallsModel" "weather" "[I" ∈ q_T := q_Tin 498 (by decide +kernel) (by decide +kernel)
theorem tw_499 : Cond.fieldLink RX3 43 "WetWallsModel" "before" "[I" ∈ q_T := q_Tin 499 (by decide +kernel) (by decide +kernel)
theorem tw_500 : Cond.fieldLink RX3 46 "WetWallsModel" "order" "[I" ∈ q_T := q_Tin 500 (by decide +kernel) (by decide +kernel)
theorem tw_501 : Cond.fieldLink RX3 49 "WetWallsModel" "bestOrder" "[I" ∈ q_T := q_Tin 501 (by decide +kernel) (by decide +kernel)
theorem tw_502 : Cond.fieldLink RX3 52 "WetWallsModel" "aside" "[I" ∈ q_T := q_Tin 502 (by decide +kernel) (by decide +kernel)
theorem tw_503 : Cond.fieldLink RX3 87 "WetWallsModel" "readings" "I" ∈ q_T := q_Tin 503 (by decide +kernel) (by decide +kernel)
theorem tw_504 : Cond.fieldLink RX3 55 "WetWallsModel" "readLayer" "[I" ∈ q_T := q_Tin 504 (by decide +kernel) (by decide +kernel)
theorem tw_505 : Cond.fieldLink RX3 58 "WetWallsModel" "readBehind" "[I" ∈ q_T := q_Tin 505 (by decide +kernel) (by decide +kernel)
theorem tw_506 : Cond.fieldLink RX3 61 "WetWallsModel" "readLow" "[I" ∈ q_T := q_Tin 506 (by decide +kernel) (by decide +kernel)
theorem tw_507 : Cond.fieldLink RX3 64 "WetWallsModel" "readHigh" "[I" ∈ q_T := q_Tin 507 (by decide +kernel) (by decide +kernel)
theorem tw_508 : Cond.fieldLink RX3 178 "WetWallsModel" "fitted" "I" ∈ q_T := q_Tin 508 (by decide +kernel) (by decide +kernel)
theorem tw_509 : Cond.fieldLink RX3 67 "WetWallsModel" "sumsAside" "[I" ∈ q_T := q_Tin 509 (by decide +kernel) (by decide +kernel)
theorem tw_563 : Cond.methodLink RL 17 yX3_layer ∈ q_T := q_Tin 563 (by decide +kernel) (by decide +kernel)
theorem tw_564 : Cond.instanceMethod yX3_layer ∈ q_T := q_Tin 564 (by decide +kernel) (by decide +kernel)
theorem tw_565 : Cond.selects RX3 yX3_layer yX3_layer ∈ q_T := q_Tin 565 (by decide +kernel) (by decide +kernel)
set_option maxRecDepth 100000 in
theorem tw_566 : Cond.code yX3_layer cX3_layer 5 (some .int) ∈ q_T := q_Tin 566 rfl rfl
theorem tw_567 : Cond.constantLong RX3 81 (1000) ∈ q_T := q_Tin 567 (by decide +kernel) (by decide +kernel)
theorem tw_568 : Cond.methodLink RX3 77 yX3_in ∈ q_T := q_Tin 568 (by decide +kernel) (by decide +kernel)
theorem tw_569 : Cond.static yX3_in ∈ q_T := q_Tin 569 (by decide +kernel) (by decide +kernel)
set_option maxRecDepth 100000 in
theorem tw_570 : Cond.code yX3_in cX3_in 6 (some .boolean) ∈ q_T := q_Tin 570 rfl rfl
theorem tw_571 : Cond.constantLong RX3 83 (50) ∈ q_T := q_Tin 571 (by decide +kernel) (by decide +kernel)
theorem tw_572 : Cond.constantLong RX3 85 (2) ∈ q_T := q_Tin 572 (by decide +kernel) (by decide +kernel)
theorem tw_573 : Cond.methodLink RL 22 yX3_clear ∈ q_T := q_Tin 573 (by decide +kernel) (by decide +kernel)
theorem tw_574 : Cond.instanceMethod yX3_clear ∈ q_T := q_Tin 574 (by decide +kernel) (by decide +kernel)
theorem tw_575 : Cond.selects RX3 yX3_clear yX3_clear ∈ q_T := q_Tin 575 (by decide +kernel) (by decide +kernel)
set_option maxRecDepth 100000 in
theorem tw_576 : Cond.code yX3_clear cX3_clear 3 (some .int) ∈ q_T := q_Tin 576 rfl rfl
theorem tw_577 : Cond.methodLink RL 27 yX3_corner ∈ q_T := q_Tin 577 (by decide +kernel) (by decide +kernel)
theorem tw_578 : Cond.instanceMethod yX3_corner ∈ q_T := q_Tin 578 (by decide +kernel) (by decide +kernel)
theorem tw_579 : Cond.selects RX3 yX3_corner yX3_corner ∈ q_T := q_Tin 579 (by decide +kernel) (by decide +kernel)
set_option maxRecDepth 100000 in
theorem tw_580 : Cond.code yX3_corner cX3_corner 6 (some .int) ∈ q_T := q_Tin 580 rfl rfl
theorem tw_581 : Cond.constantLong RX3 90 (4) ∈ q_T := q_Tin 581 (by decide +kernel) (by decide +kernel)
theorem tw_582 : Cond.methodLink RL 32 yX3_water ∈ q_T := q_Tin 582 (by decide +kernel) (by decide +kernel)
theorem tw_583 : Cond.instanceMethod yX3_water ∈ q_T := q_Tin 583 (by decide +kernel) (by decide +kernel)
theorem tw_584 : Cond.selects RX3 yX3_water yX3_water ∈ q_T := q_Tin 584 (by decide +kernel) (by decide +kernel)
set_option maxRecDepth 100000 in
theorem tw_585 : Cond.code yX3_water cX3_water 4 (some .int) ∈ q_T := q_Tin 585 rfl rfl
theorem tw_586 : Cond.methodLink RX3 92 yX3_isLayer ∈ q_T := q_Tin 586 (by decide +kernel) (by decide +kernel)
theorem tw_588 : Cond.instanceMethod yX3_isLayer ∈ q_T := q_Tin 588 (by decide +kernel) (by decide +kernel)
set_option maxRecDepth 100000 in
theorem tw_589 : Cond.code yX3_isLayer cX3_isLayer 2 (some .boolean) ∈ q_T := q_Tin 589 rfl rfl
theorem tw_590 : Cond.methodLink RL 36 yX3_about ∈ q_T := q_Tin 590 (by decide +kernel) (by decide +kernel)
theorem tw_591 : Cond.instanceMethod yX3_about ∈ q_T := q_Tin 591 (by decide +kernel) (by decide +kernel)
theorem tw_592 : Cond.selects RX3 yX3_about yX3_about ∈ q_T := q_Tin 592 (by decide +kernel) (by decide +kernel)
set_option maxRecDepth 100000 in
theorem tw_593 : Cond.code yX3_about cX3_about 3 (some .int) ∈ q_T := q_Tin 593 rfl rfl
theorem tw_594 : Cond.methodLink RX3 100 yX3_aboutOf ∈ q_T := q_Tin 594 (by decide +kernel) (by decide +kernel)
theorem tw_596 : Cond.instanceMethod yX3_aboutOf ∈ q_T := q_Tin 596 (by decide +kernel) (by decide +kernel)
set_option maxRecDepth 100000 in
theorem tw_597 : Cond.code yX3_aboutOf cX3_aboutOf 3 (some .int) ∈ q_T := q_Tin 597 rfl rfl
theorem tw_598 : Cond.methodLink RX3 96 yX3_damp ∈ q_T := q_Tin 598 (by decide +kernel) (by decide +kernel)
theorem tw_600 : Cond.instanceMethod yX3_damp ∈ q_T := q_Tin 600 (by decide +kernel) (by decide +kernel)
set_option maxRecDepth 100000 in
theorem tw_601 : Cond.code yX3_damp cX3_damp 5 (some .int) ∈ q_T := q_Tin 601 rfl rfl
theorem tw_602 : Cond.methodLink RL 41 yX3_hour ∈ q_T := q_Tin 602 (by decide +kernel) (by decide +kernel)
theorem tw_603 : Cond.instanceMethod yX3_hour ∈ q_T := q_Tin 603 (by decide +kernel) (by decide +kernel)
theorem tw_604 : Cond.selects RX3 yX3_hour yX3_hour ∈ q_T := q_Tin 604 (by decide +kernel) (by decide +kernel)
set_option maxRecDepth 100000 in
theorem tw_605 : Cond.code yX3_hour cX3_hour 6 (some .int) ∈ q_T := q_Tin 605 rfl rfl
theorem tw_606 : Cond.constantLong RX3 104 (-30) ∈ q_T := q_Tin 606 (by decide +kernel) (by decide +kernel)
theorem tw_607 : Cond.constantLong RX3 106 (100) ∈ q_T := q_Tin 607 (by decide +kernel) (by decide +kernel)
theorem tw_608 : Cond.methodLink RL 45 yX3_fair ∈ q_T := q_Tin 608 (by decide +kernel) (by decide +kernel)
theorem tw_609 : Cond.instanceMethod yX3_fair ∈ q_T := q_Tin 609 (by decide +kernel) (by decide +kernel)
theorem tw_610 : Cond.selects RX3 yX3_fair yX3_fair ∈ q_T := q_Tin 610 (by decide +kernel) (by decide +kernel)
set_option maxRecDepth 100000 in
theorem tw_611 : Cond.code yX3_fair cX3_fair 2 (some .int) ∈ q_T := q_Tin 611 rfl rfl
theorem tw_612 : Cond.methodLink RL 50 yX3_share ∈ q_T := q_Tin 612 (by decide +kernel) (by decide +kernel)
theorem tw_613 : Cond.instanceMethod yX3_share ∈ q_T := q_Tin 613 (by decide +kernel) (by decide +kernel)
theorem tw_614 : Cond.selects RX3 yX3_share yX3_share ∈ q_T := q_Tin 614 (by decide +kernel) (by decide +kernel)
set_option maxRecDepth 100000 in
theorem tw_615 : Cond.code yX3_share cX3_share 3 (some .int) ∈ q_T := q_Tin 615 rfl rfl
theorem tw_616 : Cond.constantLong RX3 114 (10) ∈ q_T := q_Tin 616 (by decide +kernel) (by decide +kernel)
theorem tw_617 : Cond.methodLink RL 54 yX3_pass ∈ q_T := q_Tin 617 (by decide +kernel) (by decide +kernel)
theorem tw_618 : Cond.instanceMethod yX3_pass ∈ q_T := q_Tin 618 (by decide +kernel) (by decide +kernel)
theorem tw_619 : Cond.selects RX3 yX3_pass yX3_pass ∈ q_T := q_Tin 619 (by decide +kernel) (by decide +kernel)
set_option maxRecDepth 100000 in
theorem tw_620 : Cond.code yX3_pass cX3_pass 3 (some .int) ∈ q_T := q_Tin 620 rfl rfl
theorem tw_621 : Cond.constantLong RX3 126 (240) ∈ q_T := q_Tin 621 (by decide +kernel) (by decide +kernel)
theorem tw_622 : Cond.methodLink RX3 128 yX3_mayGo ∈ q_T := q_Tin 622 (by decide +kernel) (by decide +kernel)
theorem tw_624 : Cond.instanceMethod yX3_mayGo ∈ q_T := q_Tin 624 (by decide +kernel) (by decide +kernel)
set_option maxRecDepth 100000 in
theorem tw_625 : Cond.code yX3_mayGo cX3_mayGo 1 (some .boolean) ∈ q_T := q_Tin 625 rfl rfl
theorem tw_626 : Cond.methodLink RX3 132 yX3_goOn ∈ q_T := q_Tin 626 (by decide +kernel) (by decide +kernel)
theorem tw_628 : Cond.instanceMethod yX3_goOn ∈ q_T := q_Tin 628 (by decide +kernel) (by decide +kernel)
set_option maxRecDepth 100000 in
theorem tw_629 : Cond.code yX3_goOn cX3_goOn 9 none ∈ q_T := q_Tin 629 rfl rfl
theorem tw_630 : Cond.methodLink RX3 116 yX3_cross ∈ q_T := q_Tin 630 (by decide +kernel) (by decide +kernel)
theorem tw_632 : Cond.instanceMethod yX3_cross ∈ q_T := q_Tin 632 (by decide +kernel) (by decide +kernel)
set_option maxRecDepth 100000 in
theorem tw_633 : Cond.code yX3_cross cX3_cross 6 none ∈ q_T := q_Tin 633 rfl rfl
theorem tw_634 : Cond.methodLink RX3 120 yX3_heatOf ∈ q_T := q_Tin 634 (by decide +kernel) (by decide +kernel)
theorem tw_636 : Cond.instanceMethod yX3_heatOf ∈ q_T := q_Tin 636 (by decide +kernel) (by decide +kernel)
set_option maxRecDepth 100000 in
theorem tw_637 : Cond.code yX3_heatOf cX3_heatOf 4 (some .int) ∈ q_T := q_Tin 637 rfl rfl
theorem tw_638 : Cond.methodLink RX3 123 yX3_floor ∈ q_T := q_Tin 638 (by decide +kernel) (by decide +kernel)
theorem tw_639 : Cond.static yX3_floor ∈ q_T := q_Tin 639 (by decide +kernel) (by decide +kernel)
set_option maxRecDepth 100000 in
theorem tw_640 : Cond.code yX3_floor cX3_floor 3 (some .int) ∈ q_T := q_Tin 640 rfl rfl
theorem tw_641 : Cond.methodLink RL 58 yX3_steady ∈ q_T := q_Tin 641 (by decide +kernel) (by decide +kernel)
theorem tw_642 : Cond.instanceMethod yX3_steady ∈ q_T := q_Tin 642 (by decide +kernel) (by decide +kernel)
theorem tw_643 : Cond.selects RX3 yX3_steady yX3_steady ∈ q_T := q_Tin 643 (by decide +kernel) (by decide +kernel)
set_option maxRecDepth 100000 in
theorem tw_644 : Cond.code yX3_steady cX3_steady 5 (some .int) ∈ q_T := q_Tin 644 rfl rfl
theorem tw_645 : Cond.constantLong RX3 135 (60) ∈ q_T := q_Tin 645 (by decide +kernel) (by decide +kernel)
theorem tw_646 : Cond.methodLink RL 62 yX3_sum ∈ q_T := q_Tin 646 (by decide +kernel) (by decide +kernel)
theorem tw_647 : Cond.instanceMethod yX3_sum ∈ q_T := q_Tin 647 (by decide +kernel) (by decide +kernel)
theorem tw_648 : Cond.selects RX3 yX3_sum yX3_sum ∈ q_T := q_Tin 648 (by decide +kernel) (by decide +kernel)
set_option maxRecDepth 100000 in
theorem tw_649 : Cond.code yX3_sum cX3_sum 2 (some .int) ∈ q_T := q_Tin 649 rfl rfl
theorem tw_650 : Cond.constant RX3 137 (-1000000001) ∈ q_T := q_Tin 650 (by decide +kernel) (by decide +kernel)
theorem tw_651 : Cond.methodLink RL 66 yX3_pressure ∈ q_T := q_Tin 651 (by decide +kernel) (by decide +kernel)
theorem tw_652 : Cond.instanceMethod yX3_pressure ∈ q_T := q_Tin 652 (by decide +kernel) (by decide +kernel)
theorem tw_653 : Cond.selects RX3 yX3_pressure yX3_pressure ∈ q_T := q_Tin 653 (by decide +kernel) (by decide +kernel)
set_option maxRecDepth 100000 in
theorem tw_654 : Cond.code yX3_pressure cX3_pressure 4 (some .int) ∈ q_T := q_Tin 654 rfl rfl
theorem tw_655 : Cond.methodLink RX3 154 yX3_refusal ∈ q_T := q_Tin 655 (by decide +kernel) (by decide +kernel)
theorem tw_657 : Cond.instanceMethod yX3_refusal ∈ q_T := q_Tin 657 (by decide +kernel) (by decide +kernel)
set_option maxRecDepth 100000 in
theorem tw_658 : Cond.code yX3_refusal cX3_refusal 2 (some .int) ∈ q_T := q_Tin 658 rfl rfl
theorem tw_659 : Cond.methodLink RX3 151 yX3_isHour ∈ q_T := q_Tin 659 (by decide +kernel) (by decide +kernel)
theorem tw_661 : Cond.instanceMethod yX3_isHour ∈ q_T := q_Tin 661 (by decide +kernel) (by decide +kernel)
set_option maxRecDepth 100000 in
theorem tw_662 : Cond.code yX3_isHour cX3_isHour 2 (some .boolean) ∈ q_T := q_Tin 662 rfl rfl
theorem tw_663 : Cond.methodLink RX3 157 yX3_plain ∈ q_T := q_Tin 663 (by decide +kernel) (by decide +kernel)
theorem tw_665 : Cond.instanceMethod yX3_plain ∈ q_T := q_Tin 665 (by decide +kernel) (by decide +kernel)
set_option maxRecDepth 100000 in
theorem tw_666 : Cond.code yX3_plain cX3_plain 2 none ∈ q_T := q_Tin 666 rfl rfl
theorem tw_667 : Cond.methodLink RX3 145 yX3_pressureOf ∈ q_T := q_Tin 667 (by decide +kernel) (by decide +kernel)
theorem tw_669 : Cond.instanceMethod yX3_pressureOf ∈ q_T := q_Tin 669 (by decide +kernel) (by decide +kernel)
set_option maxRecDepth 100000 in
theorem tw_670 : Cond.code yX3_pressureOf cX3_pressureOf 5 (some .int) ∈ q_T := q_Tin 670 rfl rfl
theorem tw_671 : Cond.methodLink RX3 138 yX3_saturation ∈ q_T := q_Tin 671 (by decide +kernel) (by decide +kernel)
theorem tw_672 : Cond.static yX3_saturation ∈ q_T := q_Tin 672 (by decide +kernel) (by decide +kernel)
set_option maxRecDepth 100000 in
theorem tw_673 : Cond.code yX3_saturation cX3_saturation 1 (some .int) ∈ q_T := q_Tin 673 rfl rfl
theorem tw_674 : Cond.methodLink RX3 141 yX3_between ∈ q_T := q_Tin 674 (by decide +kernel) (by decide +kernel)
theorem tw_676 : Cond.instanceMethod yX3_between ∈ q_T := q_Tin 676 (by decide +kernel) (by decide +kernel)
set_option maxRecDepth 100000 in
theorem tw_677 : Cond.code yX3_between cX3_between 9 (some .int) ∈ q_T := q_Tin 677 rfl rfl
theorem tw_678 : Cond.methodLink RL 70 yX3_warmth ∈ q_T := q_Tin 678 (by decide +kernel) (by decide +kernel)
theorem tw_679 : Cond.instanceMethod yX3_warmth ∈ q_T := q_Tin 679 (by decide +kernel) (by decide +kernel)
theorem tw_680 : Cond.selects RX3 yX3_warmth yX3_warmth ∈ q_T := q_Tin 680 (by decide +kernel) (by decide +kernel)
set_option maxRecDepth 100000 in
theorem tw_681 : Cond.code yX3_warmth cX3_warmth 4 (some .int) ∈ q_T := q_Tin 681 rfl rfl
theorem tw_682 : Cond.methodLink RX3 148 yX3_warmthOf ∈ q_T := q_Tin 682 (by decide +kernel) (by decide +kernel)
theorem tw_684 : Cond.instanceMethod yX3_warmthOf ∈ q_T := q_Tin 684 (by decide +kernel) (by decide +kernel)
set_option maxRecDepth 100000 in
theorem tw_685 : Cond.code yX3_warmthOf cX3_warmthOf 3 (some .int) ∈ q_T := q_Tin 685 rfl rfl
theorem tw_686 : Cond.methodLink RL 74 yX3_excess ∈ q_T := q_Tin 686 (by decide +kernel) (by decide +kernel)
theorem tw_687 : Cond.instanceMethod yX3_excess ∈ q_T := q_Tin 687 (by decide +kernel) (by decide +kernel)
theorem tw_688 : Cond.selects RX3 yX3_excess yX3_excess ∈ q_T := q_Tin 688 (by decide +kernel) (by decide +kernel)
set_option maxRecDepth 100000 in
theorem tw_689 : Cond.code yX3_excess cX3_excess 4 (some .int) ∈ q_T := q_Tin 689 rfl rfl
theorem tw_690 : Cond.methodLink RX3 160 yX3_excessOf ∈ q_T := q_Tin 690 (by decide +kernel) (by decide +kernel)
theorem tw_692 : Cond.instanceMethod yX3_excessOf ∈ q_T := q_Tin 692 (by decide +kernel) (by decide +kernel)
set_option maxRecDepth 100000 in
theorem tw_693 : Cond.code yX3_excessOf cX3_excessOf 4 (some .int) ∈ q_T := q_Tin 693 rfl rfl
theorem tw_694 : Cond.methodLink RL 78 yX3_best ∈ q_T := q_Tin 694 (by decide +kernel) (by decide +kernel)
theorem tw_695 : Cond.instanceMethod yX3_best ∈ q_T := q_Tin 695 (by decide +kernel) (by decide +kernel)
theorem tw_696 : Cond.selects RX3 yX3_best yX3_best ∈ q_T := q_Tin 696 (by decide +kernel) (by decide +kernel)
set_option maxRecDepth 100000 in
theorem tw_697 : Cond.code yX3_best cX3_best 3 (some .int) ∈ q_T := q_Tin 697 rfl rfl
theorem tw_698 : Cond.methodLink RX3 169 yX3_findBest ∈ q_T := q_Tin 698 (by decide +kernel) (by decide +kernel)
theorem tw_700 : Cond.instanceMethod yX3_findBest ∈ q_T := q_Tin 700 (by decide +kernel) (by decide +kernel)
set_option maxRecDepth 100000 in
theorem tw_701 : Cond.code yX3_findBest cX3_findBest 6 (some .int) ∈ q_T := q_Tin 701 rfl rfl
theorem tw_702 : Cond.methodLink RX3 166 yX3_goOnOrder ∈ q_T := q_Tin 702 (by decide +kernel) (by decide +kernel)
theorem tw_704 : Cond.instanceMethod yX3_goOnOrder ∈ q_T := q_Tin 704 (by decide +kernel) (by decide +kernel)
set_option maxRecDepth 100000 in
theorem tw_705 : Cond.code yX3_goOnOrder cX3_goOnOrder 5 (some .boolean) ∈ q_T := q_Tin 705 rfl rfl
theorem tw_706 : Cond.methodLink RX3 163 yX3_swap ∈ q_T := q_Tin 706 (by decide +kernel) (by decide +kernel)
theorem tw_708 : Cond.instanceMethod yX3_swap ∈ q_T := q_Tin 708 (by decide +kernel) (by decide +kernel)
set_option maxRecDepth 100000 in
theorem tw_709 : Cond.code yX3_swap cX3_swap 4 none ∈ q_T := q_Tin 709 rfl rfl
theorem tw_710 : Cond.methodLink RL 82 yX3_placed ∈ q_T := q_Tin 710 (by decide +kernel) (by decide +kernel)
theorem tw_711 : Cond.instanceMethod yX3_placed ∈ q_T := q_Tin 711 (by decide +kernel) (by decide +kernel)
theorem tw_712 : Cond.selects RX3 yX3_placed yX3_placed ∈ q_T := q_Tin 712 (by decide +kernel) (by decide +kernel)
set_option maxRecDepth 100000 in
theorem tw_713 : Cond.code yX3_placed cX3_placed 5 (some .int) ∈ q_T := q_Tin 713 rfl rfl
theorem tw_714 : Cond.methodLink RL 86 yX3_arrange ∈ q_T := q_Tin 714 (by decide +kernel) (by decide +kernel)
theorem tw_715 : Cond.instanceMethod yX3_arrange ∈ q_T := q_Tin 715 (by decide +kernel) (by decide +kernel)
theorem tw_716 : Cond.selects RX3 yX3_arrange yX3_arrange ∈ q_T := q_Tin 716 (by decide +kernel) (by decide +kernel)
set_option maxRecDepth 100000 in
theorem tw_717 : Cond.code yX3_arrange cX3_arrange 6 (some .int) ∈ q_T := q_Tin 717 rfl rfl
theorem tw_718 : Cond.methodLink RX3 172 yX3_layAside ∈ q_T := q_Tin 718 (by decide +kernel) (by decide +kernel)
theorem tw_720 : Cond.instanceMethod yX3_layAside ∈ q_T := q_Tin 720 (by decide +kernel) (by decide +kernel)
set_option maxRecDepth 100000 in
theorem tw_721 : Cond.code yX3_layAside cX3_layAside 2 none ∈ q_T := q_Tin 721 rfl rfl
theorem tw_722 : Cond.methodLink RX3 175 yX3_fetch ∈ q_T := q_Tin 722 (by decide +kernel) (by decide +kernel)
theorem tw_724 : Cond.instanceMethod yX3_fetch ∈ q_T := q_Tin 724 (by decide +kernel) (by decide +kernel)
set_option maxRecDepth 100000 in
theorem tw_725 : Cond.code yX3_fetch cX3_fetch 3 none ∈ q_T := q_Tin 725 rfl rfl
theorem tw_726 : Cond.methodLink RL 90 yX3_read ∈ q_T := q_Tin 726 (by decide +kernel) (by decide +kernel)
theorem tw_727 : Cond.instanceMethod yX3_read ∈ q_T := q_Tin 727 (by decide +kernel) (by decide +kernel)
theorem tw_728 : Cond.selects RX3 yX3_read yX3_read ∈ q_T := q_Tin 728 (by decide +kernel) (by decide +kernel)
set_option maxRecDepth 100000 in
theorem tw_729 : Cond.code yX3_read cX3_read 5 (some .int) ∈ q_T := q_Tin 729 rfl rfl
theorem tw_730 : Cond.methodLink RL 94 yX3_forget ∈ q_T := q_Tin 730 (by decide +kernel) (by decide +kernel)
theorem tw_731 : Cond.instanceMethod yX3_forget ∈ q_T := q_Tin 731 (by decide +kernel) (by decide +kernel)
theorem tw_732 : Cond.selects RX3 yX3_forget yX3_forget ∈ q_T := q_Tin 732 (by decide +kernel) (by decide +kernel)
set_option maxRecDepth 100000 in
theorem tw_733 : Cond.code yX3_forget cX3_forget 2 (some .int) ∈ q_T := q_Tin 733 rfl rfl
theorem tw_734 : Cond.methodLink RL 98 yX3_fits ∈ q_T := q_Tin 734 (by decide +kernel) (by decide +kernel)
theorem tw_735 : Cond.instanceMethod yX3_fits ∈ q_T := q_Tin 735 (by decide +kernel) (by decide +kernel)
theorem tw_736 : Cond.selects RX3 yX3_fits yX3_fits ∈ q_T := q_Tin 736 (by decide +kernel) (by decide +kernel)
set_option maxRecDepth 100000 in
theorem tw_737 : Cond.code yX3_fits cX3_fits 9 (some .int) ∈ q_T := q_Tin 737 rfl rfl
theorem tw_738 : Cond.methodLink RL 102 yX3_count ∈ q_T := q_Tin 738 (by decide +kernel) (by decide +kernel)
theorem tw_739 : Cond.instanceMethod yX3_count ∈ q_T := q_Tin 739 (by decide +kernel) (by decide +kernel)
theorem tw_740 : Cond.selects RX3 yX3_count yX3_count ∈ q_T := q_Tin 740 (by decide +kernel) (by decide +kernel)
set_option maxRecDepth 100000 in
theorem tw_741 : Cond.code yX3_count cX3_count 4 (some .int) ∈ q_T := q_Tin 741 rfl rfl
theorem tw_742 : Cond.methodLink RL 107 yX3_digest ∈ q_T := q_Tin 742 (by decide +kernel) (by decide +kernel)
theorem tw_743 : Cond.instanceMethod yX3_digest ∈ q_T := q_Tin 743 (by decide +kernel) (by decide +kernel)
theorem tw_744 : Cond.selects RX3 yX3_digest yX3_digest ∈ q_T := q_Tin 744 (by decide +kernel) (by decide +kernel)
set_option maxRecDepth 100000 in
theorem tw_745 : Cond.code yX3_digest cX3_digest 5 (some .long) ∈ q_T := q_Tin 745 rfl rfl
theorem tw_746 : Cond.constantLong RX3 181 (181) ∈ q_T := q_Tin 746 (by decide +kernel) (by decide +kernel)
theorem tw_747 : Cond.constantLong RX3 183 (31) ∈ q_T := q_Tin 747 (by decide +kernel) (by decide +kernel)
