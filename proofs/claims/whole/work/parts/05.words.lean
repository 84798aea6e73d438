/-- all good words of the tables: every method's words are its own code, then these -/
def ALL : List Cond := lw_tbl.filter goodWord
theorem all_1 {w : Cond} (h : w ∈ tables_1_1) (g : goodWord w = true) : w ∈ ALL := List.mem_filter.mpr ⟨List.mem_append_right _ (List.mem_append_left _ h), g⟩
theorem all_2 {w : Cond} (h : w ∈ tables_1_2) (g : goodWord w = true) : w ∈ ALL := List.mem_filter.mpr ⟨List.mem_append_right _ (List.mem_append_right _ (List.mem_append_left _ h)), g⟩
theorem all_3 {w : Cond} (h : w ∈ tables_1_3) (g : goodWord w = true) : w ∈ ALL := List.mem_filter.mpr ⟨List.mem_append_right _ (List.mem_append_right _ (List.mem_append_right _ h)), g⟩
theorem all_s {C : String} {x y : MethodName} (h : Cond.selects C x y ∈ k2_sels lw_privs) : Cond.selects C x y ∈ ALL := List.mem_filter.mpr ⟨List.mem_append_left _ h, rfl⟩
theorem all_of (ws : List Cond) (ps : List Nat) (hp : ws = ps.filterMap (fun i => lw_tbl[i]?)) (h : ws.all goodWord = true) : ∀ w ∈ ws, w ∈ ALL := by
  intro w hw
  have h1 := List.all_eq_true.mp h w hw
  rw [hp] at hw
  obtain ⟨i, -, hi⟩ := List.mem_filterMap.mp hw
  exact List.mem_filter.mpr ⟨List.mem_of_getElem? hi, h1⟩
theorem all_tbl {w : Cond} (h : w ∈ ALL) : w ∈ lw_tbl := (List.mem_filter.mp h).1
theorem all_good : GoodIn ALL ALL := fun w h => ⟨h, good_of_word (List.mem_filter.mp h).2⟩
theorem all_goodC {w : Cond} (h : w ∈ ALL) : GoodIn ALL (w :: ALL) := fun x hx => (List.mem_cons.mp hx).elim (fun e => by rw [e]; exact all_good w h) (all_good x)
theorem wI_L : (.initialized RL : Cond) ∈ ALL := all_1 (List.mem_of_getElem? (i := 0) (by decide +kernel)) rfl
theorem wI_X4 : (.initialized RX4 : Cond) ∈ ALL := all_1 (List.mem_of_getElem? (i := 1) (by decide +kernel)) rfl
theorem wI_X2 : (.initialized RX2 : Cond) ∈ ALL := all_1 (List.mem_of_getElem? (i := 2) (by decide +kernel)) rfl
theorem wI_X3 : (.initialized RX3 : Cond) ∈ ALL := all_1 (List.mem_of_getElem? (i := 3) (by decide +kernel)) rfl
theorem wI_X0 : (.initialized RX0 : Cond) ∈ ALL := all_1 (List.mem_of_getElem? (i := 4) (by decide +kernel)) rfl
theorem wI_X1 : (.initialized RX1 : Cond) ∈ ALL := all_1 (List.mem_of_getElem? (i := 5) (by decide +kernel)) rfl
theorem wI_X5 : (.initialized RX5 : Cond) ∈ ALL := all_1 (List.mem_of_getElem? (i := 6) (by decide +kernel)) rfl
theorem wI_J6 : (.initialized RJ6 : Cond) ∈ ALL := all_1 (List.mem_of_getElem? (i := 7) (by decide +kernel)) rfl
theorem wI_J9 : (.initialized RJ9 : Cond) ∈ ALL := all_1 (List.mem_of_getElem? (i := 8) (by decide +kernel)) rfl
theorem wI_Math : (.initialized "java/lang/Math" : Cond) ∈ ALL := all_1 (List.mem_of_getElem? (i := 8) (by decide +kernel)) rfl
theorem wI_Jx00060 : (.initialized RJx00060 : Cond) ∈ ALL := all_1 (List.mem_of_getElem? (i := 13) (by decide +kernel)) rfl
theorem wI_J0 : (.initialized RJ0 : Cond) ∈ ALL := all_1 (List.mem_of_getElem? (i := 14) (by decide +kernel)) rfl
theorem wL_L_8 : (.classLink RL 8 RX4 : Cond) ∈ ALL := all_1 (List.mem_of_getElem? (i := 15) (by decide +kernel)) rfl
theorem wG_X4 : (.instantiable RX4 7 : Cond) ∈ ALL := all_1 (List.mem_of_getElem? (i := 16) (by decide +kernel)) rfl
theorem wM_L_21 : (.methodLink RL 21 yX4_init : Cond) ∈ ALL := all_1 (List.mem_of_getElem? (i := 17) (by decide +kernel)) rfl
theorem wN_yX4_init : (.instanceMethod yX4_init : Cond) ∈ ALL := all_1 (List.mem_of_getElem? (i := 18) (by decide +kernel)) rfl
theorem wC_yX4_init : (.code yX4_init cX4_init 4 none : Cond) ∈ ALL := all_1 (List.mem_of_getElem? (i := 19) (by decide +kernel)) rfl
theorem wM_X4_1 : (.methodLink RX4 1 objectInit : Cond) ∈ ALL := all_1 (List.mem_of_getElem? (i := 20) (by decide +kernel)) rfl
theorem wN_objectInit : (.instanceMethod objectInit : Cond) ∈ ALL := all_1 (List.mem_of_getElem? (i := 21) (by decide +kernel)) rfl
theorem wC_objectInit : (.code objectInit ⟨#[0xb1]⟩ 1 none : Cond) ∈ ALL := all_1 (List.mem_of_getElem? (i := 22) (by decide +kernel)) rfl
theorem wM_X4_7 : (.methodLink RX4 7 yX4_within : Cond) ∈ ALL := all_1 (List.mem_of_getElem? (i := 23) (by decide +kernel)) rfl
theorem wT_yX4_within : (.static yX4_within : Cond) ∈ ALL := all_1 (List.mem_of_getElem? (i := 24) (by decide +kernel)) rfl
theorem wC_yX4_within : (.code yX4_within cX4_within 3 (some .boolean) : Cond) ∈ ALL := all_1 (List.mem_of_getElem? (i := 25) (by decide +kernel)) rfl
theorem wL_X4_20 : (.classLink RX4 20 RX2 : Cond) ∈ ALL := all_1 (List.mem_of_getElem? (i := 26) (by decide +kernel)) rfl
theorem wG_X2 : (.instantiable RX2 12 : Cond) ∈ ALL := all_1 (List.mem_of_getElem? (i := 27) (by decide +kernel)) rfl
theorem wM_X4_22 : (.methodLink RX4 22 yX2_init : Cond) ∈ ALL := all_1 (List.mem_of_getElem? (i := 28) (by decide +kernel)) rfl
theorem wN_yX2_init : (.instanceMethod yX2_init : Cond) ∈ ALL := all_1 (List.mem_of_getElem? (i := 29) (by decide +kernel)) rfl
theorem wC_yX2_init : (.code yX2_init cX2_init 2 none : Cond) ∈ ALL := all_1 (List.mem_of_getElem? (i := 30) (by decide +kernel)) rfl
theorem wM_X2_1 : (.methodLink RX2 1 objectInit : Cond) ∈ ALL := all_1 (List.mem_of_getElem? (i := 31) (by decide +kernel)) rfl
theorem wF_X2_7 : (.fieldLink RX2 7 "FlexCycles$Nodes" "count" "I" : Cond) ∈ ALL := all_1 (List.mem_of_getElem? (i := 32) (by decide +kernel)) rfl
theorem wF_X2_13 : (.fieldLink RX2 13 "FlexCycles$Nodes" "state" "[I" : Cond) ∈ ALL := all_1 (List.mem_of_getElem? (i := 33) (by decide +kernel)) rfl
theorem wF_X2_17 : (.fieldLink RX2 17 "FlexCycles$Nodes" "error" "[I" : Cond) ∈ ALL := all_1 (List.mem_of_getElem? (i := 35) (by decide +kernel)) rfl
theorem wF_X2_20 : (.fieldLink RX2 20 "FlexCycles$Nodes" "drift" "[I" : Cond) ∈ ALL := all_1 (List.mem_of_getElem? (i := 37) (by decide +kernel)) rfl
theorem wF_X2_23 : (.fieldLink RX2 23 "FlexCycles$Nodes" "rate" "[I" : Cond) ∈ ALL := all_1 (List.mem_of_getElem? (i := 39) (by decide +kernel)) rfl
theorem wF_X2_26 : (.fieldLink RX2 26 "FlexCycles$Nodes" "cold" "[Z" : Cond) ∈ ALL := all_1 (List.mem_of_getElem? (i := 41) (by decide +kernel)) rfl
theorem wF_X2_30 : (.fieldLink RX2 30 "FlexCycles$Nodes" "listened" "[I" : Cond) ∈ ALL := all_1 (List.mem_of_getElem? (i := 42) (by decide +kernel)) rfl
theorem wF_X2_33 : (.fieldLink RX2 33 "FlexCycles$Nodes" "heard" "[Z" : Cond) ∈ ALL := all_1 (List.mem_of_getElem? (i := 43) (by decide +kernel)) rfl
theorem wF_X2_36 : (.fieldLink RX2 36 "FlexCycles$Nodes" "newMidpoint" "[I" : Cond) ∈ ALL := all_1 (List.mem_of_getElem? (i := 45) (by decide +kernel)) rfl
theorem wF_X2_39 : (.fieldLink RX2 39 "FlexCycles$Nodes" "lastMidpoint" "[I" : Cond) ∈ ALL := all_1 (List.mem_of_getElem? (i := 46) (by decide +kernel)) rfl
theorem wF_X2_42 : (.fieldLink RX2 42 "FlexCycles$Nodes" "activeBefore" "[Z" : Cond) ∈ ALL := all_1 (List.mem_of_getElem? (i := 48) (by decide +kernel)) rfl
theorem wF_X2_45 : (.fieldLink RX2 45 "FlexCycles$Nodes" "deviations" "[I" : Cond) ∈ ALL := all_1 (List.mem_of_getElem? (i := 49) (by decide +kernel)) rfl
theorem wA_int : (.arrayClass .int : Cond) ∈ ALL := all_1 (List.mem_of_getElem? (i := 75) (by decide +kernel)) rfl
theorem wA_boolean : (.arrayClass .boolean : Cond) ∈ ALL := all_1 (List.mem_of_getElem? (i := 76) (by decide +kernel)) rfl
theorem wL_X4_29 : (.classLink RX4 29 RX3 : Cond) ∈ ALL := all_1 (List.mem_of_getElem? (i := 77) (by decide +kernel)) rfl
theorem wG_X3 : (.instantiable RX3 6 : Cond) ∈ ALL := all_1 (List.mem_of_getElem? (i := 78) (by decide +kernel)) rfl
theorem wN_yX3_init : (.instanceMethod yX3_init : Cond) ∈ ALL := all_1 (List.mem_of_getElem? (i := 80) (by decide +kernel)) rfl
theorem wC_yX3_init : (.code yX3_init cX3_init 1 none : Cond) ∈ ALL := all_1 (List.mem_of_getElem? (i := 81) (by decide +kernel)) rfl
theorem wM_X3_1 : (.methodLink RX3 1 objectInit : Cond) ∈ ALL := all_1 (List.mem_of_getElem? (i := 82) (by decide +kernel)) rfl
theorem wF_X3_9 : (.fieldLink RX3 9 "FlexCycles$StaticFrames" "nodes" "[I" : Cond) ∈ ALL := all_1 (List.mem_of_getElem? (i := 83) (by decide +kernel)) rfl
theorem wF_X3_13 : (.fieldLink RX3 13 "FlexCycles$StaticFrames" "slots" "[I" : Cond) ∈ ALL := all_1 (List.mem_of_getElem? (i := 84) (by decide +kernel)) rfl
theorem wF_X3_16 : (.fieldLink RX3 16 "FlexCycles$StaticFrames" "channels" "[I" : Cond) ∈ ALL := all_1 (List.mem_of_getElem? (i := 85) (by decide +kernel)) rfl
theorem wF_X3_19 : (.fieldLink RX3 19 "FlexCycles$StaticFrames" "bases" "[I" : Cond) ∈ ALL := all_1 (List.mem_of_getElem? (i := 86) (by decide +kernel)) rfl
theorem wF_X3_22 : (.fieldLink RX3 22 "FlexCycles$StaticFrames" "everies" "[I" : Cond) ∈ ALL := all_1 (List.mem_of_getElem? (i := 87) (by decide +kernel)) rfl
theorem wF_X3_25 : (.fieldLink RX3 25 "FlexCycles$StaticFrames" "size" "I" : Cond) ∈ ALL := all_1 (List.mem_of_getElem? (i := 88) (by decide +kernel)) rfl
theorem wL_X4_36 : (.classLink RX4 36 RX0 : Cond) ∈ ALL := all_1 (List.mem_of_getElem? (i := 102) (by decide +kernel)) rfl
theorem wG_X0 : (.instantiable RX0 4 : Cond) ∈ ALL := all_1 (List.mem_of_getElem? (i := 103) (by decide +kernel)) rfl
theorem wN_yX0_init : (.instanceMethod yX0_init : Cond) ∈ ALL := all_1 (List.mem_of_getElem? (i := 105) (by decide +kernel)) rfl
theorem wC_yX0_init : (.code yX0_init cX0_init 1 none : Cond) ∈ ALL := all_1 (List.mem_of_getElem? (i := 106) (by decide +kernel)) rfl
theorem wM_X0_1 : (.methodLink RX0 1 objectInit : Cond) ∈ ALL := all_1 (List.mem_of_getElem? (i := 107) (by decide +kernel)) rfl
theorem wF_X0_9 : (.fieldLink RX0 9 "FlexCycles$DynamicFrames" "nodes" "[I" : Cond) ∈ ALL := all_1 (List.mem_of_getElem? (i := 108) (by decide +kernel)) rfl
theorem wF_X0_13 : (.fieldLink RX0 13 "FlexCycles$DynamicFrames" "identities" "[I" : Cond) ∈ ALL := all_1 (List.mem_of_getElem? (i := 109) (by decide +kernel)) rfl
theorem wF_X0_16 : (.fieldLink RX0 16 "FlexCycles$DynamicFrames" "lengths" "[I" : Cond) ∈ ALL := all_1 (List.mem_of_getElem? (i := 110) (by decide +kernel)) rfl
theorem wF_X0_19 : (.fieldLink RX0 19 "FlexCycles$DynamicFrames" "size" "I" : Cond) ∈ ALL := all_1 (List.mem_of_getElem? (i := 111) (by decide +kernel)) rfl
theorem wL_X4_43 : (.classLink RX4 43 RX1 : Cond) ∈ ALL := all_1 (List.mem_of_getElem? (i := 121) (by decide +kernel)) rfl
theorem wG_X1 : (.instantiable RX1 2 : Cond) ∈ ALL := all_1 (List.mem_of_getElem? (i := 122) (by decide +kernel)) rfl
theorem wM_X4_45 : (.methodLink RX4 45 yX1_init : Cond) ∈ ALL := all_1 (List.mem_of_getElem? (i := 123) (by decide +kernel)) rfl
theorem wN_yX1_init : (.instanceMethod yX1_init : Cond) ∈ ALL := all_1 (List.mem_of_getElem? (i := 124) (by decide +kernel)) rfl
theorem wC_yX1_init : (.code yX1_init cX1_init 2 none : Cond) ∈ ALL := all_1 (List.mem_of_getElem? (i := 125) (by decide +kernel)) rfl
theorem wM_X1_1 : (.methodLink RX1 1 objectInit : Cond) ∈ ALL := all_1 (List.mem_of_getElem? (i := 126) (by decide +kernel)) rfl
theorem wF_X1_7 : (.fieldLink RX1 7 "FlexCycles$Flips" "channels" "[I" : Cond) ∈ ALL := all_1 (List.mem_of_getElem? (i := 127) (by decide +kernel)) rfl
theorem wF_X1_13 : (.fieldLink RX1 13 "FlexCycles$Flips" "size" "I" : Cond) ∈ ALL := all_1 (List.mem_of_getElem? (i := 128) (by decide +kernel)) rfl
theorem wF_X4_13 : (.fieldLink RX4 13 "FlexCycles" "slots" "I" : Cond) ∈ ALL := all_1 (List.mem_of_getElem? (i := 134) (by decide +kernel)) rfl
theorem wF_X4_17 : (.fieldLink RX4 17 "FlexCycles" "minis" "I" : Cond) ∈ ALL := all_1 (List.mem_of_getElem? (i := 135) (by decide +kernel)) rfl
theorem wF_X4_25 : (.fieldLink RX4 25 "FlexCycles" "members" "LFlexCycles$Nodes;" : Cond) ∈ ALL := all_1 (List.mem_of_getElem? (i := 136) (by decide +kernel)) rfl
theorem wF_X4_32 : (.fieldLink RX4 32 "FlexCycles" "statics" "LFlexCycles$StaticFrames;" : Cond) ∈ ALL := all_1 (List.mem_of_getElem? (i := 137) (by decide +kernel)) rfl
theorem wF_X4_39 : (.fieldLink RX4 39 "FlexCycles" "dynamics" "LFlexCycles$DynamicFrames;" : Cond) ∈ ALL := all_1 (List.mem_of_getElem? (i := 138) (by decide +kernel)) rfl
theorem wF_X4_46 : (.fieldLink RX4 46 "FlexCycles" "flips" "LFlexCycles$Flips;" : Cond) ∈ ALL := all_1 (List.mem_of_getElem? (i := 139) (by decide +kernel)) rfl
theorem wF_X4_50 : (.fieldLink RX4 50 "FlexCycles" "count" "I" : Cond) ∈ ALL := all_1 (List.mem_of_getElem? (i := 140) (by decide +kernel)) rfl
theorem wM_L_27 : (.methodLink RL 27 yX4_frame : Cond) ∈ ALL := all_1 (List.mem_of_getElem? (i := 156) (by decide +kernel)) rfl
theorem wN_yX4_frame : (.instanceMethod yX4_frame : Cond) ∈ ALL := all_1 (List.mem_of_getElem? (i := 157) (by decide +kernel)) rfl
theorem wS_yX4_frame : (.selects RX4 yX4_frame yX4_frame : Cond) ∈ ALL := all_1 (List.mem_of_getElem? (i := 158) (by decide +kernel)) rfl
theorem wC_yX4_frame : (.code yX4_frame cX4_frame 6 (some .int) : Cond) ∈ ALL := all_1 (List.mem_of_getElem? (i := 159) (by decide +kernel)) rfl
theorem wM_X4_53 : (.methodLink RX4 53 yX2_has : Cond) ∈ ALL := all_1 (List.mem_of_getElem? (i := 160) (by decide +kernel)) rfl
theorem wN_yX2_has : (.instanceMethod yX2_has : Cond) ∈ ALL := all_1 (List.mem_of_getElem? (i := 161) (by decide +kernel)) rfl
theorem wS_yX2_has : (.selects RX2 yX2_has yX2_has : Cond) ∈ ALL := all_1 (List.mem_of_getElem? (i := 162) (by decide +kernel)) rfl
theorem wC_yX2_has : (.code yX2_has cX2_has 2 (some .boolean) : Cond) ∈ ALL := all_1 (List.mem_of_getElem? (i := 163) (by decide +kernel)) rfl
theorem wM_X4_57 : (.methodLink RX4 57 yX4_hasSlot : Cond) ∈ ALL := all_1 (List.mem_of_getElem? (i := 164) (by decide +kernel)) rfl
theorem wN_yX4_hasSlot : (.instanceMethod yX4_hasSlot : Cond) ∈ ALL := all_1 (List.mem_of_getElem? (i := 166) (by decide +kernel)) rfl
theorem wC_yX4_hasSlot : (.code yX4_hasSlot cX4_hasSlot 2 (some .boolean) : Cond) ∈ ALL := all_1 (List.mem_of_getElem? (i := 167) (by decide +kernel)) rfl
theorem wM_X4_60 : (.methodLink RX4 60 yX3_isEvery : Cond) ∈ ALL := all_1 (List.mem_of_getElem? (i := 168) (by decide +kernel)) rfl
theorem wT_yX3_isEvery : (.static yX3_isEvery : Cond) ∈ ALL := all_1 (List.mem_of_getElem? (i := 169) (by decide +kernel)) rfl
theorem wC_yX3_isEvery : (.code yX3_isEvery cX3_isEvery 1 (some .boolean) : Cond) ∈ ALL := all_1 (List.mem_of_getElem? (i := 170) (by decide +kernel)) rfl
theorem wM_X3_29 : (.methodLink RX3 29 yJ6_bitCount_0f7a4 : Cond) ∈ ALL := all_1 (List.mem_of_getElem? (i := 171) (by decide +kernel)) rfl
theorem wT_yJ6_bitCount_0f7a4 : (.static yJ6_bitCount_0f7a4 : Cond) ∈ ALL := all_1 (List.mem_of_getElem? (i := 172) (by decide +kernel)) rfl
theorem wC_yJ6_bitCount_0f7a4 : (.code yJ6_bitCount_0f7a4 cJ6_bitCount_0f7a4 1 (some .int) : Cond) ∈ ALL := all_1 (List.mem_of_getElem? (i := 173) (by decide +kernel)) rfl
theorem wK_J6_265 : (.constant RJ6 265 (1431655765) : Cond) ∈ ALL := all_1 (List.mem_of_getElem? (i := 174) (by decide +kernel)) rfl
theorem wK_J6_266 : (.constant RJ6 266 (858993459) : Cond) ∈ ALL := all_1 (List.mem_of_getElem? (i := 175) (by decide +kernel)) rfl
theorem wK_J6_267 : (.constant RJ6 267 (252645135) : Cond) ∈ ALL := all_1 (List.mem_of_getElem? (i := 176) (by decide +kernel)) rfl
theorem wM_X4_63 : (.methodLink RX4 63 yX3_clashes : Cond) ∈ ALL := all_1 (List.mem_of_getElem? (i := 177) (by decide +kernel)) rfl
theorem wN_yX3_clashes : (.instanceMethod yX3_clashes : Cond) ∈ ALL := all_1 (List.mem_of_getElem? (i := 178) (by decide +kernel)) rfl
theorem wS_yX3_clashes : (.selects RX3 yX3_clashes yX3_clashes : Cond) ∈ ALL := all_1 (List.mem_of_getElem? (i := 179) (by decide +kernel)) rfl
theorem wC_yX3_clashes : (.code yX3_clashes cX3_clashes 7 (some .boolean) : Cond) ∈ ALL := all_1 (List.mem_of_getElem? (i := 180) (by decide +kernel)) rfl
theorem wM_X3_35 : (.methodLink RX3 35 Lib.Math.min.name : Cond) ∈ ALL := all_1 (List.mem_of_getElem? (i := 181) (by decide +kernel)) rfl
theorem wT_Lib_Math_min_name : (.static Lib.Math.min.name : Cond) ∈ ALL := all_1 (List.mem_of_getElem? (i := 182) (by decide +kernel)) rfl
theorem wC_Lib_Math_min : (.code Lib.Math.min.name Lib.Math.min.code 2 (some .int) : Cond) ∈ ALL := all_1 (List.mem_of_getElem? (i := 183) (by decide +kernel)) rfl
theorem wM_X3_41 : (.methodLink RX3 41 yX3_isOn : Cond) ∈ ALL := all_1 (List.mem_of_getElem? (i := 184) (by decide +kernel)) rfl
theorem wN_yX3_isOn : (.instanceMethod yX3_isOn : Cond) ∈ ALL := all_1 (List.mem_of_getElem? (i := 186) (by decide +kernel)) rfl
theorem wC_yX3_isOn : (.code yX3_isOn cX3_isOn 4 (some .boolean) : Cond) ∈ ALL := all_1 (List.mem_of_getElem? (i := 187) (by decide +kernel)) rfl
theorem wM_X3_45 : (.methodLink RX3 45 yX3_remainder : Cond) ∈ ALL := all_1 (List.mem_of_getElem? (i := 188) (by decide +kernel)) rfl
theorem wT_yX3_remainder : (.static yX3_remainder : Cond) ∈ ALL := all_1 (List.mem_of_getElem? (i := 189) (by decide +kernel)) rfl
theorem wC_yX3_remainder : (.code yX3_remainder cX3_remainder 2 (some .int) : Cond) ∈ ALL := all_1 (List.mem_of_getElem? (i := 190) (by decide +kernel)) rfl
theorem wM_X4_67 : (.methodLink RX4 67 yX3_isFull : Cond) ∈ ALL := all_1 (List.mem_of_getElem? (i := 191) (by decide +kernel)) rfl
theorem wN_yX3_isFull : (.instanceMethod yX3_isFull : Cond) ∈ ALL := all_1 (List.mem_of_getElem? (i := 192) (by decide +kernel)) rfl
theorem wS_yX3_isFull : (.selects RX3 yX3_isFull yX3_isFull : Cond) ∈ ALL := all_1 (List.mem_of_getElem? (i := 193) (by decide +kernel)) rfl
theorem wC_yX3_isFull : (.code yX3_isFull cX3_isFull 1 (some .boolean) : Cond) ∈ ALL := all_1 (List.mem_of_getElem? (i := 194) (by decide +kernel)) rfl
theorem wM_X4_71 : (.methodLink RX4 71 yX3_add : Cond) ∈ ALL := all_1 (List.mem_of_getElem? (i := 195) (by decide +kernel)) rfl
theorem wN_yX3_add : (.instanceMethod yX3_add : Cond) ∈ ALL := all_1 (List.mem_of_getElem? (i := 196) (by decide +kernel)) rfl
theorem wS_yX3_add : (.selects RX3 yX3_add yX3_add : Cond) ∈ ALL := all_1 (List.mem_of_getElem? (i := 197) (by decide +kernel)) rfl
theorem wC_yX3_add : (.code yX3_add cX3_add 6 (some .int) : Cond) ∈ ALL := all_1 (List.mem_of_getElem? (i := 198) (by decide +kernel)) rfl
theorem wM_L_32 : (.methodLink RL 32 yX4_dynamic : Cond) ∈ ALL := all_1 (List.mem_of_getElem? (i := 199) (by decide +kernel)) rfl
theorem wN_yX4_dynamic : (.instanceMethod yX4_dynamic : Cond) ∈ ALL := all_1 (List.mem_of_getElem? (i := 200) (by decide +kernel)) rfl
theorem wS_yX4_dynamic : (.selects RX4 yX4_dynamic yX4_dynamic : Cond) ∈ ALL := all_1 (List.mem_of_getElem? (i := 201) (by decide +kernel)) rfl
theorem wC_yX4_dynamic : (.code yX4_dynamic cX4_dynamic 4 (some .int) : Cond) ∈ ALL := all_1 (List.mem_of_getElem? (i := 202) (by decide +kernel)) rfl
theorem wM_X4_75 : (.methodLink RX4 75 yX0_isFull : Cond) ∈ ALL := all_1 (List.mem_of_getElem? (i := 203) (by decide +kernel)) rfl
theorem wN_yX0_isFull : (.instanceMethod yX0_isFull : Cond) ∈ ALL := all_1 (List.mem_of_getElem? (i := 204) (by decide +kernel)) rfl
theorem wS_yX0_isFull : (.selects RX0 yX0_isFull yX0_isFull : Cond) ∈ ALL := all_1 (List.mem_of_getElem? (i := 205) (by decide +kernel)) rfl
theorem wC_yX0_isFull : (.code yX0_isFull cX0_isFull 1 (some .boolean) : Cond) ∈ ALL := all_1 (List.mem_of_getElem? (i := 206) (by decide +kernel)) rfl
theorem wM_X4_76 : (.methodLink RX4 76 yX0_add : Cond) ∈ ALL := all_1 (List.mem_of_getElem? (i := 207) (by decide +kernel)) rfl
theorem wN_yX0_add : (.instanceMethod yX0_add : Cond) ∈ ALL := all_1 (List.mem_of_getElem? (i := 208) (by decide +kernel)) rfl
theorem wS_yX0_add : (.selects RX0 yX0_add yX0_add : Cond) ∈ ALL := all_1 (List.mem_of_getElem? (i := 209) (by decide +kernel)) rfl
theorem wC_yX0_add : (.code yX0_add cX0_add 4 (some .int) : Cond) ∈ ALL := all_1 (List.mem_of_getElem? (i := 210) (by decide +kernel)) rfl
theorem wM_L_37 : (.methodLink RL 37 yX4_drift : Cond) ∈ ALL := all_1 (List.mem_of_getElem? (i := 211) (by decide +kernel)) rfl
theorem wN_yX4_drift : (.instanceMethod yX4_drift : Cond) ∈ ALL := all_1 (List.mem_of_getElem? (i := 212) (by decide +kernel)) rfl
theorem wS_yX4_drift : (.selects RX4 yX4_drift yX4_drift : Cond) ∈ ALL := all_1 (List.mem_of_getElem? (i := 213) (by decide +kernel)) rfl
theorem wC_yX4_drift : (.code yX4_drift cX4_drift 3 (some .int) : Cond) ∈ ALL := all_1 (List.mem_of_getElem? (i := 214) (by decide +kernel)) rfl
theorem wM_L_41 : (.methodLink RL 41 yX4_run : Cond) ∈ ALL := all_1 (List.mem_of_getElem? (i := 215) (by decide +kernel)) rfl
theorem wN_yX4_run : (.instanceMethod yX4_run : Cond) ∈ ALL := all_1 (List.mem_of_getElem? (i := 216) (by decide +kernel)) rfl
theorem wS_yX4_run : (.selects RX4 yX4_run yX4_run : Cond) ∈ ALL := all_1 (List.mem_of_getElem? (i := 217) (by decide +kernel)) rfl
theorem wC_yX4_run : (.code yX4_run cX4_run 4 (some .int) : Cond) ∈ ALL := all_1 (List.mem_of_getElem? (i := 218) (by decide +kernel)) rfl
theorem wM_X4_83 : (.methodLink RX4 83 yX4_runOne : Cond) ∈ ALL := all_1 (List.mem_of_getElem? (i := 219) (by decide +kernel)) rfl
theorem wN_yX4_runOne : (.instanceMethod yX4_runOne : Cond) ∈ ALL := all_1 (List.mem_of_getElem? (i := 221) (by decide +kernel)) rfl
theorem wC_yX4_runOne : (.code yX4_runOne cX4_runOne 2 (some .int) : Cond) ∈ ALL := all_1 (List.mem_of_getElem? (i := 222) (by decide +kernel)) rfl
theorem wM_X4_121 : (.methodLink RX4 121 yX2_startUp : Cond) ∈ ALL := all_1 (List.mem_of_getElem? (i := 223) (by decide +kernel)) rfl
theorem wN_yX2_startUp : (.instanceMethod yX2_startUp : Cond) ∈ ALL := all_1 (List.mem_of_getElem? (i := 224) (by decide +kernel)) rfl
theorem wS_yX2_startUp : (.selects RX2 yX2_startUp yX2_startUp : Cond) ∈ ALL := all_1 (List.mem_of_getElem? (i := 225) (by decide +kernel)) rfl
theorem wC_yX2_startUp : (.code yX2_startUp cX2_startUp 2 none : Cond) ∈ ALL := all_1 (List.mem_of_getElem? (i := 226) (by decide +kernel)) rfl
theorem wM_X2_62 : (.methodLink RX2 62 yX2_leastActive : Cond) ∈ ALL := all_1 (List.mem_of_getElem? (i := 227) (by decide +kernel)) rfl
theorem wN_yX2_leastActive : (.instanceMethod yX2_leastActive : Cond) ∈ ALL := all_1 (List.mem_of_getElem? (i := 229) (by decide +kernel)) rfl
theorem wC_yX2_leastActive : (.code yX2_leastActive cX2_leastActive 2 (some .int) : Cond) ∈ ALL := all_1 (List.mem_of_getElem? (i := 230) (by decide +kernel)) rfl
theorem wM_X2_48 : (.methodLink RX2 48 yX2_isActive : Cond) ∈ ALL := all_1 (List.mem_of_getElem? (i := 231) (by decide +kernel)) rfl
theorem wN_yX2_isActive : (.instanceMethod yX2_isActive : Cond) ∈ ALL := all_1 (List.mem_of_getElem? (i := 232) (by decide +kernel)) rfl
theorem wS_yX2_isActive : (.selects RX2 yX2_isActive yX2_isActive : Cond) ∈ ALL := all_1 (List.mem_of_getElem? (i := 233) (by decide +kernel)) rfl
theorem wC_yX2_isActive : (.code yX2_isActive cX2_isActive 2 (some .boolean) : Cond) ∈ ALL := all_1 (List.mem_of_getElem? (i := 234) (by decide +kernel)) rfl
theorem wM_X2_66 : (.methodLink RX2 66 yX2_integrate : Cond) ∈ ALL := all_1 (List.mem_of_getElem? (i := 235) (by decide +kernel)) rfl
theorem wN_yX2_integrate : (.instanceMethod yX2_integrate : Cond) ∈ ALL := all_1 (List.mem_of_getElem? (i := 237) (by decide +kernel)) rfl
theorem wC_yX2_integrate : (.code yX2_integrate cX2_integrate 3 none : Cond) ∈ ALL := all_1 (List.mem_of_getElem? (i := 238) (by decide +kernel)) rfl
theorem wM_X2_76 : (.methodLink RX2 76 yX2_listen : Cond) ∈ ALL := all_1 (List.mem_of_getElem? (i := 239) (by decide +kernel)) rfl
theorem wN_yX2_listen : (.instanceMethod yX2_listen : Cond) ∈ ALL := all_2 (List.mem_of_getElem? (i := 1) (by decide +kernel)) rfl
theorem wC_yX2_listen : (.code yX2_listen cX2_listen 3 none : Cond) ∈ ALL := all_2 (List.mem_of_getElem? (i := 2) (by decide +kernel)) rfl
theorem wM_X2_70 : (.methodLink RX2 70 yX2_countStarters : Cond) ∈ ALL := all_2 (List.mem_of_getElem? (i := 3) (by decide +kernel)) rfl
theorem wN_yX2_countStarters : (.instanceMethod yX2_countStarters : Cond) ∈ ALL := all_2 (List.mem_of_getElem? (i := 5) (by decide +kernel)) rfl
theorem wC_yX2_countStarters : (.code yX2_countStarters cX2_countStarters 3 (some .int) : Cond) ∈ ALL := all_2 (List.mem_of_getElem? (i := 6) (by decide +kernel)) rfl
theorem wM_X2_80 : (.methodLink RX2 80 yX2_isStarter : Cond) ∈ ALL := all_2 (List.mem_of_getElem? (i := 7) (by decide +kernel)) rfl
theorem wN_yX2_isStarter : (.instanceMethod yX2_isStarter : Cond) ∈ ALL := all_2 (List.mem_of_getElem? (i := 9) (by decide +kernel)) rfl
theorem wC_yX2_isStarter : (.code yX2_isStarter cX2_isStarter 2 (some .boolean) : Cond) ∈ ALL := all_2 (List.mem_of_getElem? (i := 10) (by decide +kernel)) rfl
theorem wM_X2_73 : (.methodLink RX2 73 yX2_startCold : Cond) ∈ ALL := all_2 (List.mem_of_getElem? (i := 11) (by decide +kernel)) rfl
theorem wN_yX2_startCold : (.instanceMethod yX2_startCold : Cond) ∈ ALL := all_2 (List.mem_of_getElem? (i := 13) (by decide +kernel)) rfl
theorem wC_yX2_startCold : (.code yX2_startCold cX2_startCold 2 none : Cond) ∈ ALL := all_2 (List.mem_of_getElem? (i := 14) (by decide +kernel)) rfl
theorem wM_X4_124 : (.methodLink RX4 124 yX3_send : Cond) ∈ ALL := all_2 (List.mem_of_getElem? (i := 15) (by decide +kernel)) rfl
theorem wN_yX3_send : (.instanceMethod yX3_send : Cond) ∈ ALL := all_2 (List.mem_of_getElem? (i := 16) (by decide +kernel)) rfl
theorem wS_yX3_send : (.selects RX3 yX3_send yX3_send : Cond) ∈ ALL := all_2 (List.mem_of_getElem? (i := 17) (by decide +kernel)) rfl
theorem wC_yX3_send : (.code yX3_send cX3_send 7 (some .int) : Cond) ∈ ALL := all_2 (List.mem_of_getElem? (i := 18) (by decide +kernel)) rfl
theorem wM_X3_52 : (.methodLink RX3 52 yX2_forgetHeard : Cond) ∈ ALL := all_2 (List.mem_of_getElem? (i := 19) (by decide +kernel)) rfl
theorem wN_yX2_forgetHeard : (.instanceMethod yX2_forgetHeard : Cond) ∈ ALL := all_2 (List.mem_of_getElem? (i := 20) (by decide +kernel)) rfl
theorem wS_yX2_forgetHeard : (.selects RX2 yX2_forgetHeard yX2_forgetHeard : Cond) ∈ ALL := all_2 (List.mem_of_getElem? (i := 21) (by decide +kernel)) rfl
theorem wC_yX2_forgetHeard : (.code yX2_forgetHeard cX2_forgetHeard 2 none : Cond) ∈ ALL := all_2 (List.mem_of_getElem? (i := 22) (by decide +kernel)) rfl
theorem wM_X3_57 : (.methodLink RX3 57 yX2_isActive : Cond) ∈ ALL := all_2 (List.mem_of_getElem? (i := 23) (by decide +kernel)) rfl
theorem wM_X3_48 : (.methodLink RX3 48 yX3_isIn : Cond) ∈ ALL := all_2 (List.mem_of_getElem? (i := 24) (by decide +kernel)) rfl
theorem wN_yX3_isIn : (.instanceMethod yX3_isIn : Cond) ∈ ALL := all_2 (List.mem_of_getElem? (i := 26) (by decide +kernel)) rfl
theorem wC_yX3_isIn : (.code yX3_isIn cX3_isIn 3 (some .boolean) : Cond) ∈ ALL := all_2 (List.mem_of_getElem? (i := 27) (by decide +kernel)) rfl
theorem wM_X3_61 : (.methodLink RX3 61 yX1_leavesAny : Cond) ∈ ALL := all_2 (List.mem_of_getElem? (i := 28) (by decide +kernel)) rfl
theorem wN_yX1_leavesAny : (.instanceMethod yX1_leavesAny : Cond) ∈ ALL := all_2 (List.mem_of_getElem? (i := 29) (by decide +kernel)) rfl
theorem wS_yX1_leavesAny : (.selects RX1 yX1_leavesAny yX1_leavesAny : Cond) ∈ ALL := all_2 (List.mem_of_getElem? (i := 30) (by decide +kernel)) rfl
theorem wC_yX1_leavesAny : (.code yX1_leavesAny cX1_leavesAny 3 (some .boolean) : Cond) ∈ ALL := all_2 (List.mem_of_getElem? (i := 31) (by decide +kernel)) rfl
theorem wM_X4_128 : (.methodLink RX4 128 yX0_send : Cond) ∈ ALL := all_2 (List.mem_of_getElem? (i := 32) (by decide +kernel)) rfl
theorem wN_yX0_send : (.instanceMethod yX0_send : Cond) ∈ ALL := all_2 (List.mem_of_getElem? (i := 33) (by decide +kernel)) rfl
theorem wS_yX0_send : (.selects RX0 yX0_send yX0_send : Cond) ∈ ALL := all_2 (List.mem_of_getElem? (i := 34) (by decide +kernel)) rfl
theorem wC_yX0_send : (.code yX0_send cX0_send 7 (some .int) : Cond) ∈ ALL := all_2 (List.mem_of_getElem? (i := 35) (by decide +kernel)) rfl
theorem wM_X0_23 : (.methodLink RX0 23 yX0_firstOf : Cond) ∈ ALL := all_2 (List.mem_of_getElem? (i := 36) (by decide +kernel)) rfl
theorem wN_yX0_firstOf : (.instanceMethod yX0_firstOf : Cond) ∈ ALL := all_2 (List.mem_of_getElem? (i := 38) (by decide +kernel)) rfl
theorem wC_yX0_firstOf : (.code yX0_firstOf cX0_firstOf 4 (some .int) : Cond) ∈ ALL := all_2 (List.mem_of_getElem? (i := 39) (by decide +kernel)) rfl
theorem wM_X0_31 : (.methodLink RX0 31 yX2_isActive : Cond) ∈ ALL := all_2 (List.mem_of_getElem? (i := 40) (by decide +kernel)) rfl
theorem wM_X0_27 : (.methodLink RX0 27 yX0_remove : Cond) ∈ ALL := all_2 (List.mem_of_getElem? (i := 41) (by decide +kernel)) rfl
theorem wN_yX0_remove : (.instanceMethod yX0_remove : Cond) ∈ ALL := all_2 (List.mem_of_getElem? (i := 43) (by decide +kernel)) rfl
theorem wC_yX0_remove : (.code yX0_remove cX0_remove 3 none : Cond) ∈ ALL := all_2 (List.mem_of_getElem? (i := 44) (by decide +kernel)) rfl
theorem wM_X4_131 : (.methodLink RX4 131 yX2_correct : Cond) ∈ ALL := all_2 (List.mem_of_getElem? (i := 45) (by decide +kernel)) rfl
theorem wN_yX2_correct : (.instanceMethod yX2_correct : Cond) ∈ ALL := all_2 (List.mem_of_getElem? (i := 46) (by decide +kernel)) rfl
theorem wS_yX2_correct : (.selects RX2 yX2_correct yX2_correct : Cond) ∈ ALL := all_2 (List.mem_of_getElem? (i := 47) (by decide +kernel)) rfl
theorem wC_yX2_correct : (.code yX2_correct cX2_correct 3 none : Cond) ∈ ALL := all_2 (List.mem_of_getElem? (i := 48) (by decide +kernel)) rfl
theorem wM_X2_83 : (.methodLink RX2 83 yX2_findMidpoint : Cond) ∈ ALL := all_2 (List.mem_of_getElem? (i := 49) (by decide +kernel)) rfl
theorem wN_yX2_findMidpoint : (.instanceMethod yX2_findMidpoint : Cond) ∈ ALL := all_2 (List.mem_of_getElem? (i := 51) (by decide +kernel)) rfl
theorem wC_yX2_findMidpoint : (.code yX2_findMidpoint cX2_findMidpoint 4 (some .int) : Cond) ∈ ALL := all_2 (List.mem_of_getElem? (i := 52) (by decide +kernel)) rfl
theorem wM_X2_91 : (.methodLink RX2 91 yX2_insertDeviation : Cond) ∈ ALL := all_2 (List.mem_of_getElem? (i := 53) (by decide +kernel)) rfl
theorem wN_yX2_insertDeviation : (.instanceMethod yX2_insertDeviation : Cond) ∈ ALL := all_2 (List.mem_of_getElem? (i := 55) (by decide +kernel)) rfl
theorem wC_yX2_insertDeviation : (.code yX2_insertDeviation cX2_insertDeviation 4 none : Cond) ∈ ALL := all_2 (List.mem_of_getElem? (i := 56) (by decide +kernel)) rfl
theorem wM_X2_87 : (.methodLink RX2 87 yX2_apply : Cond) ∈ ALL := all_2 (List.mem_of_getElem? (i := 57) (by decide +kernel)) rfl
theorem wN_yX2_apply : (.instanceMethod yX2_apply : Cond) ∈ ALL := all_2 (List.mem_of_getElem? (i := 59) (by decide +kernel)) rfl
theorem wC_yX2_apply : (.code yX2_apply cX2_apply 5 none : Cond) ∈ ALL := all_2 (List.mem_of_getElem? (i := 60) (by decide +kernel)) rfl
theorem wM_X2_94 : (.methodLink RX2 94 yX2_changeRate : Cond) ∈ ALL := all_2 (List.mem_of_getElem? (i := 61) (by decide +kernel)) rfl
theorem wN_yX2_changeRate : (.instanceMethod yX2_changeRate : Cond) ∈ ALL := all_2 (List.mem_of_getElem? (i := 63) (by decide +kernel)) rfl
theorem wC_yX2_changeRate : (.code yX2_changeRate cX2_changeRate 4 none : Cond) ∈ ALL := all_2 (List.mem_of_getElem? (i := 64) (by decide +kernel)) rfl
theorem wM_X2_97 : (.methodLink RX2 97 Lib.Math.min.name : Cond) ∈ ALL := all_2 (List.mem_of_getElem? (i := 65) (by decide +kernel)) rfl
theorem wM_X2_101 : (.methodLink RX2 101 Lib.Math.max.name : Cond) ∈ ALL := all_2 (List.mem_of_getElem? (i := 66) (by decide +kernel)) rfl
theorem wT_Lib_Math_max_name : (.static Lib.Math.max.name : Cond) ∈ ALL := all_2 (List.mem_of_getElem? (i := 67) (by decide +kernel)) rfl
theorem wC_Lib_Math_max : (.code Lib.Math.max.name Lib.Math.max.code 2 (some .int) : Cond) ∈ ALL := all_2 (List.mem_of_getElem? (i := 68) (by decide +kernel)) rfl
theorem wM_X4_135 : (.methodLink RX4 135 yX2_passTime : Cond) ∈ ALL := all_2 (List.mem_of_getElem? (i := 69) (by decide +kernel)) rfl
theorem wN_yX2_passTime : (.instanceMethod yX2_passTime : Cond) ∈ ALL := all_2 (List.mem_of_getElem? (i := 70) (by decide +kernel)) rfl
theorem wS_yX2_passTime : (.selects RX2 yX2_passTime yX2_passTime : Cond) ∈ ALL := all_2 (List.mem_of_getElem? (i := 71) (by decide +kernel)) rfl
theorem wC_yX2_passTime : (.code yX2_passTime cX2_passTime 2 none : Cond) ∈ ALL := all_2 (List.mem_of_getElem? (i := 72) (by decide +kernel)) rfl
theorem wM_X4_138 : (.methodLink RX4 138 yX1_clear : Cond) ∈ ALL := all_2 (List.mem_of_getElem? (i := 73) (by decide +kernel)) rfl
theorem wN_yX1_clear : (.instanceMethod yX1_clear : Cond) ∈ ALL := all_2 (List.mem_of_getElem? (i := 74) (by decide +kernel)) rfl
theorem wS_yX1_clear : (.selects RX1 yX1_clear yX1_clear : Cond) ∈ ALL := all_2 (List.mem_of_getElem? (i := 75) (by decide +kernel)) rfl
theorem wC_yX1_clear : (.code yX1_clear cX1_clear 2 none : Cond) ∈ ALL := all_2 (List.mem_of_getElem? (i := 76) (by decide +kernel)) rfl
theorem wM_L_46 : (.methodLink RL 46 yX4_state : Cond) ∈ ALL := all_2 (List.mem_of_getElem? (i := 77) (by decide +kernel)) rfl
theorem wN_yX4_state : (.instanceMethod yX4_state : Cond) ∈ ALL := all_2 (List.mem_of_getElem? (i := 78) (by decide +kernel)) rfl
theorem wS_yX4_state : (.selects RX4 yX4_state yX4_state : Cond) ∈ ALL := all_2 (List.mem_of_getElem? (i := 79) (by decide +kernel)) rfl
theorem wC_yX4_state : (.code yX4_state cX4_state 2 (some .int) : Cond) ∈ ALL := all_2 (List.mem_of_getElem? (i := 80) (by decide +kernel)) rfl
theorem wM_L_50 : (.methodLink RL 50 yX4_offset : Cond) ∈ ALL := all_2 (List.mem_of_getElem? (i := 81) (by decide +kernel)) rfl
theorem wN_yX4_offset : (.instanceMethod yX4_offset : Cond) ∈ ALL := all_2 (List.mem_of_getElem? (i := 82) (by decide +kernel)) rfl
theorem wS_yX4_offset : (.selects RX4 yX4_offset yX4_offset : Cond) ∈ ALL := all_2 (List.mem_of_getElem? (i := 83) (by decide +kernel)) rfl
theorem wC_yX4_offset : (.code yX4_offset cX4_offset 2 (some .int) : Cond) ∈ ALL := all_2 (List.mem_of_getElem? (i := 84) (by decide +kernel)) rfl
theorem wM_L_54 : (.methodLink RL 54 yX4_rate : Cond) ∈ ALL := all_2 (List.mem_of_getElem? (i := 85) (by decide +kernel)) rfl
theorem wN_yX4_rate : (.instanceMethod yX4_rate : Cond) ∈ ALL := all_2 (List.mem_of_getElem? (i := 86) (by decide +kernel)) rfl
theorem wS_yX4_rate : (.selects RX4 yX4_rate yX4_rate : Cond) ∈ ALL := all_2 (List.mem_of_getElem? (i := 87) (by decide +kernel)) rfl
theorem wC_yX4_rate : (.code yX4_rate cX4_rate 2 (some .int) : Cond) ∈ ALL := all_2 (List.mem_of_getElem? (i := 88) (by decide +kernel)) rfl
theorem wM_L_66 : (.methodLink RL 66 yX4_cold : Cond) ∈ ALL := all_2 (List.mem_of_getElem? (i := 89) (by decide +kernel)) rfl
theorem wN_yX4_cold : (.instanceMethod yX4_cold : Cond) ∈ ALL := all_2 (List.mem_of_getElem? (i := 90) (by decide +kernel)) rfl
theorem wS_yX4_cold : (.selects RX4 yX4_cold yX4_cold : Cond) ∈ ALL := all_2 (List.mem_of_getElem? (i := 91) (by decide +kernel)) rfl
theorem wC_yX4_cold : (.code yX4_cold cX4_cold 3 (some .int) : Cond) ∈ ALL := all_2 (List.mem_of_getElem? (i := 92) (by decide +kernel)) rfl
theorem wM_X4_102 : (.methodLink RX4 102 yX2_tellCold : Cond) ∈ ALL := all_2 (List.mem_of_getElem? (i := 93) (by decide +kernel)) rfl
theorem wN_yX2_tellCold : (.instanceMethod yX2_tellCold : Cond) ∈ ALL := all_2 (List.mem_of_getElem? (i := 94) (by decide +kernel)) rfl
theorem wS_yX2_tellCold : (.selects RX2 yX2_tellCold yX2_tellCold : Cond) ∈ ALL := all_2 (List.mem_of_getElem? (i := 95) (by decide +kernel)) rfl
theorem wC_yX2_tellCold : (.code yX2_tellCold cX2_tellCold 3 none : Cond) ∈ ALL := all_2 (List.mem_of_getElem? (i := 96) (by decide +kernel)) rfl
theorem wM_X4_106 : (.methodLink RX4 106 yX2_countCold : Cond) ∈ ALL := all_2 (List.mem_of_getElem? (i := 97) (by decide +kernel)) rfl
theorem wN_yX2_countCold : (.instanceMethod yX2_countCold : Cond) ∈ ALL := all_2 (List.mem_of_getElem? (i := 98) (by decide +kernel)) rfl
theorem wS_yX2_countCold : (.selects RX2 yX2_countCold yX2_countCold : Cond) ∈ ALL := all_2 (List.mem_of_getElem? (i := 99) (by decide +kernel)) rfl
theorem wC_yX2_countCold : (.code yX2_countCold cX2_countCold 3 (some .int) : Cond) ∈ ALL := all_2 (List.mem_of_getElem? (i := 100) (by decide +kernel)) rfl
theorem wM_L_71 : (.methodLink RL 71 yX4_flip : Cond) ∈ ALL := all_2 (List.mem_of_getElem? (i := 101) (by decide +kernel)) rfl
theorem wN_yX4_flip : (.instanceMethod yX4_flip : Cond) ∈ ALL := all_2 (List.mem_of_getElem? (i := 102) (by decide +kernel)) rfl
theorem wS_yX4_flip : (.selects RX4 yX4_flip yX4_flip : Cond) ∈ ALL := all_2 (List.mem_of_getElem? (i := 103) (by decide +kernel)) rfl
theorem wC_yX4_flip : (.code yX4_flip cX4_flip 3 (some .int) : Cond) ∈ ALL := all_2 (List.mem_of_getElem? (i := 104) (by decide +kernel)) rfl
theorem wM_X4_109 : (.methodLink RX4 109 yX1_has : Cond) ∈ ALL := all_2 (List.mem_of_getElem? (i := 105) (by decide +kernel)) rfl
theorem wN_yX1_has : (.instanceMethod yX1_has : Cond) ∈ ALL := all_2 (List.mem_of_getElem? (i := 106) (by decide +kernel)) rfl
theorem wS_yX1_has : (.selects RX1 yX1_has yX1_has : Cond) ∈ ALL := all_2 (List.mem_of_getElem? (i := 107) (by decide +kernel)) rfl
theorem wC_yX1_has : (.code yX1_has cX1_has 3 (some .boolean) : Cond) ∈ ALL := all_2 (List.mem_of_getElem? (i := 108) (by decide +kernel)) rfl
theorem wM_X4_112 : (.methodLink RX4 112 yX1_add : Cond) ∈ ALL := all_2 (List.mem_of_getElem? (i := 109) (by decide +kernel)) rfl
theorem wN_yX1_add : (.instanceMethod yX1_add : Cond) ∈ ALL := all_2 (List.mem_of_getElem? (i := 110) (by decide +kernel)) rfl
theorem wS_yX1_add : (.selects RX1 yX1_add yX1_add : Cond) ∈ ALL := all_2 (List.mem_of_getElem? (i := 111) (by decide +kernel)) rfl
theorem wC_yX1_add : (.code yX1_add cX1_add 3 (some .int) : Cond) ∈ ALL := all_2 (List.mem_of_getElem? (i := 112) (by decide +kernel)) rfl
theorem wM_L_75 : (.methodLink RL 75 yX4_close : Cond) ∈ ALL := all_2 (List.mem_of_getElem? (i := 113) (by decide +kernel)) rfl
theorem wN_yX4_close : (.instanceMethod yX4_close : Cond) ∈ ALL := all_2 (List.mem_of_getElem? (i := 114) (by decide +kernel)) rfl
theorem wS_yX4_close : (.selects RX4 yX4_close yX4_close : Cond) ∈ ALL := all_2 (List.mem_of_getElem? (i := 115) (by decide +kernel)) rfl
theorem wC_yX4_close : (.code yX4_close cX4_close 2 (some .boolean) : Cond) ∈ ALL := all_2 (List.mem_of_getElem? (i := 116) (by decide +kernel)) rfl
theorem wM_X4_115 : (.methodLink RX4 115 yX2_areWithin : Cond) ∈ ALL := all_2 (List.mem_of_getElem? (i := 117) (by decide +kernel)) rfl
theorem wN_yX2_areWithin : (.instanceMethod yX2_areWithin : Cond) ∈ ALL := all_2 (List.mem_of_getElem? (i := 118) (by decide +kernel)) rfl
theorem wS_yX2_areWithin : (.selects RX2 yX2_areWithin yX2_areWithin : Cond) ∈ ALL := all_2 (List.mem_of_getElem? (i := 119) (by decide +kernel)) rfl
theorem wC_yX2_areWithin : (.code yX2_areWithin cX2_areWithin 4 (some .boolean) : Cond) ∈ ALL := all_2 (List.mem_of_getElem? (i := 120) (by decide +kernel)) rfl
theorem wM_X2_52 : (.methodLink RX2 52 yX2_distance : Cond) ∈ ALL := all_2 (List.mem_of_getElem? (i := 121) (by decide +kernel)) rfl
theorem wN_yX2_distance : (.instanceMethod yX2_distance : Cond) ∈ ALL := all_2 (List.mem_of_getElem? (i := 123) (by decide +kernel)) rfl
theorem wC_yX2_distance : (.code yX2_distance cX2_distance 3 (some .long) : Cond) ∈ ALL := all_2 (List.mem_of_getElem? (i := 124) (by decide +kernel)) rfl
theorem wM_X2_56 : (.methodLink RX2 56 Lib.MathLoose.abs_long.x : Cond) ∈ ALL := all_2 (List.mem_of_getElem? (i := 125) (by decide +kernel)) rfl
theorem wT_Lib_MathLoose_abs_long_x : (.static Lib.MathLoose.abs_long.x : Cond) ∈ ALL := all_2 (List.mem_of_getElem? (i := 126) (by decide +kernel)) rfl
theorem wC_Lib_MathLoose_abs_long : (.code Lib.MathLoose.abs_long.x Lib.MathLoose.abs_long.code 2 (some .long) : Cond) ∈ ALL := all_2 (List.mem_of_getElem? (i := 127) (by decide +kernel)) rfl
theorem wM_L_80 : (.methodLink RL 80 yX4_midpoint : Cond) ∈ ALL := all_2 (List.mem_of_getElem? (i := 128) (by decide +kernel)) rfl
theorem wN_yX4_midpoint : (.instanceMethod yX4_midpoint : Cond) ∈ ALL := all_2 (List.mem_of_getElem? (i := 129) (by decide +kernel)) rfl
theorem wS_yX4_midpoint : (.selects RX4 yX4_midpoint yX4_midpoint : Cond) ∈ ALL := all_2 (List.mem_of_getElem? (i := 130) (by decide +kernel)) rfl
theorem wC_yX4_midpoint : (.code yX4_midpoint cX4_midpoint 2 (some .int) : Cond) ∈ ALL := all_2 (List.mem_of_getElem? (i := 131) (by decide +kernel)) rfl
theorem wM_L_15 : (.methodLink RL 15 yL_cell : Cond) ∈ ALL := all_2 (List.mem_of_getElem? (i := 132) (by decide +kernel)) rfl
theorem wT_yL_cell : (.static yL_cell : Cond) ∈ ALL := all_2 (List.mem_of_getElem? (i := 133) (by decide +kernel)) rfl
theorem wC_yL_cell : (.code yL_cell cL_cell 2 (some .int) : Cond) ∈ ALL := all_2 (List.mem_of_getElem? (i := 134) (by decide +kernel)) rfl
theorem wM_L_58 : (.methodLink RL 58 yL_place : Cond) ∈ ALL := all_2 (List.mem_of_getElem? (i := 135) (by decide +kernel)) rfl
theorem wT_yL_place : (.static yL_place : Cond) ∈ ALL := all_2 (List.mem_of_getElem? (i := 136) (by decide +kernel)) rfl
theorem wL_L_13 : (.classLink RL 13 RJx00060 : Cond) ∈ ALL := all_2 (List.mem_of_getElem? (i := 138) (by decide +kernel)) rfl
theorem wG_Jx00060 : (.instantiable RJx00060 6 : Cond) ∈ ALL := all_2 (List.mem_of_getElem? (i := 139) (by decide +kernel)) rfl
theorem wN_yJx00060_init_a7421 : (.instanceMethod yJx00060_init_a7421 : Cond) ∈ ALL := all_2 (List.mem_of_getElem? (i := 140) (by decide +kernel)) rfl
theorem wC_yJx00060_init_a7421 : (.code yJx00060_init_a7421 cJx00060_init_a7421 2 none : Cond) ∈ ALL := all_2 (List.mem_of_getElem? (i := 141) (by decide +kernel)) rfl
theorem wG_J0 : (.instantiable RJ0 4 : Cond) ∈ ALL := all_2 (List.mem_of_getElem? (i := 206) (by decide +kernel)) rfl
theorem wA_byte : (.arrayClass .byte : Cond) ∈ ALL := all_2 (List.mem_of_getElem? (i := 207) (by decide +kernel)) rfl
theorem wM_L_7 : (.methodLink RL 7 yX4_place : Cond) ∈ ALL := all_2 (List.mem_of_getElem? (i := 212) (by decide +kernel)) rfl
theorem wN_yX4_place : (.instanceMethod yX4_place : Cond) ∈ ALL := all_2 (List.mem_of_getElem? (i := 213) (by decide +kernel)) rfl
theorem wS_yX4_place : (.selects RX4 yX4_place yX4_place : Cond) ∈ ALL := all_2 (List.mem_of_getElem? (i := 214) (by decide +kernel)) rfl
theorem wC_yX4_place : (.code yX4_place cX4_place 4 (some .int) : Cond) ∈ ALL := all_2 (List.mem_of_getElem? (i := 215) (by decide +kernel)) rfl
theorem wL_X4_96 : (.classLink RX4 96 RJx00060 : Cond) ∈ ALL := all_2 (List.mem_of_getElem? (i := 216) (by decide +kernel)) rfl
theorem wM_X4_98 : (.methodLink RX4 98 yJx00060_init_da8c8 : Cond) ∈ ALL := all_2 (List.mem_of_getElem? (i := 217) (by decide +kernel)) rfl
theorem wN_yJx00060_init_da8c8 : (.instanceMethod yJx00060_init_da8c8 : Cond) ∈ ALL := all_2 (List.mem_of_getElem? (i := 218) (by decide +kernel)) rfl
theorem wC_yJx00060_init_da8c8 : (.code yJx00060_init_da8c8 cJx00060_init_da8c8 1 none : Cond) ∈ ALL := all_2 (List.mem_of_getElem? (i := 219) (by decide +kernel)) rfl
theorem wM_X4_99 : (.methodLink RX4 99 yX3_nodeAt : Cond) ∈ ALL := all_2 (List.mem_of_getElem? (i := 230) (by decide +kernel)) rfl
theorem wN_yX3_nodeAt : (.instanceMethod yX3_nodeAt : Cond) ∈ ALL := all_2 (List.mem_of_getElem? (i := 231) (by decide +kernel)) rfl
theorem wS_yX3_nodeAt : (.selects RX3 yX3_nodeAt yX3_nodeAt : Cond) ∈ ALL := all_2 (List.mem_of_getElem? (i := 232) (by decide +kernel)) rfl
theorem wC_yX3_nodeAt : (.code yX3_nodeAt cX3_nodeAt 5 (some .int) : Cond) ∈ ALL := all_2 (List.mem_of_getElem? (i := 233) (by decide +kernel)) rfl
theorem wL_L_24 : (.classLink RL 24 RX5 : Cond) ∈ ALL := all_2 (List.mem_of_getElem? (i := 234) (by decide +kernel)) rfl
theorem wG_X5 : (.instantiable RX5 27 : Cond) ∈ ALL := all_2 (List.mem_of_getElem? (i := 235) (by decide +kernel)) rfl
theorem wM_L_26 : (.methodLink RL 26 yX5_init : Cond) ∈ ALL := all_2 (List.mem_of_getElem? (i := 236) (by decide +kernel)) rfl
theorem wN_yX5_init : (.instanceMethod yX5_init : Cond) ∈ ALL := all_2 (List.mem_of_getElem? (i := 237) (by decide +kernel)) rfl
theorem wC_yX5_init : (.code yX5_init cX5_init 5 none : Cond) ∈ ALL := all_2 (List.mem_of_getElem? (i := 238) (by decide +kernel)) rfl
theorem wM_X5_1 : (.methodLink RX5 1 objectInit : Cond) ∈ ALL := all_2 (List.mem_of_getElem? (i := 239) (by decide +kernel)) rfl
theorem wF_X5_81 : (.fieldLink RX5 81 "FlexCyclesModel" "thrown" "I" : Cond) ∈ ALL := all_3 (List.mem_of_getElem? (i := 0) (by decide +kernel)) rfl
theorem wF_X5_71 : (.fieldLink RX5 71 "FlexCyclesModel" "nodes" "I" : Cond) ∈ ALL := all_3 (List.mem_of_getElem? (i := 1) (by decide +kernel)) rfl
theorem wF_X5_75 : (.fieldLink RX5 75 "FlexCyclesModel" "slots" "I" : Cond) ∈ ALL := all_3 (List.mem_of_getElem? (i := 2) (by decide +kernel)) rfl
theorem wF_X5_78 : (.fieldLink RX5 78 "FlexCyclesModel" "minis" "I" : Cond) ∈ ALL := all_3 (List.mem_of_getElem? (i := 3) (by decide +kernel)) rfl
theorem wF_X5_7 : (.fieldLink RX5 7 "FlexCyclesModel" "state" "[I" : Cond) ∈ ALL := all_3 (List.mem_of_getElem? (i := 4) (by decide +kernel)) rfl
theorem wF_X5_13 : (.fieldLink RX5 13 "FlexCyclesModel" "isCold" "[Z" : Cond) ∈ ALL := all_3 (List.mem_of_getElem? (i := 5) (by decide +kernel)) rfl
theorem wF_X5_17 : (.fieldLink RX5 17 "FlexCyclesModel" "error" "[I" : Cond) ∈ ALL := all_3 (List.mem_of_getElem? (i := 6) (by decide +kernel)) rfl
theorem wF_X5_20 : (.fieldLink RX5 20 "FlexCyclesModel" "drift" "[I" : Cond) ∈ ALL := all_3 (List.mem_of_getElem? (i := 7) (by decide +kernel)) rfl
theorem wF_X5_23 : (.fieldLink RX5 23 "FlexCyclesModel" "rate" "[I" : Cond) ∈ ALL := all_3 (List.mem_of_getElem? (i := 8) (by decide +kernel)) rfl
theorem wF_X5_26 : (.fieldLink RX5 26 "FlexCyclesModel" "middle" "[I" : Cond) ∈ ALL := all_3 (List.mem_of_getElem? (i := 9) (by decide +kernel)) rfl
theorem wF_X5_29 : (.fieldLink RX5 29 "FlexCyclesModel" "middleCycle" "[I" : Cond) ∈ ALL := all_3 (List.mem_of_getElem? (i := 10) (by decide +kernel)) rfl
theorem wF_X5_32 : (.fieldLink RX5 32 "FlexCyclesModel" "waited" "[I" : Cond) ∈ ALL := all_3 (List.mem_of_getElem? (i := 11) (by decide +kernel)) rfl
theorem wF_X5_35 : (.fieldLink RX5 35 "FlexCyclesModel" "wasDone" "[Z" : Cond) ∈ ALL := all_3 (List.mem_of_getElem? (i := 12) (by decide +kernel)) rfl
theorem wF_X5_38 : (.fieldLink RX5 38 "FlexCyclesModel" "now" "[I" : Cond) ∈ ALL := all_3 (List.mem_of_getElem? (i := 13) (by decide +kernel)) rfl
theorem wF_X5_41 : (.fieldLink RX5 41 "FlexCyclesModel" "apart" "[I" : Cond) ∈ ALL := all_3 (List.mem_of_getElem? (i := 14) (by decide +kernel)) rfl
theorem wF_X5_91 : (.fieldLink RX5 91 "FlexCyclesModel" "frames" "I" : Cond) ∈ ALL := all_3 (List.mem_of_getElem? (i := 15) (by decide +kernel)) rfl
theorem wF_X5_44 : (.fieldLink RX5 44 "FlexCyclesModel" "frameNode" "[I" : Cond) ∈ ALL := all_3 (List.mem_of_getElem? (i := 16) (by decide +kernel)) rfl
theorem wF_X5_47 : (.fieldLink RX5 47 "FlexCyclesModel" "frameSlot" "[I" : Cond) ∈ ALL := all_3 (List.mem_of_getElem? (i := 17) (by decide +kernel)) rfl
theorem wF_X5_50 : (.fieldLink RX5 50 "FlexCyclesModel" "frameChannels" "[I" : Cond) ∈ ALL := all_3 (List.mem_of_getElem? (i := 18) (by decide +kernel)) rfl
theorem wF_X5_53 : (.fieldLink RX5 53 "FlexCyclesModel" "frameBase" "[I" : Cond) ∈ ALL := all_3 (List.mem_of_getElem? (i := 19) (by decide +kernel)) rfl
theorem wF_X5_56 : (.fieldLink RX5 56 "FlexCyclesModel" "frameEvery" "[I" : Cond) ∈ ALL := all_3 (List.mem_of_getElem? (i := 20) (by decide +kernel)) rfl
theorem wF_X5_94 : (.fieldLink RX5 94 "FlexCyclesModel" "waiting" "I" : Cond) ∈ ALL := all_3 (List.mem_of_getElem? (i := 21) (by decide +kernel)) rfl
theorem wF_X5_59 : (.fieldLink RX5 59 "FlexCyclesModel" "waitNode" "[I" : Cond) ∈ ALL := all_3 (List.mem_of_getElem? (i := 22) (by decide +kernel)) rfl
theorem wF_X5_62 : (.fieldLink RX5 62 "FlexCyclesModel" "waitNumber" "[I" : Cond) ∈ ALL := all_3 (List.mem_of_getElem? (i := 23) (by decide +kernel)) rfl
theorem wF_X5_65 : (.fieldLink RX5 65 "FlexCyclesModel" "waitLength" "[I" : Cond) ∈ ALL := all_3 (List.mem_of_getElem? (i := 24) (by decide +kernel)) rfl
theorem wF_X5_68 : (.fieldLink RX5 68 "FlexCyclesModel" "flips" "[I" : Cond) ∈ ALL := all_3 (List.mem_of_getElem? (i := 25) (by decide +kernel)) rfl
theorem wF_X5_97 : (.fieldLink RX5 97 "FlexCyclesModel" "cycle" "I" : Cond) ∈ ALL := all_3 (List.mem_of_getElem? (i := 26) (by decide +kernel)) rfl
theorem wM_L_62 : (.methodLink RL 62 yX5_thrown : Cond) ∈ ALL := all_3 (List.mem_of_getElem? (i := 82) (by decide +kernel)) rfl
theorem wN_yX5_thrown : (.instanceMethod yX5_thrown : Cond) ∈ ALL := all_3 (List.mem_of_getElem? (i := 83) (by decide +kernel)) rfl
theorem wS_yX5_thrown : (.selects RX5 yX5_thrown yX5_thrown : Cond) ∈ ALL := all_3 (List.mem_of_getElem? (i := 84) (by decide +kernel)) rfl
theorem wC_yX5_thrown : (.code yX5_thrown cX5_thrown 1 (some .int) : Cond) ∈ ALL := all_3 (List.mem_of_getElem? (i := 85) (by decide +kernel)) rfl
theorem wM_L_31 : (.methodLink RL 31 yX5_frame : Cond) ∈ ALL := all_3 (List.mem_of_getElem? (i := 86) (by decide +kernel)) rfl
theorem wN_yX5_frame : (.instanceMethod yX5_frame : Cond) ∈ ALL := all_3 (List.mem_of_getElem? (i := 87) (by decide +kernel)) rfl
theorem wS_yX5_frame : (.selects RX5 yX5_frame yX5_frame : Cond) ∈ ALL := all_3 (List.mem_of_getElem? (i := 88) (by decide +kernel)) rfl
theorem wC_yX5_frame : (.code yX5_frame cX5_frame 9 (some .int) : Cond) ∈ ALL := all_3 (List.mem_of_getElem? (i := 89) (by decide +kernel)) rfl
theorem wM_X5_84 : (.methodLink RX5 84 yX5_isNode : Cond) ∈ ALL := all_3 (List.mem_of_getElem? (i := 90) (by decide +kernel)) rfl
theorem wN_yX5_isNode : (.instanceMethod yX5_isNode : Cond) ∈ ALL := all_3 (List.mem_of_getElem? (i := 92) (by decide +kernel)) rfl
theorem wC_yX5_isNode : (.code yX5_isNode cX5_isNode 2 (some .boolean) : Cond) ∈ ALL := all_3 (List.mem_of_getElem? (i := 93) (by decide +kernel)) rfl
theorem wM_X5_88 : (.methodLink RX5 88 yX5_isSlot : Cond) ∈ ALL := all_3 (List.mem_of_getElem? (i := 94) (by decide +kernel)) rfl
theorem wN_yX5_isSlot : (.instanceMethod yX5_isSlot : Cond) ∈ ALL := all_3 (List.mem_of_getElem? (i := 96) (by decide +kernel)) rfl
theorem wC_yX5_isSlot : (.code yX5_isSlot cX5_isSlot 2 (some .boolean) : Cond) ∈ ALL := all_3 (List.mem_of_getElem? (i := 97) (by decide +kernel)) rfl
theorem wM_L_36 : (.methodLink RL 36 yX5_dynamic : Cond) ∈ ALL := all_3 (List.mem_of_getElem? (i := 98) (by decide +kernel)) rfl
theorem wN_yX5_dynamic : (.instanceMethod yX5_dynamic : Cond) ∈ ALL := all_3 (List.mem_of_getElem? (i := 99) (by decide +kernel)) rfl
theorem wS_yX5_dynamic : (.selects RX5 yX5_dynamic yX5_dynamic : Cond) ∈ ALL := all_3 (List.mem_of_getElem? (i := 100) (by decide +kernel)) rfl
theorem wC_yX5_dynamic : (.code yX5_dynamic cX5_dynamic 4 (some .int) : Cond) ∈ ALL := all_3 (List.mem_of_getElem? (i := 101) (by decide +kernel)) rfl
theorem wM_L_40 : (.methodLink RL 40 yX5_drift : Cond) ∈ ALL := all_3 (List.mem_of_getElem? (i := 102) (by decide +kernel)) rfl
theorem wN_yX5_drift : (.instanceMethod yX5_drift : Cond) ∈ ALL := all_3 (List.mem_of_getElem? (i := 103) (by decide +kernel)) rfl
theorem wS_yX5_drift : (.selects RX5 yX5_drift yX5_drift : Cond) ∈ ALL := all_3 (List.mem_of_getElem? (i := 104) (by decide +kernel)) rfl
theorem wC_yX5_drift : (.code yX5_drift cX5_drift 3 (some .int) : Cond) ∈ ALL := all_3 (List.mem_of_getElem? (i := 105) (by decide +kernel)) rfl
theorem wM_L_45 : (.methodLink RL 45 yX5_run : Cond) ∈ ALL := all_3 (List.mem_of_getElem? (i := 106) (by decide +kernel)) rfl
theorem wN_yX5_run : (.instanceMethod yX5_run : Cond) ∈ ALL := all_3 (List.mem_of_getElem? (i := 107) (by decide +kernel)) rfl
theorem wS_yX5_run : (.selects RX5 yX5_run yX5_run : Cond) ∈ ALL := all_3 (List.mem_of_getElem? (i := 108) (by decide +kernel)) rfl
theorem wC_yX5_run : (.code yX5_run cX5_run 5 (some .int) : Cond) ∈ ALL := all_3 (List.mem_of_getElem? (i := 109) (by decide +kernel)) rfl
theorem wM_X5_107 : (.methodLink RX5 107 yX5_startUp : Cond) ∈ ALL := all_3 (List.mem_of_getElem? (i := 110) (by decide +kernel)) rfl
theorem wN_yX5_startUp : (.instanceMethod yX5_startUp : Cond) ∈ ALL := all_3 (List.mem_of_getElem? (i := 112) (by decide +kernel)) rfl
theorem wC_yX5_startUp : (.code yX5_startUp cX5_startUp 5 none : Cond) ∈ ALL := all_3 (List.mem_of_getElem? (i := 113) (by decide +kernel)) rfl
theorem wM_X5_110 : (.methodLink RX5 110 yX5_sendStatic : Cond) ∈ ALL := all_3 (List.mem_of_getElem? (i := 114) (by decide +kernel)) rfl
theorem wN_yX5_sendStatic : (.instanceMethod yX5_sendStatic : Cond) ∈ ALL := all_3 (List.mem_of_getElem? (i := 116) (by decide +kernel)) rfl
theorem wC_yX5_sendStatic : (.code yX5_sendStatic cX5_sendStatic 5 (some .int) : Cond) ∈ ALL := all_3 (List.mem_of_getElem? (i := 117) (by decide +kernel)) rfl
theorem wM_X5_114 : (.methodLink RX5 114 yX5_sendDynamic : Cond) ∈ ALL := all_3 (List.mem_of_getElem? (i := 118) (by decide +kernel)) rfl
theorem wN_yX5_sendDynamic : (.instanceMethod yX5_sendDynamic : Cond) ∈ ALL := all_3 (List.mem_of_getElem? (i := 120) (by decide +kernel)) rfl
theorem wC_yX5_sendDynamic : (.code yX5_sendDynamic cX5_sendDynamic 6 (some .int) : Cond) ∈ ALL := all_3 (List.mem_of_getElem? (i := 121) (by decide +kernel)) rfl
theorem wM_X5_100 : (.methodLink RX5 100 yX5_waitingOne : Cond) ∈ ALL := all_3 (List.mem_of_getElem? (i := 122) (by decide +kernel)) rfl
theorem wN_yX5_waitingOne : (.instanceMethod yX5_waitingOne : Cond) ∈ ALL := all_3 (List.mem_of_getElem? (i := 124) (by decide +kernel)) rfl
theorem wC_yX5_waitingOne : (.code yX5_waitingOne cX5_waitingOne 3 (some .int) : Cond) ∈ ALL := all_3 (List.mem_of_getElem? (i := 125) (by decide +kernel)) rfl
theorem wM_X5_117 : (.methodLink RX5 117 yX5_correct : Cond) ∈ ALL := all_3 (List.mem_of_getElem? (i := 126) (by decide +kernel)) rfl
theorem wN_yX5_correct : (.instanceMethod yX5_correct : Cond) ∈ ALL := all_3 (List.mem_of_getElem? (i := 128) (by decide +kernel)) rfl
theorem wC_yX5_correct : (.code yX5_correct cX5_correct 3 none : Cond) ∈ ALL := all_3 (List.mem_of_getElem? (i := 129) (by decide +kernel)) rfl
theorem wM_X5_104 : (.methodLink RX5 104 yX5_midpointOf : Cond) ∈ ALL := all_3 (List.mem_of_getElem? (i := 130) (by decide +kernel)) rfl
theorem wN_yX5_midpointOf : (.instanceMethod yX5_midpointOf : Cond) ∈ ALL := all_3 (List.mem_of_getElem? (i := 132) (by decide +kernel)) rfl
theorem wC_yX5_midpointOf : (.code yX5_midpointOf cX5_midpointOf 6 (some .int) : Cond) ∈ ALL := all_3 (List.mem_of_getElem? (i := 133) (by decide +kernel)) rfl
theorem wM_L_49 : (.methodLink RL 49 yX5_state : Cond) ∈ ALL := all_3 (List.mem_of_getElem? (i := 134) (by decide +kernel)) rfl
theorem wN_yX5_state : (.instanceMethod yX5_state : Cond) ∈ ALL := all_3 (List.mem_of_getElem? (i := 135) (by decide +kernel)) rfl
theorem wS_yX5_state : (.selects RX5 yX5_state yX5_state : Cond) ∈ ALL := all_3 (List.mem_of_getElem? (i := 136) (by decide +kernel)) rfl
theorem wC_yX5_state : (.code yX5_state cX5_state 2 (some .int) : Cond) ∈ ALL := all_3 (List.mem_of_getElem? (i := 137) (by decide +kernel)) rfl
theorem wM_L_53 : (.methodLink RL 53 yX5_offset : Cond) ∈ ALL := all_3 (List.mem_of_getElem? (i := 138) (by decide +kernel)) rfl
theorem wN_yX5_offset : (.instanceMethod yX5_offset : Cond) ∈ ALL := all_3 (List.mem_of_getElem? (i := 139) (by decide +kernel)) rfl
theorem wS_yX5_offset : (.selects RX5 yX5_offset yX5_offset : Cond) ∈ ALL := all_3 (List.mem_of_getElem? (i := 140) (by decide +kernel)) rfl
theorem wC_yX5_offset : (.code yX5_offset cX5_offset 2 (some .int) : Cond) ∈ ALL := all_3 (List.mem_of_getElem? (i := 141) (by decide +kernel)) rfl
theorem wM_L_57 : (.methodLink RL 57 yX5_rate : Cond) ∈ ALL := all_3 (List.mem_of_getElem? (i := 142) (by decide +kernel)) rfl
theorem wN_yX5_rate : (.instanceMethod yX5_rate : Cond) ∈ ALL := all_3 (List.mem_of_getElem? (i := 143) (by decide +kernel)) rfl
theorem wS_yX5_rate : (.selects RX5 yX5_rate yX5_rate : Cond) ∈ ALL := all_3 (List.mem_of_getElem? (i := 144) (by decide +kernel)) rfl
theorem wC_yX5_rate : (.code yX5_rate cX5_rate 2 (some .int) : Cond) ∈ ALL := all_3 (List.mem_of_getElem? (i := 145) (by decide +kernel)) rfl
theorem wM_L_61 : (.methodLink RL 61 yX5_place : Cond) ∈ ALL := all_3 (List.mem_of_getElem? (i := 146) (by decide +kernel)) rfl
theorem wN_yX5_place : (.instanceMethod yX5_place : Cond) ∈ ALL := all_3 (List.mem_of_getElem? (i := 147) (by decide +kernel)) rfl
theorem wS_yX5_place : (.selects RX5 yX5_place yX5_place : Cond) ∈ ALL := all_3 (List.mem_of_getElem? (i := 148) (by decide +kernel)) rfl
theorem wC_yX5_place : (.code yX5_place cX5_place 7 (some .int) : Cond) ∈ ALL := all_3 (List.mem_of_getElem? (i := 149) (by decide +kernel)) rfl
theorem wM_L_70 : (.methodLink RL 70 yX5_cold : Cond) ∈ ALL := all_3 (List.mem_of_getElem? (i := 150) (by decide +kernel)) rfl
theorem wN_yX5_cold : (.instanceMethod yX5_cold : Cond) ∈ ALL := all_3 (List.mem_of_getElem? (i := 151) (by decide +kernel)) rfl
theorem wS_yX5_cold : (.selects RX5 yX5_cold yX5_cold : Cond) ∈ ALL := all_3 (List.mem_of_getElem? (i := 152) (by decide +kernel)) rfl
theorem wC_yX5_cold : (.code yX5_cold cX5_cold 5 (some .int) : Cond) ∈ ALL := all_3 (List.mem_of_getElem? (i := 153) (by decide +kernel)) rfl
theorem wM_L_74 : (.methodLink RL 74 yX5_flip : Cond) ∈ ALL := all_3 (List.mem_of_getElem? (i := 154) (by decide +kernel)) rfl
theorem wN_yX5_flip : (.instanceMethod yX5_flip : Cond) ∈ ALL := all_3 (List.mem_of_getElem? (i := 155) (by decide +kernel)) rfl
theorem wS_yX5_flip : (.selects RX5 yX5_flip yX5_flip : Cond) ∈ ALL := all_3 (List.mem_of_getElem? (i := 156) (by decide +kernel)) rfl
theorem wC_yX5_flip : (.code yX5_flip cX5_flip 5 (some .int) : Cond) ∈ ALL := all_3 (List.mem_of_getElem? (i := 157) (by decide +kernel)) rfl
theorem wM_L_79 : (.methodLink RL 79 yX5_close : Cond) ∈ ALL := all_3 (List.mem_of_getElem? (i := 158) (by decide +kernel)) rfl
theorem wN_yX5_close : (.instanceMethod yX5_close : Cond) ∈ ALL := all_3 (List.mem_of_getElem? (i := 159) (by decide +kernel)) rfl
theorem wS_yX5_close : (.selects RX5 yX5_close yX5_close : Cond) ∈ ALL := all_3 (List.mem_of_getElem? (i := 160) (by decide +kernel)) rfl
theorem wC_yX5_close : (.code yX5_close cX5_close 7 (some .boolean) : Cond) ∈ ALL := all_3 (List.mem_of_getElem? (i := 161) (by decide +kernel)) rfl
theorem wM_L_83 : (.methodLink RL 83 yX5_midpoint : Cond) ∈ ALL := all_3 (List.mem_of_getElem? (i := 162) (by decide +kernel)) rfl
theorem wN_yX5_midpoint : (.instanceMethod yX5_midpoint : Cond) ∈ ALL := all_3 (List.mem_of_getElem? (i := 163) (by decide +kernel)) rfl
theorem wS_yX5_midpoint : (.selects RX5 yX5_midpoint yX5_midpoint : Cond) ∈ ALL := all_3 (List.mem_of_getElem? (i := 164) (by decide +kernel)) rfl
theorem wC_yX5_midpoint : (.code yX5_midpoint cX5_midpoint 2 (some .int) : Cond) ∈ ALL := all_3 (List.mem_of_getElem? (i := 165) (by decide +kernel)) rfl
theorem wA_long : (.arrayClass .long : Cond) ∈ ALL := all_3 (List.mem_of_getElem? (i := 166) (by decide +kernel)) rfl
theorem wS_yX4_hasSlot : (.selects RX4 yX4_hasSlot yX4_hasSlot : Cond) ∈ ALL := all_s (List.mem_of_getElem? (i := 0) (by decide +kernel))
theorem wS_yX3_isOn : (.selects RX3 yX3_isOn yX3_isOn : Cond) ∈ ALL := all_s (List.mem_of_getElem? (i := 1) (by decide +kernel))
theorem wS_yX4_runOne : (.selects RX4 yX4_runOne yX4_runOne : Cond) ∈ ALL := all_s (List.mem_of_getElem? (i := 2) (by decide +kernel))
theorem wS_yX2_leastActive : (.selects RX2 yX2_leastActive yX2_leastActive : Cond) ∈ ALL := all_s (List.mem_of_getElem? (i := 3) (by decide +kernel))
theorem wS_yX2_integrate : (.selects RX2 yX2_integrate yX2_integrate : Cond) ∈ ALL := all_s (List.mem_of_getElem? (i := 4) (by decide +kernel))
theorem wS_yX2_listen : (.selects RX2 yX2_listen yX2_listen : Cond) ∈ ALL := all_s (List.mem_of_getElem? (i := 5) (by decide +kernel))
theorem wS_yX2_countStarters : (.selects RX2 yX2_countStarters yX2_countStarters : Cond) ∈ ALL := all_s (List.mem_of_getElem? (i := 6) (by decide +kernel))
theorem wS_yX2_isStarter : (.selects RX2 yX2_isStarter yX2_isStarter : Cond) ∈ ALL := all_s (List.mem_of_getElem? (i := 7) (by decide +kernel))
theorem wS_yX2_startCold : (.selects RX2 yX2_startCold yX2_startCold : Cond) ∈ ALL := all_s (List.mem_of_getElem? (i := 8) (by decide +kernel))
theorem wS_yX3_isIn : (.selects RX3 yX3_isIn yX3_isIn : Cond) ∈ ALL := all_s (List.mem_of_getElem? (i := 9) (by decide +kernel))
theorem wS_yX0_firstOf : (.selects RX0 yX0_firstOf yX0_firstOf : Cond) ∈ ALL := all_s (List.mem_of_getElem? (i := 10) (by decide +kernel))
theorem wS_yX0_remove : (.selects RX0 yX0_remove yX0_remove : Cond) ∈ ALL := all_s (List.mem_of_getElem? (i := 11) (by decide +kernel))
theorem wS_yX2_findMidpoint : (.selects RX2 yX2_findMidpoint yX2_findMidpoint : Cond) ∈ ALL := all_s (List.mem_of_getElem? (i := 12) (by decide +kernel))
theorem wS_yX2_insertDeviation : (.selects RX2 yX2_insertDeviation yX2_insertDeviation : Cond) ∈ ALL := all_s (List.mem_of_getElem? (i := 13) (by decide +kernel))
theorem wS_yX2_apply : (.selects RX2 yX2_apply yX2_apply : Cond) ∈ ALL := all_s (List.mem_of_getElem? (i := 14) (by decide +kernel))
theorem wS_yX2_changeRate : (.selects RX2 yX2_changeRate yX2_changeRate : Cond) ∈ ALL := all_s (List.mem_of_getElem? (i := 15) (by decide +kernel))
theorem wS_yX2_distance : (.selects RX2 yX2_distance yX2_distance : Cond) ∈ ALL := all_s (List.mem_of_getElem? (i := 16) (by decide +kernel))
theorem wS_yX5_isNode : (.selects RX5 yX5_isNode yX5_isNode : Cond) ∈ ALL := all_s (List.mem_of_getElem? (i := 18) (by decide +kernel))
theorem wS_yX5_isSlot : (.selects RX5 yX5_isSlot yX5_isSlot : Cond) ∈ ALL := all_s (List.mem_of_getElem? (i := 19) (by decide +kernel))
theorem wS_yX5_startUp : (.selects RX5 yX5_startUp yX5_startUp : Cond) ∈ ALL := all_s (List.mem_of_getElem? (i := 20) (by decide +kernel))
theorem wS_yX5_sendStatic : (.selects RX5 yX5_sendStatic yX5_sendStatic : Cond) ∈ ALL := all_s (List.mem_of_getElem? (i := 21) (by decide +kernel))
theorem wS_yX5_sendDynamic : (.selects RX5 yX5_sendDynamic yX5_sendDynamic : Cond) ∈ ALL := all_s (List.mem_of_getElem? (i := 22) (by decide +kernel))
theorem wS_yX5_waitingOne : (.selects RX5 yX5_waitingOne yX5_waitingOne : Cond) ∈ ALL := all_s (List.mem_of_getElem? (i := 23) (by decide +kernel))
theorem wS_yX5_correct : (.selects RX5 yX5_correct yX5_correct : Cond) ∈ ALL := all_s (List.mem_of_getElem? (i := 24) (by decide +kernel))
theorem wS_yX5_midpointOf : (.selects RX5 yX5_midpointOf yX5_midpointOf : Cond) ∈ ALL := all_s (List.mem_of_getElem? (i := 25) (by decide +kernel))
theorem inX0 : ∀ w ∈ wsX00, w ∈ ALL := all_of _ [138, 140, 142, 144] (by decide +kernel) (by decide +kernel)
theorem inX1 : ∀ w ∈ wsX10, w ∈ ALL := all_of _ [155, 157] (by decide +kernel) (by decide +kernel)
theorem inX2 : ∀ w ∈ wsX20, w ∈ ALL := all_of _ [76, 78, 80, 82, 84, 86, 88, 90, 92, 94, 96, 98] (by decide +kernel) (by decide +kernel)
theorem inX3 : ∀ w ∈ wsX30, w ∈ ALL := all_of _ [115, 117, 119, 121, 123, 125] (by decide +kernel) (by decide +kernel)
theorem inX4 : ∀ w ∈ wsX40, w ∈ ALL := all_of _ [167, 169, 171, 173, 175, 177, 179] (by decide +kernel) (by decide +kernel)
theorem inX5 : ∀ w ∈ wsX50, w ∈ ALL := all_of _ [533, 535, 537, 539, 541, 543, 545, 547, 549, 551, 553, 555, 557, 559, 561, 563, 565, 567, 569, 571, 573, 575, 577, 579, 581, 583, 585] (by decide +kernel) (by decide +kernel)
theorem inJx00060 : ∀ w ∈ wsJx000600, w ∈ ALL := all_of _ [440, 442, 444, 446, 448, 450] (by decide +kernel) (by decide +kernel)
theorem inJ0 : ∀ w ∈ wsJ00, w ∈ ALL := all_of _ [474, 476] (by decide +kernel) (by decide +kernel)
theorem wC_yL_place : (.codeWith yL_place cL_place 5 (some .int) [(0, 10, 13, 13)] : Cond) ∈ ALL := all_2 (List.mem_of_getElem? (i := 137) (by decide +kernel)) rfl
def upX : List String := ["java/lang/IndexOutOfBoundsException", "java/lang/RuntimeException", "java/lang/Exception"]
theorem inThr : ∀ w ∈ (vx_at0 RX4 98 RJx00060 upX).filter goodWord, w ∈ ALL := all_of _ [35, 469, 426, 429, 432, 434, 470, 471, 47, 48, 420, 425, 430, 437, 463, 438, 464, 439, 465, 421, 423, 466, 484, 485, 486, 487, 487, 488, 489, 490, 490, 491, 492, 493, 493, 494, 495, 470, 483, 405, 462, 428, 444, 446, 450, 442, 435, 467, 440] (by decide +kernel) (by decide +kernel)
