theorem ite01 (P : Prop) [Decidable P] : (if P then (1 : Int32) else 0) = 0 ∨ (if P then (1 : Int32) else 0) = 1 := by by_cases h : P <;> simp [h]
section KP
variable {p : Program} {l : Launch} {e : Env} {R : Room} {s : State} {m : MethodId} {args : Array Value} {below : List Frame} {meth : Method} {c : Code} {H : Heap} {locs : List Loc} {cells slots : Nat} {Q : State → Prop}
variable {cc : ByteArray} {pc : Nat} {ls : Array Slot} {rest : List Value}
theorem k_ifne_P {P : Prop} [Decidable P] (hx : p.tables.exec = Jvm.exec) (hb : c.code = cc) {x : Int32} (h : x = if P then 1 else 0) {off : Int} {tgt : Nat} (hdg : decode cc pc = .ok (.ifCond .ne off, 3)) (ht : (pc : Int) + off = (tgt : Int))
    (kt : P → W p l e R s m args below meth c H locs cells slots Q (F0 m tgt ls rest)) (kf : ¬ P → W p l e R s m args below meth c H locs cells slots Q (F0 m (pc + 3) ls rest)) : W p l e R s m args below meth c H locs cells slots Q (F0 m pc ls (.int x :: rest)) := by
  by_cases hp : P
  · rw [if_pos hp] at h; subst h
    exact lv_if_ne hx hb hdg ht (fun _ => kt hp) (fun z => absurd z (by decide))
  · rw [if_neg hp] at h; subst h
    exact lv_if_ne hx hb hdg ht (fun z => absurd rfl z) (fun _ => kf hp)
theorem k_ifeq_P {P : Prop} [Decidable P] (hx : p.tables.exec = Jvm.exec) (hb : c.code = cc) {x : Int32} (h : x = if P then 1 else 0) {off : Int} {tgt : Nat} (hdg : decode cc pc = .ok (.ifCond .eq off, 3)) (ht : (pc : Int) + off = (tgt : Int))
    (kt : ¬ P → W p l e R s m args below meth c H locs cells slots Q (F0 m tgt ls rest)) (kf : P → W p l e R s m args below meth c H locs cells slots Q (F0 m (pc + 3) ls rest)) : W p l e R s m args below meth c H locs cells slots Q (F0 m pc ls (.int x :: rest)) := by
  by_cases hp : P
  · rw [if_pos hp] at h; subst h
    exact lv_if_eq hx hb hdg ht (fun z => absurd z (by decide)) (fun _ => kf hp)
  · rw [if_neg hp] at h; subst h
    exact lv_if_eq hx hb hdg ht (fun _ => kt hp) (fun z => absurd rfl z)
end KP
/-- a number between two natural ones -/
abbrev inR (x : Int32) (lo hi : Nat) : Prop := (lo : Int) ≤ x.toInt ∧ x.toInt ≤ (hi : Int)
theorem inR_of {x : Int32} {lo hi : Nat} (h : inR x lo hi) : ∃ j : Nat, lo ≤ j ∧ j ≤ hi ∧ x = nI j := by
  obtain ⟨h1, h2⟩ := h
  have h0 : ¬ x < 0 := fun z => by
    have := Int32.lt_iff_toInt_lt.mp z
    simp at this
    omega
  obtain ⟨j, hj, rfl⟩ := nI_of h0
  rw [nI_toInt hj] at h1 h2
  exact ⟨j, by omega, by omega, rfl⟩
theorem inR_nI {j lo hi : Nat} (hj : j < 2147483648) : inR (nI j) lo hi ↔ lo ≤ j ∧ j ≤ hi := by
  unfold inR
  rw [nI_toInt hj]
  omega
theorem cf_yX4_init : CfI yX4_init cX4_init 4 3 := ⟨⟨wN_yX4_init, wI_X4, wC_yX4_init, rfl⟩, by decide +kernel, by decide +kernel, by decide +kernel⟩
theorem cf_yX4_within : CfS yX4_within cX4_within 3 (some .boolean) 3 := ⟨⟨wT_yX4_within, wI_X4, wC_yX4_within⟩, by decide +kernel, by decide +kernel, by decide +kernel⟩
theorem cf_yX2_init : CfI yX2_init cX2_init 2 1 := ⟨⟨wN_yX2_init, wI_X2, wC_yX2_init, rfl⟩, by decide +kernel, by decide +kernel, by decide +kernel⟩
theorem cf_yX3_init : CfI yX3_init cX3_init 1 0 := ⟨⟨wN_yX3_init, wI_X3, wC_yX3_init, rfl⟩, by decide +kernel, by decide +kernel, by decide +kernel⟩
theorem cf_yX0_init : CfI yX0_init cX0_init 1 0 := ⟨⟨wN_yX0_init, wI_X0, wC_yX0_init, rfl⟩, by decide +kernel, by decide +kernel, by decide +kernel⟩
theorem cf_yX1_init : CfI yX1_init cX1_init 2 1 := ⟨⟨wN_yX1_init, wI_X1, wC_yX1_init, rfl⟩, by decide +kernel, by decide +kernel, by decide +kernel⟩
theorem cf_yX4_frame : CfV RX4 yX4_frame cX4_frame 6 (some .int) 5 := ⟨⟨wN_yX4_frame, wS_yX4_frame, wI_X4, wC_yX4_frame⟩, rfl, by decide +kernel, by decide +kernel, by decide +kernel⟩
theorem cf_yX2_has : CfV RX2 yX2_has cX2_has 2 (some .boolean) 1 := ⟨⟨wN_yX2_has, wS_yX2_has, wI_X2, wC_yX2_has⟩, rfl, by decide +kernel, by decide +kernel, by decide +kernel⟩
theorem cf_yX4_hasSlot : CfV RX4 yX4_hasSlot cX4_hasSlot 2 (some .boolean) 1 := ⟨⟨wN_yX4_hasSlot, wS_yX4_hasSlot, wI_X4, wC_yX4_hasSlot⟩, rfl, by decide +kernel, by decide +kernel, by decide +kernel⟩
theorem cf_yX3_isEvery : CfS yX3_isEvery cX3_isEvery 1 (some .boolean) 1 := ⟨⟨wT_yX3_isEvery, wI_X3, wC_yX3_isEvery⟩, by decide +kernel, by decide +kernel, by decide +kernel⟩
theorem cf_yJ6_bitCount_0f7a4 : CfS yJ6_bitCount_0f7a4 cJ6_bitCount_0f7a4 1 (some .int) 1 := ⟨⟨wT_yJ6_bitCount_0f7a4, wI_J6, wC_yJ6_bitCount_0f7a4⟩, by decide +kernel, by decide +kernel, by decide +kernel⟩
theorem cf_yX3_clashes : CfV RX3 yX3_clashes cX3_clashes 7 (some .boolean) 4 := ⟨⟨wN_yX3_clashes, wS_yX3_clashes, wI_X3, wC_yX3_clashes⟩, rfl, by decide +kernel, by decide +kernel, by decide +kernel⟩
theorem cf_yX3_isOn : CfV RX3 yX3_isOn cX3_isOn 4 (some .boolean) 3 := ⟨⟨wN_yX3_isOn, wS_yX3_isOn, wI_X3, wC_yX3_isOn⟩, rfl, by decide +kernel, by decide +kernel, by decide +kernel⟩
theorem cf_yX3_remainder : CfS yX3_remainder cX3_remainder 2 (some .int) 2 := ⟨⟨wT_yX3_remainder, wI_X3, wC_yX3_remainder⟩, by decide +kernel, by decide +kernel, by decide +kernel⟩
theorem cf_yX3_isFull : CfV RX3 yX3_isFull cX3_isFull 1 (some .boolean) 0 := ⟨⟨wN_yX3_isFull, wS_yX3_isFull, wI_X3, wC_yX3_isFull⟩, rfl, by decide +kernel, by decide +kernel, by decide +kernel⟩
theorem cf_yX3_add : CfV RX3 yX3_add cX3_add 6 (some .int) 5 := ⟨⟨wN_yX3_add, wS_yX3_add, wI_X3, wC_yX3_add⟩, rfl, by decide +kernel, by decide +kernel, by decide +kernel⟩
theorem cf_yX4_dynamic : CfV RX4 yX4_dynamic cX4_dynamic 4 (some .int) 3 := ⟨⟨wN_yX4_dynamic, wS_yX4_dynamic, wI_X4, wC_yX4_dynamic⟩, rfl, by decide +kernel, by decide +kernel, by decide +kernel⟩
theorem cf_yX0_isFull : CfV RX0 yX0_isFull cX0_isFull 1 (some .boolean) 0 := ⟨⟨wN_yX0_isFull, wS_yX0_isFull, wI_X0, wC_yX0_isFull⟩, rfl, by decide +kernel, by decide +kernel, by decide +kernel⟩
theorem cf_yX0_add : CfV RX0 yX0_add cX0_add 4 (some .int) 3 := ⟨⟨wN_yX0_add, wS_yX0_add, wI_X0, wC_yX0_add⟩, rfl, by decide +kernel, by decide +kernel, by decide +kernel⟩
theorem cf_yX4_drift : CfV RX4 yX4_drift cX4_drift 3 (some .int) 2 := ⟨⟨wN_yX4_drift, wS_yX4_drift, wI_X4, wC_yX4_drift⟩, rfl, by decide +kernel, by decide +kernel, by decide +kernel⟩
theorem cf_yX4_run : CfV RX4 yX4_run cX4_run 4 (some .int) 1 := ⟨⟨wN_yX4_run, wS_yX4_run, wI_X4, wC_yX4_run⟩, rfl, by decide +kernel, by decide +kernel, by decide +kernel⟩
theorem cf_yX4_runOne : CfV RX4 yX4_runOne cX4_runOne 2 (some .int) 0 := ⟨⟨wN_yX4_runOne, wS_yX4_runOne, wI_X4, wC_yX4_runOne⟩, rfl, by decide +kernel, by decide +kernel, by decide +kernel⟩
theorem cf_yX2_startUp : CfV RX2 yX2_startUp cX2_startUp 2 none 0 := ⟨⟨wN_yX2_startUp, wS_yX2_startUp, wI_X2, wC_yX2_startUp⟩, rfl, by decide +kernel, by decide +kernel, by decide +kernel⟩
theorem cf_yX2_leastActive : CfV RX2 yX2_leastActive cX2_leastActive 2 (some .int) 0 := ⟨⟨wN_yX2_leastActive, wS_yX2_leastActive, wI_X2, wC_yX2_leastActive⟩, rfl, by decide +kernel, by decide +kernel, by decide +kernel⟩
theorem cf_yX2_isActive : CfV RX2 yX2_isActive cX2_isActive 2 (some .boolean) 1 := ⟨⟨wN_yX2_isActive, wS_yX2_isActive, wI_X2, wC_yX2_isActive⟩, rfl, by decide +kernel, by decide +kernel, by decide +kernel⟩
theorem cf_yX2_integrate : CfV RX2 yX2_integrate cX2_integrate 3 none 1 := ⟨⟨wN_yX2_integrate, wS_yX2_integrate, wI_X2, wC_yX2_integrate⟩, rfl, by decide +kernel, by decide +kernel, by decide +kernel⟩
theorem cf_yX2_listen : CfV RX2 yX2_listen cX2_listen 3 none 2 := ⟨⟨wN_yX2_listen, wS_yX2_listen, wI_X2, wC_yX2_listen⟩, rfl, by decide +kernel, by decide +kernel, by decide +kernel⟩
theorem cf_yX2_countStarters : CfV RX2 yX2_countStarters cX2_countStarters 3 (some .int) 0 := ⟨⟨wN_yX2_countStarters, wS_yX2_countStarters, wI_X2, wC_yX2_countStarters⟩, rfl, by decide +kernel, by decide +kernel, by decide +kernel⟩
theorem cf_yX2_isStarter : CfV RX2 yX2_isStarter cX2_isStarter 2 (some .boolean) 1 := ⟨⟨wN_yX2_isStarter, wS_yX2_isStarter, wI_X2, wC_yX2_isStarter⟩, rfl, by decide +kernel, by decide +kernel, by decide +kernel⟩
theorem cf_yX2_startCold : CfV RX2 yX2_startCold cX2_startCold 2 none 0 := ⟨⟨wN_yX2_startCold, wS_yX2_startCold, wI_X2, wC_yX2_startCold⟩, rfl, by decide +kernel, by decide +kernel, by decide +kernel⟩
theorem cf_yX3_send : CfV RX3 yX3_send cX3_send 7 (some .int) 3 := ⟨⟨wN_yX3_send, wS_yX3_send, wI_X3, wC_yX3_send⟩, rfl, by decide +kernel, by decide +kernel, by decide +kernel⟩
theorem cf_yX2_forgetHeard : CfV RX2 yX2_forgetHeard cX2_forgetHeard 2 none 0 := ⟨⟨wN_yX2_forgetHeard, wS_yX2_forgetHeard, wI_X2, wC_yX2_forgetHeard⟩, rfl, by decide +kernel, by decide +kernel, by decide +kernel⟩
theorem cf_yX3_isIn : CfV RX3 yX3_isIn cX3_isIn 3 (some .boolean) 2 := ⟨⟨wN_yX3_isIn, wS_yX3_isIn, wI_X3, wC_yX3_isIn⟩, rfl, by decide +kernel, by decide +kernel, by decide +kernel⟩
theorem cf_yX1_leavesAny : CfV RX1 yX1_leavesAny cX1_leavesAny 3 (some .boolean) 2 := ⟨⟨wN_yX1_leavesAny, wS_yX1_leavesAny, wI_X1, wC_yX1_leavesAny⟩, rfl, by decide +kernel, by decide +kernel, by decide +kernel⟩
theorem cf_yX0_send : CfV RX0 yX0_send cX0_send 7 (some .int) 2 := ⟨⟨wN_yX0_send, wS_yX0_send, wI_X0, wC_yX0_send⟩, rfl, by decide +kernel, by decide +kernel, by decide +kernel⟩
theorem cf_yX0_firstOf : CfV RX0 yX0_firstOf cX0_firstOf 4 (some .int) 2 := ⟨⟨wN_yX0_firstOf, wS_yX0_firstOf, wI_X0, wC_yX0_firstOf⟩, rfl, by decide +kernel, by decide +kernel, by decide +kernel⟩
theorem cf_yX0_remove : CfV RX0 yX0_remove cX0_remove 3 none 1 := ⟨⟨wN_yX0_remove, wS_yX0_remove, wI_X0, wC_yX0_remove⟩, rfl, by decide +kernel, by decide +kernel, by decide +kernel⟩
theorem cf_yX2_correct : CfV RX2 yX2_correct cX2_correct 3 none 1 := ⟨⟨wN_yX2_correct, wS_yX2_correct, wI_X2, wC_yX2_correct⟩, rfl, by decide +kernel, by decide +kernel, by decide +kernel⟩
theorem cf_yX2_findMidpoint : CfV RX2 yX2_findMidpoint cX2_findMidpoint 4 (some .int) 1 := ⟨⟨wN_yX2_findMidpoint, wS_yX2_findMidpoint, wI_X2, wC_yX2_findMidpoint⟩, rfl, by decide +kernel, by decide +kernel, by decide +kernel⟩
theorem cf_yX2_insertDeviation : CfV RX2 yX2_insertDeviation cX2_insertDeviation 4 none 2 := ⟨⟨wN_yX2_insertDeviation, wS_yX2_insertDeviation, wI_X2, wC_yX2_insertDeviation⟩, rfl, by decide +kernel, by decide +kernel, by decide +kernel⟩
theorem cf_yX2_apply : CfV RX2 yX2_apply cX2_apply 5 none 3 := ⟨⟨wN_yX2_apply, wS_yX2_apply, wI_X2, wC_yX2_apply⟩, rfl, by decide +kernel, by decide +kernel, by decide +kernel⟩
theorem cf_yX2_changeRate : CfV RX2 yX2_changeRate cX2_changeRate 4 none 2 := ⟨⟨wN_yX2_changeRate, wS_yX2_changeRate, wI_X2, wC_yX2_changeRate⟩, rfl, by decide +kernel, by decide +kernel, by decide +kernel⟩
theorem cf_yX2_passTime : CfV RX2 yX2_passTime cX2_passTime 2 none 0 := ⟨⟨wN_yX2_passTime, wS_yX2_passTime, wI_X2, wC_yX2_passTime⟩, rfl, by decide +kernel, by decide +kernel, by decide +kernel⟩
theorem cf_yX1_clear : CfV RX1 yX1_clear cX1_clear 2 none 0 := ⟨⟨wN_yX1_clear, wS_yX1_clear, wI_X1, wC_yX1_clear⟩, rfl, by decide +kernel, by decide +kernel, by decide +kernel⟩
theorem cf_yX4_state : CfV RX4 yX4_state cX4_state 2 (some .int) 1 := ⟨⟨wN_yX4_state, wS_yX4_state, wI_X4, wC_yX4_state⟩, rfl, by decide +kernel, by decide +kernel, by decide +kernel⟩
theorem cf_yX4_offset : CfV RX4 yX4_offset cX4_offset 2 (some .int) 1 := ⟨⟨wN_yX4_offset, wS_yX4_offset, wI_X4, wC_yX4_offset⟩, rfl, by decide +kernel, by decide +kernel, by decide +kernel⟩
theorem cf_yX4_rate : CfV RX4 yX4_rate cX4_rate 2 (some .int) 1 := ⟨⟨wN_yX4_rate, wS_yX4_rate, wI_X4, wC_yX4_rate⟩, rfl, by decide +kernel, by decide +kernel, by decide +kernel⟩
theorem cf_yX4_cold : CfV RX4 yX4_cold cX4_cold 3 (some .int) 2 := ⟨⟨wN_yX4_cold, wS_yX4_cold, wI_X4, wC_yX4_cold⟩, rfl, by decide +kernel, by decide +kernel, by decide +kernel⟩
theorem cf_yX2_tellCold : CfV RX2 yX2_tellCold cX2_tellCold 3 none 2 := ⟨⟨wN_yX2_tellCold, wS_yX2_tellCold, wI_X2, wC_yX2_tellCold⟩, rfl, by decide +kernel, by decide +kernel, by decide +kernel⟩
theorem cf_yX2_countCold : CfV RX2 yX2_countCold cX2_countCold 3 (some .int) 0 := ⟨⟨wN_yX2_countCold, wS_yX2_countCold, wI_X2, wC_yX2_countCold⟩, rfl, by decide +kernel, by decide +kernel, by decide +kernel⟩
theorem cf_yX4_flip : CfV RX4 yX4_flip cX4_flip 3 (some .int) 2 := ⟨⟨wN_yX4_flip, wS_yX4_flip, wI_X4, wC_yX4_flip⟩, rfl, by decide +kernel, by decide +kernel, by decide +kernel⟩
theorem cf_yX1_has : CfV RX1 yX1_has cX1_has 3 (some .boolean) 2 := ⟨⟨wN_yX1_has, wS_yX1_has, wI_X1, wC_yX1_has⟩, rfl, by decide +kernel, by decide +kernel, by decide +kernel⟩
theorem cf_yX1_add : CfV RX1 yX1_add cX1_add 3 (some .int) 2 := ⟨⟨wN_yX1_add, wS_yX1_add, wI_X1, wC_yX1_add⟩, rfl, by decide +kernel, by decide +kernel, by decide +kernel⟩
theorem cf_yX4_close : CfV RX4 yX4_close cX4_close 2 (some .boolean) 1 := ⟨⟨wN_yX4_close, wS_yX4_close, wI_X4, wC_yX4_close⟩, rfl, by decide +kernel, by decide +kernel, by decide +kernel⟩
theorem cf_yX2_areWithin : CfV RX2 yX2_areWithin cX2_areWithin 4 (some .boolean) 1 := ⟨⟨wN_yX2_areWithin, wS_yX2_areWithin, wI_X2, wC_yX2_areWithin⟩, rfl, by decide +kernel, by decide +kernel, by decide +kernel⟩
theorem cf_yX2_distance : CfV RX2 yX2_distance cX2_distance 3 (some .long) 2 := ⟨⟨wN_yX2_distance, wS_yX2_distance, wI_X2, wC_yX2_distance⟩, rfl, by decide +kernel, by decide +kernel, by decide +kernel⟩
theorem cf_yX4_midpoint : CfV RX4 yX4_midpoint cX4_midpoint 2 (some .int) 1 := ⟨⟨wN_yX4_midpoint, wS_yX4_midpoint, wI_X4, wC_yX4_midpoint⟩, rfl, by decide +kernel, by decide +kernel, by decide +kernel⟩
theorem cf_yL_cell : CfS yL_cell cL_cell 2 (some .int) 2 := ⟨⟨wT_yL_cell, wI_L, wC_yL_cell⟩, by decide +kernel, by decide +kernel, by decide +kernel⟩
theorem cf_yJx00060_init_a7421 : CfI yJx00060_init_a7421 cJx00060_init_a7421 2 1 := ⟨⟨wN_yJx00060_init_a7421, wI_Jx00060, wC_yJx00060_init_a7421, rfl⟩, by decide +kernel, by decide +kernel, by decide +kernel⟩
theorem cf_yX4_place : CfV RX4 yX4_place cX4_place 4 (some .int) 2 := ⟨⟨wN_yX4_place, wS_yX4_place, wI_X4, wC_yX4_place⟩, rfl, by decide +kernel, by decide +kernel, by decide +kernel⟩
theorem cf_yJx00060_init_da8c8 : CfI yJx00060_init_da8c8 cJx00060_init_da8c8 1 0 := ⟨⟨wN_yJx00060_init_da8c8, wI_Jx00060, wC_yJx00060_init_da8c8, rfl⟩, by decide +kernel, by decide +kernel, by decide +kernel⟩
theorem cf_yX3_nodeAt : CfV RX3 yX3_nodeAt cX3_nodeAt 5 (some .int) 3 := ⟨⟨wN_yX3_nodeAt, wS_yX3_nodeAt, wI_X3, wC_yX3_nodeAt⟩, rfl, by decide +kernel, by decide +kernel, by decide +kernel⟩
theorem cf_yX5_init : CfI yX5_init cX5_init 5 3 := ⟨⟨wN_yX5_init, wI_X5, wC_yX5_init, rfl⟩, by decide +kernel, by decide +kernel, by decide +kernel⟩
theorem cf_yX5_thrown : CfV RX5 yX5_thrown cX5_thrown 1 (some .int) 0 := ⟨⟨wN_yX5_thrown, wS_yX5_thrown, wI_X5, wC_yX5_thrown⟩, rfl, by decide +kernel, by decide +kernel, by decide +kernel⟩
theorem cf_yX5_frame : CfV RX5 yX5_frame cX5_frame 9 (some .int) 5 := ⟨⟨wN_yX5_frame, wS_yX5_frame, wI_X5, wC_yX5_frame⟩, rfl, by decide +kernel, by decide +kernel, by decide +kernel⟩
theorem cf_yX5_isNode : CfV RX5 yX5_isNode cX5_isNode 2 (some .boolean) 1 := ⟨⟨wN_yX5_isNode, wS_yX5_isNode, wI_X5, wC_yX5_isNode⟩, rfl, by decide +kernel, by decide +kernel, by decide +kernel⟩
theorem cf_yX5_isSlot : CfV RX5 yX5_isSlot cX5_isSlot 2 (some .boolean) 1 := ⟨⟨wN_yX5_isSlot, wS_yX5_isSlot, wI_X5, wC_yX5_isSlot⟩, rfl, by decide +kernel, by decide +kernel, by decide +kernel⟩
theorem cf_yX5_dynamic : CfV RX5 yX5_dynamic cX5_dynamic 4 (some .int) 3 := ⟨⟨wN_yX5_dynamic, wS_yX5_dynamic, wI_X5, wC_yX5_dynamic⟩, rfl, by decide +kernel, by decide +kernel, by decide +kernel⟩
theorem cf_yX5_drift : CfV RX5 yX5_drift cX5_drift 3 (some .int) 2 := ⟨⟨wN_yX5_drift, wS_yX5_drift, wI_X5, wC_yX5_drift⟩, rfl, by decide +kernel, by decide +kernel, by decide +kernel⟩
theorem cf_yX5_run : CfV RX5 yX5_run cX5_run 5 (some .int) 1 := ⟨⟨wN_yX5_run, wS_yX5_run, wI_X5, wC_yX5_run⟩, rfl, by decide +kernel, by decide +kernel, by decide +kernel⟩
theorem cf_yX5_startUp : CfV RX5 yX5_startUp cX5_startUp 5 none 0 := ⟨⟨wN_yX5_startUp, wS_yX5_startUp, wI_X5, wC_yX5_startUp⟩, rfl, by decide +kernel, by decide +kernel, by decide +kernel⟩
theorem cf_yX5_sendStatic : CfV RX5 yX5_sendStatic cX5_sendStatic 5 (some .int) 0 := ⟨⟨wN_yX5_sendStatic, wS_yX5_sendStatic, wI_X5, wC_yX5_sendStatic⟩, rfl, by decide +kernel, by decide +kernel, by decide +kernel⟩
theorem cf_yX5_sendDynamic : CfV RX5 yX5_sendDynamic cX5_sendDynamic 6 (some .int) 0 := ⟨⟨wN_yX5_sendDynamic, wS_yX5_sendDynamic, wI_X5, wC_yX5_sendDynamic⟩, rfl, by decide +kernel, by decide +kernel, by decide +kernel⟩
theorem cf_yX5_waitingOne : CfV RX5 yX5_waitingOne cX5_waitingOne 3 (some .int) 1 := ⟨⟨wN_yX5_waitingOne, wS_yX5_waitingOne, wI_X5, wC_yX5_waitingOne⟩, rfl, by decide +kernel, by decide +kernel, by decide +kernel⟩
theorem cf_yX5_correct : CfV RX5 yX5_correct cX5_correct 3 none 0 := ⟨⟨wN_yX5_correct, wS_yX5_correct, wI_X5, wC_yX5_correct⟩, rfl, by decide +kernel, by decide +kernel, by decide +kernel⟩
theorem cf_yX5_midpointOf : CfV RX5 yX5_midpointOf cX5_midpointOf 6 (some .int) 1 := ⟨⟨wN_yX5_midpointOf, wS_yX5_midpointOf, wI_X5, wC_yX5_midpointOf⟩, rfl, by decide +kernel, by decide +kernel, by decide +kernel⟩
theorem cf_yX5_state : CfV RX5 yX5_state cX5_state 2 (some .int) 1 := ⟨⟨wN_yX5_state, wS_yX5_state, wI_X5, wC_yX5_state⟩, rfl, by decide +kernel, by decide +kernel, by decide +kernel⟩
theorem cf_yX5_offset : CfV RX5 yX5_offset cX5_offset 2 (some .int) 1 := ⟨⟨wN_yX5_offset, wS_yX5_offset, wI_X5, wC_yX5_offset⟩, rfl, by decide +kernel, by decide +kernel, by decide +kernel⟩
theorem cf_yX5_rate : CfV RX5 yX5_rate cX5_rate 2 (some .int) 1 := ⟨⟨wN_yX5_rate, wS_yX5_rate, wI_X5, wC_yX5_rate⟩, rfl, by decide +kernel, by decide +kernel, by decide +kernel⟩
theorem cf_yX5_place : CfV RX5 yX5_place cX5_place 7 (some .int) 2 := ⟨⟨wN_yX5_place, wS_yX5_place, wI_X5, wC_yX5_place⟩, rfl, by decide +kernel, by decide +kernel, by decide +kernel⟩
theorem cf_yX5_cold : CfV RX5 yX5_cold cX5_cold 5 (some .int) 2 := ⟨⟨wN_yX5_cold, wS_yX5_cold, wI_X5, wC_yX5_cold⟩, rfl, by decide +kernel, by decide +kernel, by decide +kernel⟩
theorem cf_yX5_flip : CfV RX5 yX5_flip cX5_flip 5 (some .int) 2 := ⟨⟨wN_yX5_flip, wS_yX5_flip, wI_X5, wC_yX5_flip⟩, rfl, by decide +kernel, by decide +kernel, by decide +kernel⟩
theorem cf_yX5_close : CfV RX5 yX5_close cX5_close 7 (some .boolean) 1 := ⟨⟨wN_yX5_close, wS_yX5_close, wI_X5, wC_yX5_close⟩, rfl, by decide +kernel, by decide +kernel, by decide +kernel⟩
theorem cf_yX5_midpoint : CfV RX5 yX5_midpoint cX5_midpoint 2 (some .int) 1 := ⟨⟨wN_yX5_midpoint, wS_yX5_midpoint, wI_X5, wC_yX5_midpoint⟩, rfl, by decide +kernel, by decide +kernel, by decide +kernel⟩
