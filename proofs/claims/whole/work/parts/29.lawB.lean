/-! the law from its entry: what the tables give, the makings, the loop -/
def R_law : String := "FlexCyclesLaw"
def lw_P (b : Addr) (xs : List Int32) (args : Array Value) (s : State) : Prop := args = #[.ref b] ∧ s.IntsAt b xs ∧ xs.length ≤ 3075 ∧ (Jvm.Cond.and given_1 narrow_1).before args s = true
def lw_Q (_ : Array Value) (s : State) (o : Outcome) (t : State) : Prop := o = .returned (some (.int 1)) ∧ Framed s o t [] 603072 7190184
def lw_Z (below : List Frame) (a : Array Value) (s : State) : State → Prop := fun t => ∃ o, t.status = .running ∧ Ended t below o ∧ lw_Q a s o t
/-- the law's own end, with 1 on the stack, nothing written that was there before, its room as the claim has it -/
theorem lw_ret {p : Program} {l : Launch} {e : Env} {s : State} {m : MethodId} {below : List Frame} {meth : Method} {c : Code} {b : Nat} (hx : p.tables.exec = Jvm.exec) (hb : c.code = code) (hr : meth.sig.returnType = ret) (hlocks : meth.locks = false) {pc : Nat} {H : Heap} {ls : Array Slot} (hdg : decode code pc = .ok (.ireturn, 1)) : W p l e room_1 s m #[Value.ref b] below meth c H [] 603072 7190184 (lw_Z below #[Value.ref b] s) (F0 m pc ls [.int 1]) := by
  intro T hT X
  obtain ⟨fs, hret, hrun, hended, hW, hframe⟩ := X.leave (v := some (.int 1)) (hlocks := hlocks) (fun h => by rw [hr] at h; cases h)
  have hmeth' : T.vm.method? m = some meth := X.method'
  refine ⟨T.setFrames fs, ?_, .returned (some (.int 1)), hrun, hended, rfl, ⟨_, rfl⟩, hW, hframe⟩
  jvm_step X.here [X.here.top, hx, hb, hdg, hmeth', hr, ret, narrow_b1]
  (try refine ⟨rfl, ?_⟩); (try refine ⟨rfl, ?_⟩)
  first | (intro acts; rw [hret _ acts rfl rfl rfl]) | rw [hret _ _ rfl rfl rfl]
  exact Steps.refl _
/-- what holds at the law's entry -/
def lw_At (p : Program) (s : State) (m : MethodId) (meth : Method) (c : Code) (b L : Nat) (xs : Nat → Int32) : Prop :=
  p.tables.exec = Jvm.exec ∧ c.code = code ∧ meth.sig.returnType = ret ∧ c.maxLocals = 7 ∧ s.vm.findClass R_law = some m.cls ∧ (∀ w ∈ lw_tbl, w.before #[Value.ref b] s = true) ∧ va_X b L xs s s.heap ∧ b < s.heap.size ∧ meth.locks = false ∧ (Jvm.Cond.and given_1 narrow_1).before #[Value.ref b] s = true
theorem lw_t1 {w : Cond} (h : w ∈ tables_1_1) : w ∈ lw_tbl := List.mem_append_right _ (List.mem_append_left _ h)
theorem lw_t2 {w : Cond} (h : w ∈ tables_1_2) : w ∈ lw_tbl := List.mem_append_right _ (List.mem_append_right _ (List.mem_append_left _ h))
theorem lw_NW {s : State} {b : Nat} (hts : ∀ w ∈ lw_tbl, w.before #[Value.ref b] s = true) : NW s :=
  ⟨va_Nw.of rfl (hts _ (lw_t1 (List.mem_of_getElem? (i := 34) (by decide +kernel)))), va_Nw.of rfl (hts _ (lw_t1 (List.mem_of_getElem? (i := 36) (by decide +kernel)))), va_Nw.of rfl (hts _ (lw_t1 (List.mem_of_getElem? (i := 38) (by decide +kernel)))), va_Nw.of rfl (hts _ (lw_t1 (List.mem_of_getElem? (i := 40) (by decide +kernel)))), va_Nw.of rfl (hts _ (lw_t1 (List.mem_of_getElem? (i := 44) (by decide +kernel)))), va_Nw.of rfl (hts _ (lw_t1 (List.mem_of_getElem? (i := 47) (by decide +kernel)))), va_Nw.of rfl (hts _ (lw_t1 (List.mem_of_getElem? (i := 79) (by decide +kernel)))), va_Nw.of rfl (hts _ (lw_t1 (List.mem_of_getElem? (i := 104) (by decide +kernel)))), va_Nw.of rfl (hts _ (lw_t2 (List.mem_of_getElem? (i := 188) (by decide +kernel)))), va_Nw.of rfl (hts _ (lw_t2 (List.mem_of_getElem? (i := 190) (by decide +kernel)))), va_Nw.of rfl (hts _ (lw_t2 (List.mem_of_getElem? (i := 192) (by decide +kernel)))), va_Nw.of rfl (hts _ (lw_t2 (List.mem_of_getElem? (i := 194) (by decide +kernel)))), va_Nw.of rfl (hts _ (lw_t2 (List.mem_of_getElem? (i := 187) (by decide +kernel))))⟩
theorem lw_ZS {s : State} {b : Nat} (hts : ∀ w ∈ lw_tbl, w.before #[Value.ref b] s = true) (hgv : (Jvm.Cond.and given_1 narrow_1).before #[Value.ref b] s = true) : ZS (fun q : Nat => s.heap.size ≤ q) s s.heap := by
  have hs := flat_of_before _ hgv
  exact ⟨vx_Zqof (hts _ (lw_t2 (List.mem_of_getElem? (i := 156) (by decide +kernel)))) (hts _ (lw_t1 (List.mem_of_getElem? (i := 9) (by decide +kernel)))) (hs _ (by decide +kernel)) (fun a h => Nat.not_le.mpr h), vx_Zqof (hts _ (lw_t2 (List.mem_of_getElem? (i := 158) (by decide +kernel)))) (hts _ (lw_t1 (List.mem_of_getElem? (i := 9) (by decide +kernel)))) (hs _ (by decide +kernel)) (fun a h => Nat.not_le.mpr h)⟩
theorem lw_arr {s : State} {args : Array Value} {ty : FieldType} (h : (Cond.arrayClass ty).before args s = true) : ∃ cA : ClassId, s.vm.findClass ("[" ++ ty.toString) = some cA ∧ ArrOfT s cA ty := by
  obtain ⟨cA, kA, comp, f1, f2, f3⟩ := Cond.arrayClass_spec h
  exact ⟨cA, f1, fun n z => ⟨fun k h => (by cases h), kA, f2, comp, f3⟩⟩
theorem lw_K {s : State} {args : Array Value} (hts : ∀ w ∈ ALL, w.before args s = true) : ∃ (D : va_G) (cI cZ cL : ClassId), va_K D vwCl (tyz cI cZ cL) s := by
  obtain ⟨c0, i0, k0⟩ := u_known (C := RJ0) (T := TJ0) (N := 2) (n := 4) hts inJ0 (hts _ wG_J0)
  obtain ⟨c1, i1, k1⟩ := u_known (C := RJx00060) (T := TJx00060) (N := 6) (n := 6) hts inJx00060 (hts _ wG_Jx00060)
  obtain ⟨c2, i2, k2⟩ := u_known (C := RX0) (T := TX0) (N := 4) (n := 4) hts inX0 (hts _ wG_X0)
  obtain ⟨c3, i3, k3⟩ := u_known (C := RX1) (T := TX1) (N := 2) (n := 2) hts inX1 (hts _ wG_X1)
  obtain ⟨c4, i4, k4⟩ := u_known (C := RX2) (T := TX2) (N := 12) (n := 12) hts inX2 (hts _ wG_X2)
  obtain ⟨c5, i5, k5⟩ := u_known (C := RX3) (T := TX3) (N := 6) (n := 6) hts inX3 (hts _ wG_X3)
  obtain ⟨c6, i6, k6⟩ := u_known (C := RX4) (T := TX4) (N := 7) (n := 7) hts inX4 (hts _ wG_X4)
  obtain ⟨c7, i7, k7⟩ := u_known (C := RX5) (T := TX5) (N := 27) (n := 27) hts inX5 (hts _ wG_X5)
  obtain ⟨cI, aI, bI⟩ := lw_arr (hts _ wA_int)
  obtain ⟨cZ, aZ, bZ⟩ := lw_arr (hts _ wA_boolean)
  obtain ⟨cL, aL, bL⟩ := lw_arr (hts _ wA_long)
  refine ⟨(fun k => if k = 0 then c0 else if k = 1 then c1 else if k = 2 then c2 else if k = 3 then c3 else if k = 4 then c4 else if k = 5 then c5 else if k = 6 then c6 else c7, fun k => if k = 0 then i0 else if k = 1 then i1 else if k = 2 then i2 else if k = 3 then i3 else if k = 4 then i4 else if k = 5 then i5 else if k = 6 then i6 else i7), cI, cZ, cL, ?_, ?_⟩
  · intro k q hq
    match k, hq with
    | 0, hq => cases hq; exact k0
    | 1, hq => cases hq; exact k1
    | 2, hq => cases hq; exact k2
    | 3, hq => cases hq; exact k3
    | 4, hq => cases hq; exact k4
    | 5, hq => cases hq; exact k5
    | 6, hq => cases hq; exact k6
    | 7, hq => cases hq; exact k7
    | k + 8, hq => simp at hq
  · intro k q hq
    match k, hq with
    | 0, hq => cases hq; exact ⟨bI, aI⟩
    | 1, hq => cases hq; exact ⟨bZ, aZ⟩
    | 2, hq => cases hq; exact ⟨bL, aL⟩
    | k + 3, hq => simp at hq
theorem cx_le {L i : Nat} (hL : L ≤ 3075) (hi : i ≤ 4000) (c : ¬ (nI L - 6 < nI i)) : i + 6 ≤ L := by
  have h := Int32.le_iff_toInt_le.mp (Int32.not_lt.mp c)
  have e6 : (6 : Int32).toInt = 6 := by decide
  have eL : (nI L).toInt = (L : Int) := nI_toInt (by omega)
  have ei : (nI i).toInt = (i : Int) := nI_toInt (by omega)
  rw [ei, sub_toInt (by rw [eL, e6]; omega) (by rw [eL, e6]; omega), eL, e6] at h
  omega
set_option maxHeartbeats 4000000 in
set_option maxRecDepth 100000 in
/-- the law's loop: at its head, behind t calls, the class and the reference agree -/
theorem law_loop {p : Program} {l : Launch} {e : Env} {s : State} {m : MethodId} {below : List Frame} {meth : Method} {c : Code} {b L : Nat} {xs : Nat → Int32} {D : va_G} {cI cZ cL : ClassId} {g h : Nat → Nat} {sl mi n qo : Nat} (C0 : LC l p s m meth c b L xs D cI cZ cL) (hL : L ≤ 3075) (B : LB sl mi n) :
    ∀ (k t : Nat), t + k = 513 → t ≤ 512 → ∀ (X Y : NN) (cy ss ds fs th : Nat) (f : Nat → Int64) (H : Heap) (locs : List Loc) (ls : Array Slot), Rel sl n X Y cy ss ds fs → cy ≤ 500 * t → va_P D vwCl (wz g h cI cZ cL sl mi n X cy ss ds fs Y th qo f) H → va_D (fun q : Nat => s.heap.size ≤ q) (wz g h cI cZ cL sl mi n X cy ss ds fs Y th qo f) → va_S (fun q : Nat => s.heap.size ≤ q) s.heap H locs → lv_has ls 7 (LV b g h qo (3 + 6 * t)) →
      W p l e room_1 s m #[Value.ref b] below meth c H locs (47 + t) (2152 + 6 * t) (lw_Z below #[Value.ref b] s) (F0 m 53 ls []) := by
  obtain ⟨C, hK, hN, hX, hbl, hZ, hst⟩ := id C0
  obtain ⟨hx, hb, hml, hown, hts, hr9, hlk9⟩ := id C
  have hbA : ¬ (fun q : Nat => s.heap.size ≤ q) b := Nat.not_le.mpr hbl
  intro k
  induction k with
  | zero => intro t h1 h2; omega
  | succ k ih =>
    intro t h1 h2 X Y cy ss ds fs th f H locs ls hR hcy hP hD hS hl
    refine lv_iload hx hb dL_law_53 (lv_at hl 4 rfl) ?_
    refine lv_aload_n hx hb dL_law_55 rfl (lv_at hl 0 rfl) ?_
    refine va_slen hx hb hX hbl hbA hS dL_law_56 ?_
    refine lv_bipush (v := 6) hx hb dL_law_57 (by decide) ?_
    refine lv_isub hx hb dL_law_59 ?_
    refine lv_icmp_gt (tgt := 605) hx hb dL_law_60 (by decide) (fun c1 => ?_) (fun c1 => ?_)
    · refine lv_iconst (v := 1) hx hb dL_law_605 (by decide) ?_
      refine va_forget (fun q hq => hS.2.2 q hq) ?_
      refine W.widen (k := 603072) (n := 7190184) (by omega) (by omega) ?_
      exact lw_ret hx hb hr9 hlk9 dL_law_606
    · have hi : 3 + 6 * t + 6 ≤ L := cx_le hL (by omega) c1
      refine lv_aload_n hx hb dL_law_63 rfl (lv_at hl 0 rfl) ?_
      refine lv_iload hx hb dL_law_64 (lv_at hl 4 rfl) ?_
      refine k_sld hx hb hX hbl hbA hS (3 + 6 * t) rfl (by omega) (by omega) dL_law_66 ?_
      refine lv_bipush (v := 15) hx hb dL_law_67 (by decide) ?_
      refine lv_iand hx hb dL_law_69 ?_
      obtain ⟨j, hj, ej⟩ := pk_andE (xs (3 + 6 * t)) (m := 15) 4 (by decide)
      rw [ej]
      have step : ∀ (X' Y' : NN) (cy' ss' ds' fs' th' : Nat) (f' : Nat → Int64) (H' : Heap) (locs' : List Loc) (ls' : Array Slot), Rel sl n X' Y' cy' ss' ds' fs' → cy' ≤ cy + 500 → va_P D vwCl (wz g h cI cZ cL sl mi n X' cy' ss' ds' fs' Y' th' qo f') H' → va_D (fun q : Nat => s.heap.size ≤ q) (wz g h cI cZ cL sl mi n X' cy' ss' ds' fs' Y' th' qo f') → va_S (fun q : Nat => s.heap.size ≤ q) s.heap H' locs' → lv_has ls' 7 (LV b g h qo (3 + 6 * t)) → W p l e room_1 s m #[Value.ref b] below meth c H' locs' (47 + t + 1) (2152 + 6 * t + 6) (lw_Z below #[Value.ref b] s) (F0 m 599 ls' []) := by
        intro X' Y' cy' ss' ds' fs' th' f' H' locs' ls' hR' hcy' hP' hD' hS' hl'
        refine lv_iinc (v := nI (3 + 6 * (t + 1))) (lv' := [(4, .int (nI (3 + 6 * (t + 1)))), (0, .ref b), (1, .ref (g 0)), (2, .ref (h 0)), (3, .ref qo)]) hx hb dL_law_599 hl' (k := 4) rfl ((nI_add (3 + 6 * t) 6).trans (by congr 1)) (by decide) rfl (fun ls hl => ?_)
        refine lv_goto (tgt := 53) hx hb dL_law_602 (by decide) ?_
        rw [show 47 + t + 1 = 47 + (t + 1) by omega, show 2152 + 6 * t + 6 = 2152 + 6 * (t + 1) by omega]
        exact ih (t + 1) (by omega) (by omega) X' Y' cy' ss' ds' fs' th' f' H' locs' ls hR' (by omega) hP' hD' hS' (lv_sub hl [1, 2, 3, 4, 0] rfl)
      have hj16 : j < 16 := hj
      have hcases : j = 0 ∨ j = 1 ∨ j = 2 ∨ j = 3 ∨ j = 4 ∨ j = 5 ∨ j = 6 ∨ j = 7 ∨ j = 8 ∨ j = 9 ∨ j = 10 ∨ j = 11 ∨ j = 12 ∨ j = 13 ∨ j = 14 ∨ j = 15 := by omega
      rcases hcases with rfl | rfl | rfl | rfl | rfl | rfl | rfl | rfl | rfl | rfl | rfl | rfl | rfl | rfl | rfl | rfl
      · refine lv_tableIn (tgt := 132) hx hb dL_law_70 (by decide) (by decide) rfl (by decide) ?_
        exact law_c0 C0 hL B hi hR (by omega) hP hD hS hl (by omega) (by omega) step
      · refine lv_tableIn (tgt := 205) hx hb dL_law_70 (by decide) (by decide) rfl (by decide) ?_
        exact law_c1 C0 hL B hi hR (by omega) hP hD hS hl (by omega) (by omega) step
      · refine lv_tableIn (tgt := 254) hx hb dL_law_70 (by decide) (by decide) rfl (by decide) ?_
        exact law_c2 C0 hL B hi hR (by omega) hP hD hS hl (by omega) (by omega) step
      · refine lv_tableIn (tgt := 291) hx hb dL_law_70 (by decide) (by decide) rfl (by decide) ?_
        exact law_c3 C0 hL B hi hR (by omega) hP hD hS hl (by omega) (by omega) step
      · refine lv_tableIn (tgt := 316) hx hb dL_law_70 (by decide) (by decide) rfl (by decide) ?_
        exact law_c4 C0 hL B hi hR (by omega) hP hD hS hl (by omega) (by omega) step
      · refine lv_tableIn (tgt := 341) hx hb dL_law_70 (by decide) (by decide) rfl (by decide) ?_
        exact law_c5 C0 hL B hi hR (by omega) hP hD hS hl (by omega) (by omega) step
      · refine lv_tableIn (tgt := 366) hx hb dL_law_70 (by decide) (by decide) rfl (by decide) ?_
        exact law_c6 C0 hL B hi hR (by omega) hP hD hS hl (by omega) (by omega) step
      · refine lv_tableIn (tgt := 391) hx hb dL_law_70 (by decide) (by decide) rfl (by decide) ?_
        exact law_c7 C0 hL B hi hR (by omega) hP hD hS hl (by omega) (by omega) step
      · refine lv_tableIn (tgt := 459) hx hb dL_law_70 (by decide) (by decide) rfl (by decide) ?_
        exact law_c8 C0 hL B hi hR (by omega) hP hD hS hl (by omega) (by omega) step
      · refine lv_tableIn (tgt := 512) hx hb dL_law_70 (by decide) (by decide) rfl (by decide) ?_
        exact law_c9 C0 hL B hi hR (by omega) hP hD hS hl (by omega) (by omega) step
      · refine lv_tableIn (tgt := 549) hx hb dL_law_70 (by decide) (by decide) rfl (by decide) ?_
        exact law_c10 C0 hL B hi hR (by omega) hP hD hS hl (by omega) (by omega) step
      · refine lv_tableIn (tgt := 574) hx hb dL_law_70 (by decide) (by decide) rfl (by decide) ?_
        exact law_c11 C0 hL B hi hR (by omega) hP hD hS hl (by omega) (by omega) step
      all_goals
        refine lv_tableOut (tgt := 599) hx hb dL_law_70 (Or.inr (by decide)) (by decide) ?_
        refine W.widen (k := 47 + t + 1) (n := 2152 + 6 * t + 6) (by omega) (by omega) ?_
        exact step X Y cy ss ds fs th f H locs ls hR (by omega) hP hD hS hl
theorem k_cell {p : Program} {l : Launch} {e : Env} {s : State} {m : MethodId} {below : List Frame} {meth : Method} {c : Code} {b L : Nat} {xs : Nat → Int32} {H : Heap} {locs : List Loc} {cells slots pc : Nat} {Q : State → Prop} {ls : Array Slot} {rest : List Value} {lv : List (Nat × Value)} (C : Cx p s m #[Value.ref b] meth c code 7 RL (some .boolean)) (hL : L ≤ 3075) (hX : va_X b L xs s s.heap) (hbl : b < s.heap.size) (hS : va_S (fun q : Nat => s.heap.size ≤ q) s.heap H locs) (hl : lv_has ls 7 lv) (k : Nat) (hk : k < 3) {x : Int32} (h1 : x = nI k) (hW : (rest.map fun v => v.category).sum ≤ 8) (hf : cells ≤ 603072 ∧ slots ≤ 7190184) (hdg : decode code pc = .ok (.invokestatic 15, 3))
    (kk : W p l e room_1 s m #[Value.ref b] below meth c H locs cells slots Q (F0 m (pc + 3) ls (.int (if k < L then xs k else 0) :: rest))) : W p l e room_1 s m #[Value.ref b] below meth c H locs cells slots Q (F0 m pc ls (.int x :: .ref b :: rest)) := by
  subst h1
  obtain ⟨hx, hb, hml, hown, hts, -⟩ := C
  refine vp_callSi (W.runS (As := [.ref b, .int (nI k)]) (rest := rest) ⟨hx, hb, hml, hown, hts⟩ (c_L_cell (b := b) (xs := xs) hL k hk) (va_cwS 2 hts (k_wS wM_L_15 wT_yL_cell wI_L wC_yL_cell) rfl rfl rfl ⟨by decide, by decide, by decide +kernel⟩ ⟨by decide, by decide⟩) ⟨b_L_cell, fun U hU hWm => ⟨rfl, ?_⟩⟩ rfl rfl hl.1 rfl (lv_room hW) hdg hf) (fun r hr => ?_)
  · show va_X b L xs U U.heap
    rw [hU]
    exact (hX.kept (hS.2.1 b hbl (Nat.not_le.mpr hbl))).moved hWm.alike
  · have hr : r = if k < L then xs k else 0 := hr
    subst hr
    exact kk
