/-! place: it throws, and the law catches -/
def ZS (A : Nat → Prop) (U : State) (H : Heap) : Prop := vx_Zq Bundle.tN "UNASSIGNED_STACK" Bundle.steD A U H ∧ vx_Zq Bundle.tN "SUPPRESSED_SENTINEL" Bundle.listD A U H
/-- FlexCycles.place's contract: it answers, or throws -/
def KX (l : Launch) (D : va_G) (tys : List (ClassId × FieldType)) (av : List Value) (ws : va_W) (post : Int32 → Prop) (px : Prop) : Prop := ∀ sz : Nat, vx_Met l yX4_place (.code yX4_place cX4_place 4 (some .int) :: ALL) (rmN 7 1 6) (va_Pc av (fun U => kpre D tys ws sz U ∧ ZS (va_A ws sz) U U.heap)) (va_Qi (fun r (_ : Unit) => post r) (fun _ => kpost D tys (va_A ws sz) ws) (va_A ws sz)) (vx_X (fun _ : Unit => px) (fun E _ t => E = RJx00060 ∧ kpost D tys (va_A ws sz) ws t) (va_A ws sz)) 1 6 (va_A ws sz)
def TB5 : List Cond := [.declares ⟨"java/lang/IndexOutOfBoundsException", "<init>", "()V"⟩, .declares ⟨"java/lang/RuntimeException", "<init>", "()V"⟩, .declares ⟨"java/lang/Exception", "<init>", "()V"⟩, .declares ⟨"java/lang/Throwable", "<init>", "()V"⟩, .castable RJx00060 RJx00060]
theorem tb5_in : ∀ w ∈ (vx_at0 RX4 98 RJx00060 upX).filter (fun w => !goodWord w), w ∈ TB5 := by decide +kernel
theorem tb5_ot : ∀ w ∈ Cond.classLink RX4 96 RJx00060 :: Cond.initialized RJx00060 :: vx_at0 RX4 98 RJx00060 upX, vx_ot w = true := by decide +kernel
theorem tb5_ok {args : Array Value} {s : State} (hN : NW s) : ∀ w ∈ TB5, w.before args s = true := by
  obtain ⟨-, -, -, -, -, -, -, -, j, k, l, m, n⟩ := hN
  exact vx_c (va_Nw.use rfl j) (vx_c (va_Nw.use rfl k) (vx_c (va_Nw.use rfl l) (vx_c (va_Nw.use rfl m) (vx_c (va_Nw.use rfl n) vx_n))))
theorem KX.of {l : Launch} {D : va_G} {tys : List (ClassId × FieldType)} {av : List Value} {ws : va_W} {post : Int32 → Prop} {px : Prop} {lvs : List (Nat × Value)} (hst : l.stackTraces = false) (hn : (lg_sl av).length ≤ 4) (hlv : lv_args 0 av = lvs)
    (body : ∀ p e s m args below meth c (Q : State → Prop), Cx p s m args meth c cX4_place 4 RX4 (some .int) → va_K D vwCl tys s → NW s → va_P D vwCl ws s.heap → va_D (fun _ => True) ws → (∀ (v : Int32) (ls : Array Slot) (pc : Nat), decode cX4_place pc = .ok (.ireturn, 1) → post v → W p l e (rmN 7 1 6) s m args below meth c s.heap [] 0 0 Q (F0 m pc ls [.int v])) →
      (∀ ls : Array Slot, ls.size = 4 → px → W p l e (rmN 7 1 6) s m args below meth c s.heap [] 0 0 Q (F0 m 18 ls [])) → ∀ ls : Array Slot, lv_has ls 4 lvs → W p l e (rmN 7 1 6) s m args below meth c s.heap [] 0 0 Q (F0 m 0 ls [])) : KX l D tys av ws post px := by
  intro sz
  refine vx_ofW (cc := cX4_place) (maxL := 4) (ret := some .int) (by decide) rfl ?_
  intro p e s m args below meth c s₁ B hml htab hv
  obtain ⟨rfl, ⟨hsz, hP, hK, hD, hN⟩, hZU, hZN⟩ := hv
  subst hsz
  have hl := lv_entry av (n := 4) hn
  rw [hlv] at hl
  rw [lg_entry_eq]
  have X := cx_of (cd := .code yX4_place cX4_place 4 (some .int)) (own := RX4) rfl B hml
  have hDA : va_D (va_A ws s.heap.size) ws := hD.self
  obtain ⟨hx, hb, -, hown, hts, hr, hlk⟩ := id X
  refine body p e s m _ below meth c _ X hK hN hP hD (fun v ls pc d h => ?_) (fun ls hs h => ?_) _ hl
  · refine W.widen (k := 1) (n := 6) (by omega) (by omega) (vx_ret ?_)
    exact W.iret hx hb hr (fun t ht hW => ⟨⟨v, (), rfl, h, by rw [ht]; exact hP, va_K.moved hW.alike hK, hDA⟩, (va_S.rf (A := va_A ws s.heap.size)).F ht⟩) (fun q h => by cases h) d hlk
  · refine vx_throw0 (own := RX4) (cls := RJx00060) (names := upX) (ik := 96) (ic := 98) (mc := 1) (ms := 6) (A := va_A ws s.heap.size) hx hb hst hown (by decide) (by decide) (hts _ wL_X4_96) (hts _ wI_Jx00060) (vx_hat (fun w hw => hts w (inThr w hw)) tb5_in (tb5_ok hN)) tb5_ot hZU hZN va_S.rf (by rw [hml]; exact hs) dX4_place_18 dX4_place_21 dX4_place_22 dX4_place_25 (fun x hx => absurd (htab x hx) id) (by decide) (Nat.le_of_ble_eq_true rfl) (by decide) (by decide) hlk (fun t ht1 ht2 ht3 => ?_) (fun z hz => by cases hz) (by omega) (by omega)
    refine ⟨(), h, ⟨rfl, ?_, va_K.moved ht1 hK, hDA⟩, ht2, fun q h1 _ => ht3 q h1⟩
    intro k q hk
    exact (hP k q hk).kept (ht3 q.1 (hP k q hk).lt)
set_option maxHeartbeats 4000000 in
set_option maxRecDepth 100000 in
theorem c_X4_place {l : Launch} {D : va_G} {cI cZ cL : ClassId} {g : Nat → Nat} {sl mi n : Nat} {X : Nat → Nat → Int32} {cy ss ds fs : Nat} (hst : l.stackTraces = false) (hs1 : 1 ≤ sl) (hsl : sl ≤ 60) (hs : ss ≤ 100) (q cv : Int32) : KX l D (tyz cI cZ cL) [.ref (g 0), .int q, .int cv] (cw g cI cZ sl mi n X cy ss ds fs) (fun r => (inR q 0 (sl - 1) ∧ inR cv 0 63) ∧ ∃ o1 o2 : Int32, ((∃ i, i < ss ∧ ((X 13 i = q ∧ X 14 i &&& 1 ≠ 0) ∧ cv &&& (X 16 i - 1) = X 15 i) ∧ o1 = X 12 i) ∨ (o1 = 0 ∧ ∀ i, i < ss → ¬ ((X 13 i = q ∧ X 14 i &&& 1 ≠ 0) ∧ cv &&& (X 16 i - 1) = X 15 i))) ∧ (o1 = 0 → ((∃ i, i < ss ∧ ((X 13 i = q ∧ X 14 i &&& 2 ≠ 0) ∧ cv &&& (X 16 i - 1) = X 15 i) ∧ o2 = X 12 i) ∨ (o2 = 0 ∧ ∀ i, i < ss → ¬ ((X 13 i = q ∧ X 14 i &&& 2 ≠ 0) ∧ cv &&& (X 16 i - 1) = X 15 i)))) ∧ r = if o1 = 0 then o2 else o1) (¬ (inR q 0 (sl - 1) ∧ inR cv 0 63)) := by
  refine KX.of (lvs := [(0, .ref (g 0)), (1, .int q), (2, .int cv)]) hst (Nat.le_of_ble_eq_true rfl) rfl ?_
  intro p e s m args below meth c Q C hK hN hP hD ret thr ls hl
  obtain ⟨hx, hb, hml, hown, hts, hr9, hlk9⟩ := id C
  refine lv_aload_n hx hb dX4_place_0 rfl (lv_at hl 0 rfl) ?_
  refine lv_iload_n hx hb dX4_place_1 rfl (lv_at hl 1 rfl) ?_
  refine k_callR (D := D) C hK hN hP hD (c_X4_hasSlot hs1 hsl q) hl cf_yX4_hasSlot wM_X4_57 0 6 rfl rfl rfl rfl (Nat.le_of_ble_eq_true rfl) ⟨by decide, by decide⟩ ⟨Nat.le_of_ble_eq_true rfl, Nat.le_of_ble_eq_true rfl⟩ dX4_place_2 (fun r2 hr2 => ?_)
  have hr2 : r2 = (if inR q 0 (sl - 1) then 1 else 0) := hr2
  subst hr2
  refine k_ifeq_P (P := (inR q 0 (sl - 1))) (tgt := 18) hx hb rfl dX4_place_5 (by decide) (fun c5 => ?_) (fun c5 => ?_)
  · skip
    exact thr _ hl.1 (by first | exact fun z => c5 z.1 | exact fun z => c15 z.2)
  · skip
    refine lv_iload_n hx hb dX4_place_8 rfl (lv_at hl 2 rfl) ?_
    refine lv_iconst (v := 0) hx hb dX4_place_9 (by decide) ?_
    refine lv_bipush (v := 63) hx hb dX4_place_10 (by decide) ?_
    refine k_callS (D := D) C hK hN hP hD (c_X4_within cv 0 63) hl cf_yX4_within wM_X4_7 rfl rfl (Nat.le_of_ble_eq_true rfl) ⟨by decide, by decide⟩ ⟨Nat.le_of_ble_eq_true rfl, Nat.le_of_ble_eq_true rfl⟩ dX4_place_12 (fun r12 hr12 => ?_)
    have hr12 : r12 = (if 0 ≤ cv ∧ cv ≤ 63 then 1 else 0) := hr12
    subst hr12
    refine k_ifne_P (P := (0 ≤ cv ∧ cv ≤ 63)) (tgt := 26) hx hb rfl dX4_place_15 (by decide) (fun c15 => ?_) (fun c15 => ?_)
    · skip
      have c15 := (inR_iff (x := cv) (a := 0) (b := 63) (by omega) (by omega)).mp c15
      refine lv_aload_n hx hb dX4_place_26 rfl (lv_at hl 0 rfl) ?_
      refine va_get (D := D) (ci := 6) (v := .ref (g 2)) (C := RX4) (T := TX4) (N := 7) hx hb hts inX4 hown hK hP 0 rfl rfl 3 (by decide) (hts _ wF_X4_32) (fun _ h9 => h9) rfl dX4_place_27 ?_
      refine lv_iload_n hx hb dX4_place_30 rfl (lv_at hl 1 rfl) ?_
      refine lv_iconst (v := 1) hx hb dX4_place_31 (by decide) ?_
      refine lv_iload_n hx hb dX4_place_32 rfl (lv_at hl 2 rfl) ?_
      refine k_callR (D := D) C hK hN hP hD (c_X3_nodeAt hs q 1 cv) hl cf_yX3_nodeAt wM_X4_99 2 5 rfl rfl rfl rfl (Nat.le_of_ble_eq_true rfl) ⟨by decide, by decide⟩ ⟨Nat.le_of_ble_eq_true rfl, Nat.le_of_ble_eq_true rfl⟩ dX4_place_33 (fun r33 hr33 => ?_)
      refine lv_istore_n (lv' := [(3, .int r33), (0, .ref (g 0)), (1, .int q), (2, .int cv)]) hx hb dX4_place_36 rfl hl (by decide) rfl (fun ls hl => ?_)
      refine lv_iload_n hx hb dX4_place_37 rfl (lv_at hl 0 rfl) ?_
      refine lv_if_eq (tgt := 45) hx hb dX4_place_38 (by decide) (fun c38 => ?_) (fun c38 => ?_)
      · skip
        refine lv_aload_n hx hb dX4_place_45 rfl (lv_at hl 1 rfl) ?_
        refine va_get (D := D) (ci := 6) (v := .ref (g 2)) (C := RX4) (T := TX4) (N := 7) hx hb hts inX4 hown hK hP 0 rfl rfl 3 (by decide) (hts _ wF_X4_32) (fun _ h9 => h9) rfl dX4_place_46 ?_
        refine lv_iload_n hx hb dX4_place_49 rfl (lv_at hl 2 rfl) ?_
        refine lv_iconst (v := 2) hx hb dX4_place_50 (by decide) ?_
        refine lv_iload_n hx hb dX4_place_51 rfl (lv_at hl 3 rfl) ?_
        refine k_callR (D := D) C hK hN hP hD (c_X3_nodeAt hs q 2 cv) hl cf_yX3_nodeAt wM_X4_99 2 5 rfl rfl rfl rfl (Nat.le_of_ble_eq_true rfl) ⟨by decide, by decide⟩ ⟨Nat.le_of_ble_eq_true rfl, Nat.le_of_ble_eq_true rfl⟩ dX4_place_52 (fun r52 hr52 => ?_)
        exact ret _ _ _ dX4_place_55 ⟨⟨c5, c15⟩, r33, r52, hr33, fun _ => hr52, (ite_p c38)⟩
      · skip
        refine lv_iload_n hx hb dX4_place_41 rfl (lv_at hl 0 rfl) ?_
        refine lv_goto (tgt := 55) hx hb dX4_place_42 (by decide) ?_
        exact ret _ _ _ dX4_place_55 ⟨⟨c5, c15⟩, r33, 0, hr33, fun z => absurd z c38, (ite_n c38)⟩
    · skip
      have c15 := fun z => c15 ((inR_iff (x := cv) (a := 0) (b := 63) (by omega) (by omega)).mpr z)
      exact thr _ hl.1 (by first | exact fun z => c5 z.1 | exact fun z => c15 z.2)
/-- the law's reader of its script -/
theorem c_L_cell {l : Launch} {b L : Nat} {xs : Nat → Int32} (hL : L ≤ 3075) (k : Nat) (hk : k < 3) : Met l yL_cell (.code yL_cell cL_cell 2 (some .int) :: ALL) (rmK 0) (va_Pc [.ref b, .int (nI k)] (fun U => va_X b L xs U U.heap)) (vp_Si (fun r => r = if k < L then xs k else 0)) 0 0 (fun _ => False) := by
  refine Met.ofW (cc := cL_cell) (maxL := 2) (ret := some .int) (by decide) rfl ?_
  intro p e s m args below meth c s₁ B hml hv
  obtain ⟨rfl, hX⟩ := hv
  have C := cx_of (cd := .code yL_cell cL_cell 2 (some .int)) (own := RL) rfl B hml
  obtain ⟨hx, hb, -, hown, hts, hr, hlk⟩ := id C
  have hbl : b < s.heap.size := by
    obtain ⟨scr, h1, -⟩ := hX
    exact (Array.getElem?_eq_some_iff.mp h1).1
  have hS : va_S (fun _ => False) s.heap s.heap [] := va_S.rf
  have hbA : ¬ (fun _ : Nat => False) b := id
  have hl := lv_entry [.ref b, .int (nI k)] (n := 2) (Nat.le_of_ble_eq_true rfl)
  rw [lg_entry_eq]
  generalize (lg_sl ([.ref b, .int (nI k)]) ++ List.replicate (2 - (lg_sl ([.ref b, .int (nI k)])).length) Slot.unset).toArray = ls at hl ⊢
  have hl : lv_has ls 2 [(0, .ref b), (1, .int (nI k))] := hl
  refine lv_iload_n hx hb dL_cell_0 rfl (lv_at hl 1 rfl) ?_
  refine lv_aload_n hx hb dL_cell_1 rfl (lv_at hl 0 rfl) ?_
  refine va_slen hx hb hX hbl hbA hS dL_cell_2 ?_
  refine k_icmp_ge (tgt := 12) hx hb k L rfl rfl (by omega) (by omega) dL_cell_3 (by decide) (fun c3 => ?_) (fun c3 => ?_)
  · refine lv_iconst (v := 0) hx hb dL_cell_12 (by decide) ?_
    exact k_retR C dL_cell_13 (ite_n (by omega))
  · refine lv_aload_n hx hb dL_cell_6 rfl (lv_at hl 0 rfl) ?_
    refine lv_iload_n hx hb dL_cell_7 rfl (lv_at hl 1 rfl) ?_
    refine va_sld hx hb hX hbl hbA hS (vp_in_nI c3 (by omega)) dL_cell_8 ?_
    rw [nI_clamp (by omega)]
    refine lv_goto (tgt := 13) hx hb dL_cell_9 (by decide) ?_
    exact k_retR C dL_cell_13 (ite_p c3)
theorem b_L_cell {b L k : Nat} {xs : Nat → Int32} : FrameBlind (va_Pc [.ref b, .int (nI k)] (fun U => va_X b L xs U U.heap)) := fun a U g mk q => ⟨q.1, va_X.moved (u := U) (U := U.calling g mk a) (Vm.Alike.refl U.vm) q.2⟩
/-- the law's place(x, q, cv, out): 1 if place throws, 0 and the answer in out[0] if not -/
def PlPost (X : Nat → Nat → Int32) (sl ss : Nat) (q cv r : Int32) (f f' : Nat → Int64) : Prop := (r = 1 ∧ ¬ (inR q 0 (sl - 1) ∧ inR cv 0 63) ∧ f' = f) ∨ (r = 0 ∧ ∃ v : Int32, ((inR q 0 (sl - 1) ∧ inR cv 0 63) ∧ ∃ o1 o2 : Int32, ((∃ i, i < ss ∧ ((X 13 i = q ∧ X 14 i &&& 1 ≠ 0) ∧ cv &&& (X 16 i - 1) = X 15 i) ∧ o1 = X 12 i) ∨ (o1 = 0 ∧ ∀ i, i < ss → ¬ ((X 13 i = q ∧ X 14 i &&& 1 ≠ 0) ∧ cv &&& (X 16 i - 1) = X 15 i))) ∧ (o1 = 0 → ((∃ i, i < ss ∧ ((X 13 i = q ∧ X 14 i &&& 2 ≠ 0) ∧ cv &&& (X 16 i - 1) = X 15 i) ∧ o2 = X 12 i) ∨ (o2 = 0 ∧ ∀ i, i < ss → ¬ ((X 13 i = q ∧ X 14 i &&& 2 ≠ 0) ∧ cv &&& (X 16 i - 1) = X 15 i)))) ∧ v = if o1 = 0 then o2 else o1) ∧ f' 0 = v.toInt64)
set_option maxHeartbeats 4000000 in
set_option maxRecDepth 100000 in
theorem c_L_place {l : Launch} {D : va_G} {cI cZ cL : ClassId} {g : Nat → Nat} {sl mi n : Nat} {X : Nat → Nat → Int32} {cy ss ds fs : Nat} (hst : l.stackTraces = false) (hs1 : 1 ≤ sl) (hsl : sl ≤ 60) (hs : ss ≤ 100) (qo : Nat) (f : Nat → Int64) (q cv : Int32) (sz : Nat) :
    Met l yL_place (.codeWith yL_place cL_place 5 (some .int) [(0, 10, 13, 13)] :: ALL) (rmN 8 1 6) (va_Pc [.ref (g 0), .int q, .int cv, .ref qo] (fun U => kpre D (tyz cI cZ cL) (cw g cI cZ sl mi n X cy ss ds fs ++ [(qo, .inl (cL, 1, .inr (.inl f)))]) sz U ∧ ZS (va_A (cw g cI cZ sl mi n X cy ss ds fs ++ [(qo, .inl (cL, 1, .inr (.inl f)))]) sz) U U.heap))
      (va_Qi (fun r (f' : Nat → Int64) => PlPost X sl ss q cv r f f') (fun f' => kpost D (tyz cI cZ cL) (va_A (cw g cI cZ sl mi n X cy ss ds fs ++ [(qo, .inl (cL, 1, .inr (.inl f)))]) sz) (cw g cI cZ sl mi n X cy ss ds fs ++ [(qo, .inl (cL, 1, .inr (.inl f')))])) (va_A (cw g cI cZ sl mi n X cy ss ds fs ++ [(qo, .inl (cL, 1, .inr (.inl f)))]) sz)) 1 6 (va_A (cw g cI cZ sl mi n X cy ss ds fs ++ [(qo, .inl (cL, 1, .inr (.inl f)))]) sz) := by
  refine va_MetW (cc := cL_place) (maxL := 5) (ret := some .int) (by decide) rfl ?_
  intro p e s m args below meth c s₁ B hml hv
  obtain ⟨rfl, ⟨hsz, hP, hK, hD0, hN⟩, hZU, hZN⟩ := hv
  subst hsz
  have C := cx_of (cd := .codeWith yL_place cL_place 5 (some .int) [(0, 10, 13, 13)]) (own := RL) rfl B hml
  obtain ⟨hx, hb, -, hown, hts, hr, hlk⟩ := id C
  have htab : c.exceptionTable.toList = tableOf [(0, 10, 13, 13)] := vx_table (x := yL_place) B (hts _ wC_yL_place)
  generalize hAe : va_A (cw g cI cZ sl mi n X cy ss ds fs ++ [(qo, .inl (cL, 1, .inr (.inl f)))]) s.heap.size = A at hZU hZN ⊢
  have hD : va_D A (cw g cI cZ sl mi n X cy ss ds fs ++ [(qo, .inl (cL, 1, .inr (.inl f)))]) := by rw [← hAe]; exact hD0.self
  have hA : ∀ q : Nat, s.heap.size ≤ q → A q := fun q h => by rw [← hAe]; exact Or.inr h
  have hS : va_S A s.heap s.heap [] := va_S.rf
  have hl := lv_entry [.ref (g 0), .int q, .int cv, .ref qo] (n := 5) (Nat.le_of_ble_eq_true rfl)
  rw [lg_entry_eq]
  generalize (lg_sl ([.ref (g 0), .int q, .int cv, .ref qo]) ++ List.replicate (5 - (lg_sl ([.ref (g 0), .int q, .int cv, .ref qo])).length) Slot.unset).toArray = ls at hl ⊢
  have hl : lv_has ls 5 [(0, .ref (g 0)), (1, .int q), (2, .int cv), (3, .ref qo)] := hl
  have hCm : ([0, 1, 2, 3, 4, 5, 6, 7, 8, 9, 10, 11, 12, 13, 14, 15, 16, 17, 18, 19, 20, 21, 22, 23, 24]).map (fun i => (cw g cI cZ sl mi n X cy ss ds fs ++ [(qo, .inl (cL, 1, .inr (.inl f)))])[i]?) = (cw g cI cZ sl mi n X cy ss ds fs).map some := rfl
  have hRm : [25].map (fun i => (cw g cI cZ sl mi n X cy ss ds fs ++ [(qo, .inl (cL, 1, .inr (.inl f)))])[i]?) = ([(qo, .inl (cL, 1, .inr (.inl f)))] : va_W).map some := rfl
  have hPc := hP.sub (ws' := cw g cI cZ sl mi n X cy ss ds fs) [0, 1, 2, 3, 4, 5, 6, 7, 8, 9, 10, 11, 12, 13, 14, 15, 16, 17, 18, 19, 20, 21, 22, 23, 24] (k_fm hCm)
  have hDc := hD.sub (ws' := cw g cI cZ sl mi n X cy ss ds fs) [0, 1, 2, 3, 4, 5, 6, 7, 8, 9, 10, 11, 12, 13, 14, 15, 16, 17, 18, 19, 20, 21, 22, 23, 24] (by decide) hCm
  have hF := va_free (wc := cw g cI cZ sl mi n X cy ss ds fs) hD hS hA [0, 1, 2, 3, 4, 5, 6, 7, 8, 9, 10, 11, 12, 13, 14, 15, 16, 17, 18, 19, 20, 21, 22, 23, 24] hCm
  refine lv_aload_n hx hb dL_place_0 rfl (lv_at hl 3 rfl) ?_
  refine lv_iconst (v := 0) hx hb dL_place_1 (by decide) ?_
  refine lv_aload_n hx hb dL_place_2 rfl (lv_at hl 0 rfl) ?_
  refine lv_iload_n hx hb dL_place_3 rfl (lv_at hl 1 rfl) ?_
  refine lv_iload_n hx hb dL_place_4 rfl (lv_at hl 2 rfl) ?_
  obtain ⟨⟨f1, f2, f3, f4⟩, f5⟩ := cf_yX4_place
  refine vx_calli (vx_runV (As := [.int q, .int cv]) (rest := [.int 0, .ref qo]) (C := RX4) ⟨hx, hb, hml, hown, hts⟩ (c_X4_place (D := D) (cL := cL) (X := X) (mi := mi) (n := n) (cy := cy) (ds := ds) (fs := fs) hst hs1 hsl hs q cv s.heap.size) (cwV 2 hts (k_wV wM_L_7 f1 f2 f3 f4) rfl rfl rfl f5 ⟨by decide, by decide⟩)
      ⟨fun a U g mk q => ⟨q.1, (k_blind (av := [.ref _, .int _, .int _]) a U g mk ⟨q.1, q.2.1⟩).2, vx_Zq.moved (Vm.Alike.refl U.vm) q.2.2.1, vx_Zq.moved (Vm.Alike.refl U.vm) q.2.2.2⟩, va_recv hK hPc (ci := 6) (q0 := 0) rfl rfl, fun U hU hW => ⟨rfl, (k_preU hK hN hPc hDc [.ref (g 0), .int q, .int cv] U hU hW).2, ?_⟩⟩ rfl rfl hl.1 rfl (lv_room (Nat.le_of_ble_eq_true rfl)) dL_place_5 ⟨by decide, by decide⟩) hS (fun q _ h => hF q h) hF (fun q _ h => hF q h) ?_ ?_
  · have z1 := hZU.narrow hF
    have z2 := hZN.narrow hF
    rw [hU]
    exact ⟨vx_Zq.moved hW.alike z1, vx_Zq.moved hW.alike z2⟩
  · intro E ce q9 u t H1 locs1 ht hvm hpx hB hz hk hS1 hce hcv hcl
    obtain ⟨rfl, hP1, hK1, hD1⟩ := hB
    rw [ht] at hP1
    obtain ⟨hP2, hD2⟩ := va_join (wr := [(qo, .inl (cL, 1, .inr (.inl f)))]) (w1 := cw g cI cZ sl mi n X cy ss ds fs) hP hD [0, 1, 2, 3, 4, 5, 6, 7, 8, 9, 10, 11, 12, 13, 14, 15, 16, 17, 18, 19, 20, 21, 22, 23, 24] [25] hCm hRm (by decide) (by decide) hk hF hP1 hD1
    have hx9 := hx
    refine vx_catch (own := RL) (name := "java/lang/ArrayIndexOutOfBoundsException") hown [] (tableOf [(0, 10, 13, 13)]).head! [] (by rw [htab]; rfl) (fun z hz => by cases hz) (by decide) (by decide) (hts _ wL_L_13) (va_Nw.use rfl hN.2.2.2.2.2.2.2.2.2.2.2.2) hce hcv hcl ?_
    show W p l e _ s m _ below meth c H1 locs1 _ _ _ (F0 m 13 ls [.ref q9])
    refine lv_astore (lv' := [(4, .ref q9), (0, .ref (g 0)), (1, .int q), (2, .int cv), (3, .ref qo)]) hx hb dL_place_13 hl (by decide) rfl (fun ls hl => ?_)
    refine lv_iconst (v := 1) hx hb dL_place_15 (by decide) ?_
    exact W.iret hx hb hr (fun t ht hW => ⟨⟨1, f, rfl, Or.inl ⟨rfl, hpx, rfl⟩, by rw [ht]; exact hP2.sub [1, 2, 3, 4, 5, 6, 7, 8, 9, 10, 11, 12, 13, 14, 15, 16, 17, 18, 19, 20, 21, 22, 23, 24, 25, 0] rfl, va_K.moved hW.alike hK, hD2.sub [1, 2, 3, 4, 5, 6, 7, 8, 9, 10, 11, 12, 13, 14, 15, 16, 17, 18, 19, 20, 21, 22, 23, 24, 25, 0] (by decide) rfl⟩, hS1.F ht⟩) hS1.2.2 dL_place_16 hlk
  · intro r u t H1 locs1 ht hvm hpo hB hz hk hS1
    obtain ⟨hP1, hK1, hD1⟩ := hB
    rw [ht] at hP1
    obtain ⟨hP2, hD2⟩ := va_join (wr := [(qo, .inl (cL, 1, .inr (.inl f)))]) (w1 := cw g cI cZ sl mi n X cy ss ds fs) hP hD [0, 1, 2, 3, 4, 5, 6, 7, 8, 9, 10, 11, 12, 13, 14, 15, 16, 17, 18, 19, 20, 21, 22, 23, 24] [25] hCm hRm (by decide) (by decide) hk hF hP1 hD1
    refine lv_i2l hx hb dL_place_8 rfl ?_
    refine va_last hx hb hK hP2 hD2 hS1 0 2 rfl rfl (i := 0) (vp_in_nI (n := 0) (N := 1) (by decide) (by decide)) dL_place_9 (fun H locs hP hD hS => ?_)
    refine lv_goto (tgt := 17) hx hb dL_place_10 (by decide) ?_
    refine lv_iconst (v := 0) hx hb dL_place_17 (by decide) ?_
    exact W.iret hx hb hr (fun t ht hW => ⟨⟨0, vp_updL f (0 : Int32).toNatClampNeg r.toInt64, rfl, Or.inr ⟨rfl, r, hpo, by rfl⟩, by rw [ht]; exact hP.sub [1, 2, 3, 4, 5, 6, 7, 8, 9, 10, 11, 12, 13, 14, 15, 16, 17, 18, 19, 20, 21, 22, 23, 24, 25, 0] rfl, va_K.moved hW.alike hK, hD.sub [1, 2, 3, 4, 5, 6, 7, 8, 9, 10, 11, 12, 13, 14, 15, 16, 17, 18, 19, 20, 21, 22, 23, 24, 25, 0] (by decide) rfl⟩, hS.F ht⟩) hS.2.2 dL_place_18 hlk
