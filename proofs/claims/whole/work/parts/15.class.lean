/-! the class -/
theorem ite_c {p q : Prop} [Decidable p] [Decidable q] (h : p ↔ q) : (if p then (1 : Int32) else 0) = if q then 1 else 0 := by simp only [h]
theorem inR_iff {x : Int32} {a b : Nat} (ha : a < 2147483648) (hb : b < 2147483648) : (nI a ≤ x ∧ x ≤ nI b) ↔ inR x a b := by
  unfold inR
  rw [Int32.le_iff_toInt_le, Int32.le_iff_toInt_le, nI_toInt ha, nI_toInt hb]
theorem SU_keep {X u : Nat → Nat → Int32} {n : Nat} (h : SU X u n) : ∀ a, a ≠ 1 → a ≠ 2 → a ≠ 6 → u a = X a := by
  intro a h1 h2 h6
  obtain ⟨k, -, ⟨-, -, h⟩ | ⟨-, -, -, h⟩ | ⟨-, -, rfl⟩⟩ := h
  · exact h a h1 h2 h6
  · exact h a h1
  · rfl
/-- a cycle of the class, its parts in their order -/
def RunC (sl mi n ss : Nat) (X : Nat → Nat → Int32) (cy ds : Nat) (r : Int32) (X6 : Nat → Nat → Int32) (ds6 : Nat) : Prop :=
  ∃ (X1 X2 X3 X4 X5 : Nat → Nat → Int32) (r1 : Int32) (d : Nat), SU X X1 n ∧
    (r1 = nI (cnz (fun i => decide (Dn (fun i => decide (nI cy &&& (X1 16 i - 1) = X1 15 i)) (X1 1) (X1 12) (X1 13) (X1 14) (X1 20) i)) ss) ∧ (∀ j, 1 ≤ j → j ≤ n → (X2 7 j ≠ 0 ↔ ∃ i, i < ss ∧ Dn (fun i => decide (nI cy &&& (X1 16 i - 1) = X1 15 i)) (X1 1) (X1 12) (X1 13) (X1 14) (X1 20) i ∧ (X1 12 i).toNatClampNeg = j)) ∧ ∀ a, a ≠ 7 → X2 a = X1 a) ∧
    ((dl X3 17 18 19 ds6, d) = dyn (pm (X2 1)) mi 60 1 (dl X2 17 18 19 ds) 1 0 ∧ ds6 ≤ ds ∧ DyI (X3 17) (X3 19) n ds6 ∧ ∀ a, a ≠ 17 → a ≠ 18 → a ≠ 19 → X3 a = X2 a) ∧
    ((∀ j, 1 ≤ j → j ≤ n → CR X3 X4 n j (if nI cy &&& 1 = 1 then 1 else 0)) ∧ ∀ a, a ≠ 1 → a ≠ 2 → a ≠ 4 → a ≠ 8 → a ≠ 9 → a ≠ 10 → a ≠ 11 → X4 a = X3 a) ∧
    ((∀ j, 1 ≤ j → j ≤ n → X5 2 j = if X4 1 j = 4 then X4 2 j else X4 2 j + (X4 3 j + X4 4 j)) ∧ ∀ a, a ≠ 2 → X5 a = X4 a) ∧
    ((∀ q, q < sl → X6 20 q = 0) ∧ ∀ a, a ≠ 20 → X6 a = X5 a) ∧ r = r1 + nI d
theorem RunC_keep {sl mi n ss : Nat} {X : Nat → Nat → Int32} {cy ds : Nat} {r : Int32} {X6 : Nat → Nat → Int32} {ds6 : Nat} (h : RunC sl mi n ss X cy ds r X6 ds6) : ∀ a, (a = 3 ∨ a = 5 ∨ a = 12 ∨ a = 13 ∨ a = 14 ∨ a = 15 ∨ a = 16) → X6 a = X a := by
  obtain ⟨X1, X2, X3, X4, X5, r1, d, h1, h2, h3, h4, h5, h6, -⟩ := h
  intro a ha
  rcases ha with rfl | rfl | rfl | rfl | rfl | rfl | rfl <;>
    rw [h6.2 _ (by decide), h5.2 _ (by decide), h4.2 _ (by decide) (by decide) (by decide) (by decide) (by decide) (by decide) (by decide), h3.2.2.2 _ (by decide) (by decide) (by decide), h2.2.2 _ (by decide), SU_keep h1 _ (by decide) (by decide) (by decide)]
theorem RunC_ds {sl mi n ss : Nat} {X : Nat → Nat → Int32} {cy ds : Nat} {r : Int32} {X6 : Nat → Nat → Int32} {ds6 : Nat} (h : RunC sl mi n ss X cy ds r X6 ds6) : ds6 ≤ ds := by
  obtain ⟨X1, X2, X3, X4, X5, r1, d, h1, h2, h3, h4, h5, h6, -⟩ := h
  exact h3.2.1
theorem RunC_dy {sl mi n ss : Nat} {X : Nat → Nat → Int32} {cy ds : Nat} {r : Int32} {X6 : Nat → Nat → Int32} {ds6 : Nat} (h : RunC sl mi n ss X cy ds r X6 ds6) : DyI (X6 17) (X6 19) n ds6 := by
  obtain ⟨X1, X2, X3, X4, X5, r1, d, h1, h2, h3, h4, h5, h6, -⟩ := h
  rw [h6.2 _ (by decide), h5.2 _ (by decide), h4.2 _ (by decide) (by decide) (by decide) (by decide) (by decide) (by decide) (by decide), h6.2 _ (by decide), h5.2 _ (by decide), h4.2 _ (by decide) (by decide) (by decide) (by decide) (by decide) (by decide) (by decide)]
  exact h3.2.2.1
/-- so many cycles -/
def RunS (sl mi n ss : Nat) : Nat → (Nat → Nat → Int32) × Nat × Nat × Nat → Int32 → (Nat → Nat → Int32) × Nat × Nat × Nat → Prop
  | 0, S, r, S2 => r = 0 ∧ S2 = S
  | k + 1, S, r, S2 => ∃ (S1 : (Nat → Nat → Int32) × Nat × Nat × Nat) (r1 r2 : Int32) (X2 : Nat → Nat → Int32) (d2 : Nat), RunS sl mi n ss k S r1 S1 ∧ RunC sl mi n ss S1.1 S1.2.1 S1.2.2.1 r2 X2 d2 ∧ r = r1 + r2 ∧ S2 = (X2, S1.2.1 + 1, d2, 0)
theorem RunS_step {sl mi n ss k : Nat} {S : (Nat → Nat → Int32) × Nat × Nat × Nat} {r1 r2 : Int32} {X X2 : Nat → Nat → Int32} {cy ds fs d2 : Nat} (h : RunS sl mi n ss k S r1 (X, cy, ds, fs)) (h2 : RunC sl mi n ss X cy ds r2 X2 d2) : RunS sl mi n ss (k + 1) S (r1 + r2) (X2, cy + 1, d2, 0) := ⟨(X, cy, ds, fs), r1, r2, X2, d2, h, h2, rfl, rfl⟩
set_option maxHeartbeats 4000000 in
set_option maxRecDepth 100000 in
theorem c_X4_hasSlot {l : Launch} {D : va_G} {cI cZ cL : ClassId} {g : Nat → Nat} {sl mi n : Nat} {X : Nat → Nat → Int32} {cy ss ds fs : Nat} (hs1 : 1 ≤ sl) (hsl : sl ≤ 60) (x : Int32) : KR l yX4_hasSlot (.code yX4_hasSlot cX4_hasSlot 2 (some .boolean)) 1 D (tyz cI cZ cL) [.ref (g 0), .int x] (cw g cI cZ sl mi n X cy ss ds fs) (fun r => r = if inR x 0 (sl - 1) then 1 else 0) := by
  refine KR.ofz (own := RX4) (lvs := [(0, .ref (g 0)), (1, .int x)]) (by decide) rfl (Nat.le_of_ble_eq_true rfl) rfl ?_
  intro p e s m args below meth c Q C hK hN hP hD ret ls hl
  obtain ⟨hx, hb, hml, hown, hts, hr9, hlk9⟩ := id C
  refine lv_iload_n hx hb dX4_hasSlot_0 rfl (lv_at hl 1 rfl) ?_
  refine lv_iconst (v := 0) hx hb dX4_hasSlot_1 (by decide) ?_
  refine lv_aload_n hx hb dX4_hasSlot_2 rfl (lv_at hl 0 rfl) ?_
  refine va_get (D := D) (ci := 6) (v := .int (nI sl)) (C := RX4) (T := TX4) (N := 7) hx hb hts inX4 hown hK hP 0 rfl rfl 0 (by decide) (hts _ wF_X4_13) (fun _ h9 => h9) rfl dX4_hasSlot_3 ?_
  refine lv_iconst (v := 1) hx hb dX4_hasSlot_6 (by decide) ?_
  refine k_isub hx hb sl 1 rfl rfl (by omega) dX4_hasSlot_7 ?_
  refine k_callS (D := D) C hK hN hP hD (c_X4_within x 0 (nI (sl - 1))) hl cf_yX4_within wM_X4_7 rfl rfl (Nat.le_of_ble_eq_true rfl) ⟨by decide, by decide⟩ ⟨Nat.le_of_ble_eq_true rfl, Nat.le_of_ble_eq_true rfl⟩ dX4_hasSlot_8 (fun r8 hr8 => ?_)
  have hr8 : r8 = (if 0 ≤ x ∧ x ≤ (nI (sl - 1)) then 1 else 0) := hr8
  subst hr8
  exact ret _ _ _ dX4_hasSlot_11 (ite01 _) (ite_c (inR_iff (x := x) (a := 0) (b := sl - 1) (by omega) (by omega)))
set_option maxHeartbeats 4000000 in
set_option maxRecDepth 100000 in
theorem c_X4_state {l : Launch} {D : va_G} {cI cZ cL : ClassId} {g : Nat → Nat} {sl mi n : Nat} {X : Nat → Nat → Int32} {cy ss ds fs : Nat} (hn : n ≤ 16) (x : Int32) : KR l yX4_state (.code yX4_state cX4_state 2 (some .int)) 1 D (tyz cI cZ cL) [.ref (g 0), .int x] (cw g cI cZ sl mi n X cy ss ds fs) (fun r => r = if inR x 1 n then X 1 x.toNatClampNeg else -1) := by
  refine KR.of (own := RX4) (lvs := [(0, .ref (g 0)), (1, .int x)]) (by decide) rfl (Nat.le_of_ble_eq_true rfl) rfl ?_
  intro p e s m args below meth c Q C hK hN hP hD ret ls hl
  obtain ⟨hx, hb, hml, hown, hts, hr9, hlk9⟩ := id C
  refine lv_aload_n hx hb dX4_state_0 rfl (lv_at hl 0 rfl) ?_
  refine va_get (D := D) (ci := 6) (v := .ref (g 1)) (C := RX4) (T := TX4) (N := 7) hx hb hts inX4 hown hK hP 0 rfl rfl 2 (by decide) (hts _ wF_X4_25) (fun _ h9 => h9) rfl dX4_state_1 ?_
  refine lv_iload_n hx hb dX4_state_4 rfl (lv_at hl 1 rfl) ?_
  refine k_callR (D := D) C hK hN hP hD (c_X2_has hn x) hl cf_yX2_has wM_X4_53 1 4 rfl rfl rfl rfl (Nat.le_of_ble_eq_true rfl) ⟨by decide, by decide⟩ ⟨Nat.le_of_ble_eq_true rfl, Nat.le_of_ble_eq_true rfl⟩ dX4_state_5 (fun r5 hr5 => ?_)
  have hr5 : r5 = (if inR x 1 n then 1 else 0) := hr5
  subst hr5
  refine k_ifeq_P (P := (inR x 1 n)) (tgt := 23) hx hb rfl dX4_state_8 (by decide) (fun c8 => ?_) (fun c8 => ?_)
  · skip
    refine lv_iconst (v := (-1)) hx hb dX4_state_23 (by decide) ?_
    exact ret _ _ _ dX4_state_24 (ite_n c8)
  · skip
    obtain ⟨j, hj1, hj2, rfl⟩ := inR_of c8
    refine lv_aload_n hx hb dX4_state_11 rfl (lv_at hl 0 rfl) ?_
    refine va_get (D := D) (ci := 6) (v := .ref (g 1)) (C := RX4) (T := TX4) (N := 7) hx hb hts inX4 hown hK hP 0 rfl rfl 2 (by decide) (hts _ wF_X4_25) (fun _ h9 => h9) rfl dX4_state_12 ?_
    refine va_getN (host := "FlexCycles") (ref := "FlexCycles$Nodes") (D := D) (ci := 4) (v := .ref (g 11)) (C := RX2) (T := TX2) (N := 12) hx hb hts inX2 hown hK hP 1 rfl rfl 1 (by decide) (va_Nw.use rfl hN.1) (fun _ h9 => h9) rfl dX4_state_15 ?_
    refine lv_iload_n hx hb dX4_state_18 rfl (lv_at hl 1 rfl) ?_
    refine k_iald (D := D) (f := X 1) hx hb hK hP 5 0 rfl rfl j rfl (by omega) (by omega) dX4_state_19 ?_
    refine lv_goto (tgt := 24) hx hb dX4_state_20 (by decide) ?_
    exact ret _ _ _ dX4_state_24 (by rw [if_pos c8, nI_clamp (by omega)])
set_option maxHeartbeats 4000000 in
set_option maxRecDepth 100000 in
theorem c_X4_offset {l : Launch} {D : va_G} {cI cZ cL : ClassId} {g : Nat → Nat} {sl mi n : Nat} {X : Nat → Nat → Int32} {cy ss ds fs : Nat} (hn : n ≤ 16) (x : Int32) : KR l yX4_offset (.code yX4_offset cX4_offset 2 (some .int)) 1 D (tyz cI cZ cL) [.ref (g 0), .int x] (cw g cI cZ sl mi n X cy ss ds fs) (fun r => r = if inR x 1 n then X 2 x.toNatClampNeg else 0) := by
  refine KR.of (own := RX4) (lvs := [(0, .ref (g 0)), (1, .int x)]) (by decide) rfl (Nat.le_of_ble_eq_true rfl) rfl ?_
  intro p e s m args below meth c Q C hK hN hP hD ret ls hl
  obtain ⟨hx, hb, hml, hown, hts, hr9, hlk9⟩ := id C
  refine lv_aload_n hx hb dX4_offset_0 rfl (lv_at hl 0 rfl) ?_
  refine va_get (D := D) (ci := 6) (v := .ref (g 1)) (C := RX4) (T := TX4) (N := 7) hx hb hts inX4 hown hK hP 0 rfl rfl 2 (by decide) (hts _ wF_X4_25) (fun _ h9 => h9) rfl dX4_offset_1 ?_
  refine lv_iload_n hx hb dX4_offset_4 rfl (lv_at hl 1 rfl) ?_
  refine k_callR (D := D) C hK hN hP hD (c_X2_has hn x) hl cf_yX2_has wM_X4_53 1 4 rfl rfl rfl rfl (Nat.le_of_ble_eq_true rfl) ⟨by decide, by decide⟩ ⟨Nat.le_of_ble_eq_true rfl, Nat.le_of_ble_eq_true rfl⟩ dX4_offset_5 (fun r5 hr5 => ?_)
  have hr5 : r5 = (if inR x 1 n then 1 else 0) := hr5
  subst hr5
  refine k_ifeq_P (P := (inR x 1 n)) (tgt := 23) hx hb rfl dX4_offset_8 (by decide) (fun c8 => ?_) (fun c8 => ?_)
  · skip
    refine lv_iconst (v := 0) hx hb dX4_offset_23 (by decide) ?_
    exact ret _ _ _ dX4_offset_24 (ite_n c8)
  · skip
    obtain ⟨j, hj1, hj2, rfl⟩ := inR_of c8
    refine lv_aload_n hx hb dX4_offset_11 rfl (lv_at hl 0 rfl) ?_
    refine va_get (D := D) (ci := 6) (v := .ref (g 1)) (C := RX4) (T := TX4) (N := 7) hx hb hts inX4 hown hK hP 0 rfl rfl 2 (by decide) (hts _ wF_X4_25) (fun _ h9 => h9) rfl dX4_offset_12 ?_
    refine va_getN (host := "FlexCycles") (ref := "FlexCycles$Nodes") (D := D) (ci := 4) (v := .ref (g 12)) (C := RX2) (T := TX2) (N := 12) hx hb hts inX2 hown hK hP 1 rfl rfl 2 (by decide) (va_Nw.use rfl hN.2.1) (fun _ h9 => h9) rfl dX4_offset_15 ?_
    refine lv_iload_n hx hb dX4_offset_18 rfl (lv_at hl 1 rfl) ?_
    refine k_iald (D := D) (f := X 2) hx hb hK hP 6 0 rfl rfl j rfl (by omega) (by omega) dX4_offset_19 ?_
    refine lv_goto (tgt := 24) hx hb dX4_offset_20 (by decide) ?_
    exact ret _ _ _ dX4_offset_24 (by rw [if_pos c8, nI_clamp (by omega)])
set_option maxHeartbeats 4000000 in
set_option maxRecDepth 100000 in
theorem c_X4_rate {l : Launch} {D : va_G} {cI cZ cL : ClassId} {g : Nat → Nat} {sl mi n : Nat} {X : Nat → Nat → Int32} {cy ss ds fs : Nat} (hn : n ≤ 16) (x : Int32) : KR l yX4_rate (.code yX4_rate cX4_rate 2 (some .int)) 1 D (tyz cI cZ cL) [.ref (g 0), .int x] (cw g cI cZ sl mi n X cy ss ds fs) (fun r => r = if inR x 1 n then X 4 x.toNatClampNeg else 0) := by
  refine KR.of (own := RX4) (lvs := [(0, .ref (g 0)), (1, .int x)]) (by decide) rfl (Nat.le_of_ble_eq_true rfl) rfl ?_
  intro p e s m args below meth c Q C hK hN hP hD ret ls hl
  obtain ⟨hx, hb, hml, hown, hts, hr9, hlk9⟩ := id C
  refine lv_aload_n hx hb dX4_rate_0 rfl (lv_at hl 0 rfl) ?_
  refine va_get (D := D) (ci := 6) (v := .ref (g 1)) (C := RX4) (T := TX4) (N := 7) hx hb hts inX4 hown hK hP 0 rfl rfl 2 (by decide) (hts _ wF_X4_25) (fun _ h9 => h9) rfl dX4_rate_1 ?_
  refine lv_iload_n hx hb dX4_rate_4 rfl (lv_at hl 1 rfl) ?_
  refine k_callR (D := D) C hK hN hP hD (c_X2_has hn x) hl cf_yX2_has wM_X4_53 1 4 rfl rfl rfl rfl (Nat.le_of_ble_eq_true rfl) ⟨by decide, by decide⟩ ⟨Nat.le_of_ble_eq_true rfl, Nat.le_of_ble_eq_true rfl⟩ dX4_rate_5 (fun r5 hr5 => ?_)
  have hr5 : r5 = (if inR x 1 n then 1 else 0) := hr5
  subst hr5
  refine k_ifeq_P (P := (inR x 1 n)) (tgt := 23) hx hb rfl dX4_rate_8 (by decide) (fun c8 => ?_) (fun c8 => ?_)
  · skip
    refine lv_iconst (v := 0) hx hb dX4_rate_23 (by decide) ?_
    exact ret _ _ _ dX4_rate_24 (ite_n c8)
  · skip
    obtain ⟨j, hj1, hj2, rfl⟩ := inR_of c8
    refine lv_aload_n hx hb dX4_rate_11 rfl (lv_at hl 0 rfl) ?_
    refine va_get (D := D) (ci := 6) (v := .ref (g 1)) (C := RX4) (T := TX4) (N := 7) hx hb hts inX4 hown hK hP 0 rfl rfl 2 (by decide) (hts _ wF_X4_25) (fun _ h9 => h9) rfl dX4_rate_12 ?_
    refine va_getN (host := "FlexCycles") (ref := "FlexCycles$Nodes") (D := D) (ci := 4) (v := .ref (g 14)) (C := RX2) (T := TX2) (N := 12) hx hb hts inX2 hown hK hP 1 rfl rfl 4 (by decide) (va_Nw.use rfl hN.2.2.2.1) (fun _ h9 => h9) rfl dX4_rate_15 ?_
    refine lv_iload_n hx hb dX4_rate_18 rfl (lv_at hl 1 rfl) ?_
    refine k_iald (D := D) (f := X 4) hx hb hK hP 8 0 rfl rfl j rfl (by omega) (by omega) dX4_rate_19 ?_
    refine lv_goto (tgt := 24) hx hb dX4_rate_20 (by decide) ?_
    exact ret _ _ _ dX4_rate_24 (by rw [if_pos c8, nI_clamp (by omega)])
set_option maxHeartbeats 4000000 in
set_option maxRecDepth 100000 in
theorem c_X4_midpoint {l : Launch} {D : va_G} {cI cZ cL : ClassId} {g : Nat → Nat} {sl mi n : Nat} {X : Nat → Nat → Int32} {cy ss ds fs : Nat} (hn : n ≤ 16) (x : Int32) : KR l yX4_midpoint (.code yX4_midpoint cX4_midpoint 2 (some .int)) 1 D (tyz cI cZ cL) [.ref (g 0), .int x] (cw g cI cZ sl mi n X cy ss ds fs) (fun r => r = if inR x 1 n then X 9 x.toNatClampNeg else 0) := by
  refine KR.of (own := RX4) (lvs := [(0, .ref (g 0)), (1, .int x)]) (by decide) rfl (Nat.le_of_ble_eq_true rfl) rfl ?_
  intro p e s m args below meth c Q C hK hN hP hD ret ls hl
  obtain ⟨hx, hb, hml, hown, hts, hr9, hlk9⟩ := id C
  refine lv_aload_n hx hb dX4_midpoint_0 rfl (lv_at hl 0 rfl) ?_
  refine va_get (D := D) (ci := 6) (v := .ref (g 1)) (C := RX4) (T := TX4) (N := 7) hx hb hts inX4 hown hK hP 0 rfl rfl 2 (by decide) (hts _ wF_X4_25) (fun _ h9 => h9) rfl dX4_midpoint_1 ?_
  refine lv_iload_n hx hb dX4_midpoint_4 rfl (lv_at hl 1 rfl) ?_
  refine k_callR (D := D) C hK hN hP hD (c_X2_has hn x) hl cf_yX2_has wM_X4_53 1 4 rfl rfl rfl rfl (Nat.le_of_ble_eq_true rfl) ⟨by decide, by decide⟩ ⟨Nat.le_of_ble_eq_true rfl, Nat.le_of_ble_eq_true rfl⟩ dX4_midpoint_5 (fun r5 hr5 => ?_)
  have hr5 : r5 = (if inR x 1 n then 1 else 0) := hr5
  subst hr5
  refine k_ifeq_P (P := (inR x 1 n)) (tgt := 23) hx hb rfl dX4_midpoint_8 (by decide) (fun c8 => ?_) (fun c8 => ?_)
  · skip
    refine lv_iconst (v := 0) hx hb dX4_midpoint_23 (by decide) ?_
    exact ret _ _ _ dX4_midpoint_24 (ite_n c8)
  · skip
    obtain ⟨j, hj1, hj2, rfl⟩ := inR_of c8
    refine lv_aload_n hx hb dX4_midpoint_11 rfl (lv_at hl 0 rfl) ?_
    refine va_get (D := D) (ci := 6) (v := .ref (g 1)) (C := RX4) (T := TX4) (N := 7) hx hb hts inX4 hown hK hP 0 rfl rfl 2 (by decide) (hts _ wF_X4_25) (fun _ h9 => h9) rfl dX4_midpoint_12 ?_
    refine va_getN (host := "FlexCycles") (ref := "FlexCycles$Nodes") (D := D) (ci := 4) (v := .ref (g 19)) (C := RX2) (T := TX2) (N := 12) hx hb hts inX2 hown hK hP 1 rfl rfl 9 (by decide) (va_Nw.use rfl hN.2.2.2.2.2.1) (fun _ h9 => h9) rfl dX4_midpoint_15 ?_
    refine lv_iload_n hx hb dX4_midpoint_18 rfl (lv_at hl 1 rfl) ?_
    refine k_iald (D := D) (f := X 9) hx hb hK hP 13 0 rfl rfl j rfl (by omega) (by omega) dX4_midpoint_19 ?_
    refine lv_goto (tgt := 24) hx hb dX4_midpoint_20 (by decide) ?_
    exact ret _ _ _ dX4_midpoint_24 (by rw [if_pos c8, nI_clamp (by omega)])
set_option maxHeartbeats 4000000 in
set_option maxRecDepth 100000 in
theorem c_X4_drift {l : Launch} {D : va_G} {cI cZ cL : ClassId} {g : Nat → Nat} {sl mi n : Nat} {X : Nat → Nat → Int32} {cy ss ds fs : Nat} (hn : n ≤ 16) (x pa : Int32) : KI l yX4_drift (.code yX4_drift cX4_drift 3 (some .int)) 1 D (tyz cI cZ cL) [.ref (g 0), .int x, .int pa] (cw g cI cZ sl mi n X cy ss ds fs) (fun r u => (¬ inR x 1 n ∧ r = -1 ∧ u = X) ∨ (inR x 1 n ∧ ¬ ((-200) ≤ pa ∧ pa ≤ 200) ∧ r = -2 ∧ u = X) ∨ (inR x 1 n ∧ ((-200) ≤ pa ∧ pa ≤ 200) ∧ r = 1 ∧ u = sX X 3 x.toNatClampNeg pa)) (fun u : Nat → Nat → Int32 => cw g cI cZ sl mi n u cy ss ds fs) := by
  refine KI.of (own := RX4) (lvs := [(0, .ref (g 0)), (1, .int x), (2, .int pa)]) (by decide) rfl (Nat.le_of_ble_eq_true rfl) rfl ?_
  intro p e s m args below meth c Q C hK hN A hA hP hD hS ret ls hl
  obtain ⟨hx, hb, hml, hown, hts, hr9, hlk9⟩ := id C
  refine lv_aload_n hx hb dX4_drift_0 rfl (lv_at hl 0 rfl) ?_
  refine va_get (D := D) (ci := 6) (v := .ref (g 1)) (C := RX4) (T := TX4) (N := 7) hx hb hts inX4 hown hK hP 0 rfl rfl 2 (by decide) (hts _ wF_X4_25) (fun _ h9 => h9) rfl dX4_drift_1 ?_
  refine lv_iload_n hx hb dX4_drift_4 rfl (lv_at hl 1 rfl) ?_
  refine k_callR (D := D) C hK hN hP hD (c_X2_has hn x) hl cf_yX2_has wM_X4_53 1 4 rfl rfl rfl rfl (Nat.le_of_ble_eq_true rfl) ⟨by decide, by decide⟩ ⟨Nat.le_of_ble_eq_true rfl, Nat.le_of_ble_eq_true rfl⟩ dX4_drift_5 (fun r5 hr5 => ?_)
  have hr5 : r5 = (if inR x 1 n then 1 else 0) := hr5
  subst hr5
  refine k_ifne_P (P := (inR x 1 n)) (tgt := 13) hx hb rfl dX4_drift_8 (by decide) (fun c8 => ?_) (fun c8 => ?_)
  · skip
    refine lv_iload_n hx hb dX4_drift_13 rfl (lv_at hl 2 rfl) ?_
    refine lv_sipush (v := (-200)) hx hb dX4_drift_14 (by decide) ?_
    refine lv_sipush (v := 200) hx hb dX4_drift_17 (by decide) ?_
    refine k_callS (D := D) C hK hN hP hD (c_X4_within pa (-200) 200) hl cf_yX4_within wM_X4_7 rfl rfl (Nat.le_of_ble_eq_true rfl) ⟨by decide, by decide⟩ ⟨Nat.le_of_ble_eq_true rfl, Nat.le_of_ble_eq_true rfl⟩ dX4_drift_20 (fun r20 hr20 => ?_)
    have hr20 : r20 = (if (-200) ≤ pa ∧ pa ≤ 200 then 1 else 0) := hr20
    subst hr20
    refine k_ifne_P (P := ((-200) ≤ pa ∧ pa ≤ 200)) (tgt := 29) hx hb rfl dX4_drift_23 (by decide) (fun c23 => ?_) (fun c23 => ?_)
    · skip
      obtain ⟨j, hj1, hj2, rfl⟩ := inR_of c8
      refine lv_aload_n hx hb dX4_drift_29 rfl (lv_at hl 0 rfl) ?_
      refine va_get (D := D) (ci := 6) (v := .ref (g 1)) (C := RX4) (T := TX4) (N := 7) hx hb hts inX4 hown hK hP 0 rfl rfl 2 (by decide) (hts _ wF_X4_25) (fun _ h9 => h9) rfl dX4_drift_30 ?_
      refine va_getN (host := "FlexCycles") (ref := "FlexCycles$Nodes") (D := D) (ci := 4) (v := .ref (g 13)) (C := RX2) (T := TX2) (N := 12) hx hb hts inX2 hown hK hP 1 rfl rfl 3 (by decide) (va_Nw.use rfl hN.2.2.1) (fun _ h9 => h9) rfl dX4_drift_33 ?_
      refine lv_iload_n hx hb dX4_drift_36 rfl (lv_at hl 1 rfl) ?_
      refine lv_iload_n hx hb dX4_drift_37 rfl (lv_at hl 2 rfl) ?_
      refine k_iast (D := D) (f := X 3) (ws' := cw g cI cZ sl mi n (sX X 3 j pa) cy ss ds fs) hx hb hK hP hD hS 7 0 rfl rfl j rfl (by omega) (by omega) rfl dX4_drift_38 (fun H locs hP hD hS => ?_)
      refine lv_iconst (v := 1) hx hb dX4_drift_39 (by decide) ?_
      exact ret _ (sX X 3 j pa) _ _ _ _ dX4_drift_40 hP hD hS (Or.inr (Or.inr ⟨c8, c23, rfl, by rw [nI_clamp (by omega)]⟩))
    · skip
      refine lv_bipush (v := (-2)) hx hb dX4_drift_26 (by decide) ?_
      exact ret _ X _ _ _ _ dX4_drift_28 hP hD hS (Or.inr (Or.inl ⟨c8, c23, rfl, rfl⟩))
  · skip
    refine lv_iconst (v := (-1)) hx hb dX4_drift_11 (by decide) ?_
    exact ret _ X _ _ _ _ dX4_drift_12 hP hD hS (Or.inl ⟨c8, rfl, rfl⟩)
set_option maxHeartbeats 4000000 in
set_option maxRecDepth 100000 in
theorem c_X4_cold {l : Launch} {D : va_G} {cI cZ cL : ClassId} {g : Nat → Nat} {sl mi n : Nat} {X : Nat → Nat → Int32} {cy ss ds fs : Nat} (hn : n ≤ 16) (x on : Int32) (ho : on = 0 ∨ on = 1) : KI l yX4_cold (.code yX4_cold cX4_cold 3 (some .int)) 1 D (tyz cI cZ cL) [.ref (g 0), .int x, .int on] (cw g cI cZ sl mi n X cy ss ds fs) (fun r u => (¬ inR x 1 n ∧ r = -1 ∧ u = X) ∨ (inR x 1 n ∧ r = nI (nCo (u 5) (n + 1)) ∧ u = if on ≠ 0 ∧ (X 1 x.toNatClampNeg = 3 ∨ X 1 x.toNatClampNeg = 4) then sX (sX (sX (sX X 5 x.toNatClampNeg on) 1 x.toNatClampNeg 0) 2 x.toNatClampNeg 0) 4 x.toNatClampNeg 0 else sX X 5 x.toNatClampNeg on)) (fun u : Nat → Nat → Int32 => cw g cI cZ sl mi n u cy ss ds fs) := by
  refine KI.of (own := RX4) (lvs := [(0, .ref (g 0)), (1, .int x), (2, .int on)]) (by decide) rfl (Nat.le_of_ble_eq_true rfl) rfl ?_
  intro p e s m args below meth c Q C hK hN A hA hP hD hS ret ls hl
  obtain ⟨hx, hb, hml, hown, hts, hr9, hlk9⟩ := id C
  refine lv_aload_n hx hb dX4_cold_0 rfl (lv_at hl 0 rfl) ?_
  refine va_get (D := D) (ci := 6) (v := .ref (g 1)) (C := RX4) (T := TX4) (N := 7) hx hb hts inX4 hown hK hP 0 rfl rfl 2 (by decide) (hts _ wF_X4_25) (fun _ h9 => h9) rfl dX4_cold_1 ?_
  refine lv_iload_n hx hb dX4_cold_4 rfl (lv_at hl 1 rfl) ?_
  refine k_callR (D := D) C hK hN hP hD (c_X2_has hn x) hl cf_yX2_has wM_X4_53 1 4 rfl rfl rfl rfl (Nat.le_of_ble_eq_true rfl) ⟨by decide, by decide⟩ ⟨Nat.le_of_ble_eq_true rfl, Nat.le_of_ble_eq_true rfl⟩ dX4_cold_5 (fun r5 hr5 => ?_)
  have hr5 : r5 = (if inR x 1 n then 1 else 0) := hr5
  subst hr5
  refine k_ifne_P (P := (inR x 1 n)) (tgt := 13) hx hb rfl dX4_cold_8 (by decide) (fun c8 => ?_) (fun c8 => ?_)
  · skip
    obtain ⟨j, hj1, hj2, rfl⟩ := inR_of c8
    refine lv_aload_n hx hb dX4_cold_13 rfl (lv_at hl 0 rfl) ?_
    refine va_get (D := D) (ci := 6) (v := .ref (g 1)) (C := RX4) (T := TX4) (N := 7) hx hb hts inX4 hown hK hP 0 rfl rfl 2 (by decide) (hts _ wF_X4_25) (fun _ h9 => h9) rfl dX4_cold_14 ?_
    refine lv_iload_n hx hb dX4_cold_17 rfl (lv_at hl 1 rfl) ?_
    refine lv_iload_n hx hb dX4_cold_18 rfl (lv_at hl 2 rfl) ?_
    refine k_callV (D := D) C hK hN hP hD hS hA (c_X2_tellCold hn j (by omega) on ho) hl cf_yX2_tellCold wM_X4_102 1 4 rfl rfl rfl rfl (Nat.le_of_ble_eq_true rfl) ⟨by decide, by decide⟩ ⟨Nat.le_of_ble_eq_true rfl, Nat.le_of_ble_eq_true rfl⟩ dX4_cold_19 (fun u19 H locs hr19 hP hD hS _ _ => ?_)
    have hP : va_P D vwCl (cw g cI cZ sl mi n u19 cy ss ds fs) H := hP
    have hD : va_D A (cw g cI cZ sl mi n u19 cy ss ds fs) := hD
    refine lv_aload_n hx hb dX4_cold_22 rfl (lv_at hl 0 rfl) ?_
    refine va_get (D := D) (ci := 6) (v := .ref (g 1)) (C := RX4) (T := TX4) (N := 7) hx hb hts inX4 hown hK hP 0 rfl rfl 2 (by decide) (hts _ wF_X4_25) (fun _ h9 => h9) rfl dX4_cold_23 ?_
    refine k_callR (D := D) C hK hN hP hD (c_X2_countCold hn) hl cf_yX2_countCold wM_X4_106 1 4 rfl rfl rfl rfl (Nat.le_of_ble_eq_true rfl) ⟨by decide, by decide⟩ ⟨Nat.le_of_ble_eq_true rfl, Nat.le_of_ble_eq_true rfl⟩ dX4_cold_26 (fun r26 hr26 => ?_)
    have hr26 : r26 = (nI (nCo (u19 5) (n + 1))) := hr26
    subst hr26
    exact ret _ u19 _ _ _ _ dX4_cold_29 hP hD hS (Or.inr ⟨c8, rfl, by rw [nI_clamp (by omega)]; exact hr19⟩)
  · skip
    refine lv_iconst (v := (-1)) hx hb dX4_cold_11 (by decide) ?_
    exact ret _ X _ _ _ _ dX4_cold_12 hP hD hS (Or.inl ⟨c8, rfl, rfl⟩)
set_option maxHeartbeats 4000000 in
set_option maxRecDepth 100000 in
theorem c_X4_flip {l : Launch} {D : va_G} {cI cZ cL : ClassId} {g : Nat → Nat} {sl mi n : Nat} {X : Nat → Nat → Int32} {cy ss ds fs : Nat} (hs1 : 1 ≤ sl) (hsl : sl ≤ 60) (ch x : Int32) : KI l yX4_flip (.code yX4_flip cX4_flip 3 (some .int)) 2 D (tyz cI cZ cL) [.ref (g 0), .int ch, .int x] (cw g cI cZ sl mi n X cy ss ds fs) (fun r u => (¬ ((1 ≤ ch ∧ ch ≤ 2) ∧ inR x 0 (sl - 1)) ∧ r = -1 ∧ u = (X, fs)) ∨ (((1 ≤ ch ∧ ch ≤ 2) ∧ inR x 0 (sl - 1)) ∧ X 20 x.toNatClampNeg &&& ch ≠ 0 ∧ r = -3 ∧ u = (X, fs)) ∨ (((1 ≤ ch ∧ ch ≤ 2) ∧ inR x 0 (sl - 1)) ∧ ¬ (X 20 x.toNatClampNeg &&& ch ≠ 0) ∧ r = nI (fs + 1) ∧ u = (sX X 20 x.toNatClampNeg (X 20 x.toNatClampNeg ||| ch), fs + 1))) (fun u : (Nat → Nat → Int32) × Nat => cw g cI cZ sl mi n u.1 cy ss ds u.2) := by
  refine KI.of (own := RX4) (lvs := [(0, .ref (g 0)), (1, .int ch), (2, .int x)]) (by decide) rfl (Nat.le_of_ble_eq_true rfl) rfl ?_
  intro p e s m args below meth c Q C hK hN A hA hP hD hS ret ls hl
  obtain ⟨hx, hb, hml, hown, hts, hr9, hlk9⟩ := id C
  refine lv_iload_n hx hb dX4_flip_0 rfl (lv_at hl 1 rfl) ?_
  refine lv_iconst (v := 1) hx hb dX4_flip_1 (by decide) ?_
  refine lv_iconst (v := 2) hx hb dX4_flip_2 (by decide) ?_
  refine k_callS (D := D) C hK hN hP hD (c_X4_within ch 1 2) hl cf_yX4_within wM_X4_7 rfl rfl (Nat.le_of_ble_eq_true rfl) ⟨by decide, by decide⟩ ⟨Nat.le_of_ble_eq_true rfl, Nat.le_of_ble_eq_true rfl⟩ dX4_flip_3 (fun r3 hr3 => ?_)
  have hr3 : r3 = (if 1 ≤ ch ∧ ch ≤ 2 then 1 else 0) := hr3
  subst hr3
  refine k_ifeq_P (P := (1 ≤ ch ∧ ch ≤ 2)) (tgt := 17) hx hb rfl dX4_flip_6 (by decide) (fun c6 => ?_) (fun c6 => ?_)
  · skip
    refine lv_iconst (v := (-1)) hx hb dX4_flip_17 (by decide) ?_
    exact ret _ (X, fs) _ _ _ _ dX4_flip_18 hP hD hS (Or.inl ⟨(by first | exact fun z => c6 z.1 | exact fun z => c14 z.2), rfl, rfl⟩)
  · skip
    refine lv_aload_n hx hb dX4_flip_9 rfl (lv_at hl 0 rfl) ?_
    refine lv_iload_n hx hb dX4_flip_10 rfl (lv_at hl 2 rfl) ?_
    refine k_callR (D := D) C hK hN hP hD (c_X4_hasSlot hs1 hsl x) hl cf_yX4_hasSlot wM_X4_57 0 6 rfl rfl rfl rfl (Nat.le_of_ble_eq_true rfl) ⟨by decide, by decide⟩ ⟨Nat.le_of_ble_eq_true rfl, Nat.le_of_ble_eq_true rfl⟩ dX4_flip_11 (fun r11 hr11 => ?_)
    have hr11 : r11 = (if inR x 0 (sl - 1) then 1 else 0) := hr11
    subst hr11
    refine k_ifne_P (P := (inR x 0 (sl - 1))) (tgt := 19) hx hb rfl dX4_flip_14 (by decide) (fun c14 => ?_) (fun c14 => ?_)
    · skip
      obtain ⟨j, hj1, hj2, rfl⟩ := inR_of c14
      have hcl := nI_clamp (n := j) (by omega)
      refine lv_aload_n hx hb dX4_flip_19 rfl (lv_at hl 0 rfl) ?_
      refine va_get (D := D) (ci := 6) (v := .ref (g 4)) (C := RX4) (T := TX4) (N := 7) hx hb hts inX4 hown hK hP 0 rfl rfl 5 (by decide) (hts _ wF_X4_46) (fun _ h9 => h9) rfl dX4_flip_20 ?_
      refine lv_iload_n hx hb dX4_flip_23 rfl (lv_at hl 1 rfl) ?_
      refine lv_iload_n hx hb dX4_flip_24 rfl (lv_at hl 2 rfl) ?_
      refine k_callR (D := D) C hK hN hP hD (c_X1_has hsl ch j (by omega)) hl cf_yX1_has wM_X4_109 4 3 rfl rfl rfl rfl (Nat.le_of_ble_eq_true rfl) ⟨by decide, by decide⟩ ⟨Nat.le_of_ble_eq_true rfl, Nat.le_of_ble_eq_true rfl⟩ dX4_flip_25 (fun r25 hr25 => ?_)
      have hr25 : r25 = (if X 20 j &&& ch ≠ 0 then 1 else 0) := hr25
      subst hr25
      refine k_ifeq_P (P := (X 20 j &&& ch ≠ 0)) (tgt := 34) hx hb rfl dX4_flip_28 (by decide) (fun c28 => ?_) (fun c28 => ?_)
      · skip
        refine lv_aload_n hx hb dX4_flip_34 rfl (lv_at hl 0 rfl) ?_
        refine va_get (D := D) (ci := 6) (v := .ref (g 4)) (C := RX4) (T := TX4) (N := 7) hx hb hts inX4 hown hK hP 0 rfl rfl 5 (by decide) (hts _ wF_X4_46) (fun _ h9 => h9) rfl dX4_flip_35 ?_
        refine lv_iload_n hx hb dX4_flip_38 rfl (lv_at hl 1 rfl) ?_
        refine lv_iload_n hx hb dX4_flip_39 rfl (lv_at hl 2 rfl) ?_
        refine k_callI (D := D) C hK hN hP hD hS hA (c_X1_add hsl ch j (by omega)) hl cf_yX1_add wM_X4_112 4 3 rfl rfl rfl rfl (Nat.le_of_ble_eq_true rfl) ⟨by decide, by decide⟩ ⟨Nat.le_of_ble_eq_true rfl, Nat.le_of_ble_eq_true rfl⟩ dX4_flip_40 (fun r40 u40 H locs hr40 hP hD hS _ _ => ?_)
        have hP : va_P D vwCl (cw g cI cZ sl mi n u40 cy ss ds (fs + 1)) H := hP
        have hD : va_D A (cw g cI cZ sl mi n u40 cy ss ds (fs + 1)) := hD
        exact ret _ (u40, fs + 1) _ _ _ _ dX4_flip_43 hP hD hS (Or.inr (Or.inr ⟨⟨c6, c14⟩, by rw [hcl]; exact c28, hr40.1, by rw [hcl, hr40.2]⟩))
      · skip
        refine lv_bipush (v := (-3)) hx hb dX4_flip_31 (by decide) ?_
        exact ret _ (X, fs) _ _ _ _ dX4_flip_33 hP hD hS (Or.inr (Or.inl ⟨⟨c6, c14⟩, by rw [hcl]; exact c28, rfl, rfl⟩))
    · skip
      refine lv_iconst (v := (-1)) hx hb dX4_flip_17 (by decide) ?_
      exact ret _ (X, fs) _ _ _ _ dX4_flip_18 hP hD hS (Or.inl ⟨(by first | exact fun z => c6 z.1 | exact fun z => c14 z.2), rfl, rfl⟩)
set_option maxHeartbeats 4000000 in
set_option maxRecDepth 100000 in
theorem c_X4_close {l : Launch} {D : va_G} {cI cZ cL : ClassId} {g : Nat → Nat} {sl mi n : Nat} {X : Nat → Nat → Int32} {cy ss ds fs : Nat} (hn : n ≤ 16) (bd : Int32) : KR l yX4_close (.code yX4_close cX4_close 2 (some .boolean)) 3 D (tyz cI cZ cL) [.ref (g 0), .int bd] (cw g cI cZ sl mi n X cy ss ds fs) (fun r => (r = 1 ∧ ∀ a b, 1 ≤ a → a < b → b ≤ n → (X 1 a = 2 → X 1 b = 2 → dst (X 2 a) (X 2 b) ≤ bd.toInt64)) ∨ (r = 0 ∧ ∃ a b, 1 ≤ a ∧ a < b ∧ b ≤ n ∧ X 1 a = 2 ∧ X 1 b = 2 ∧ ¬ dst (X 2 a) (X 2 b) ≤ bd.toInt64)) := by
  refine KR.ofz (own := RX4) (lvs := [(0, .ref (g 0)), (1, .int bd)]) (by decide) rfl (Nat.le_of_ble_eq_true rfl) rfl ?_
  intro p e s m args below meth c Q C hK hN hP hD ret ls hl
  obtain ⟨hx, hb, hml, hown, hts, hr9, hlk9⟩ := id C
  refine lv_aload_n hx hb dX4_close_0 rfl (lv_at hl 0 rfl) ?_
  refine va_get (D := D) (ci := 6) (v := .ref (g 1)) (C := RX4) (T := TX4) (N := 7) hx hb hts inX4 hown hK hP 0 rfl rfl 2 (by decide) (hts _ wF_X4_25) (fun _ h9 => h9) rfl dX4_close_1 ?_
  refine lv_iload_n hx hb dX4_close_4 rfl (lv_at hl 1 rfl) ?_
  refine k_callR (D := D) C hK hN hP hD (c_X2_areWithin hn bd) hl cf_yX2_areWithin wM_X4_115 1 4 rfl rfl rfl rfl (Nat.le_of_ble_eq_true rfl) ⟨by decide, by decide⟩ ⟨Nat.le_of_ble_eq_true rfl, Nat.le_of_ble_eq_true rfl⟩ dX4_close_5 (fun r5 hr5 => ?_)
  exact ret _ _ _ dX4_close_8 (hr5.elim (fun h => Or.inr h.1) (fun h => Or.inl h.1)) hr5
set_option maxHeartbeats 4000000 in
set_option maxRecDepth 100000 in
theorem c_X4_dynamic {l : Launch} {D : va_G} {cI cZ cL : ClassId} {g : Nat → Nat} {sl mi n : Nat} {X : Nat → Nat → Int32} {cy ss ds fs : Nat} (hn : n ≤ 16) (hd : ds ≤ 100) (x di ln : Int32) : KI l yX4_dynamic (.code yX4_dynamic cX4_dynamic 4 (some .int)) 1 D (tyz cI cZ cL) [.ref (g 0), .int x, .int di, .int ln] (cw g cI cZ sl mi n X cy ss ds fs) (fun r u => (¬ inR x 1 n ∧ r = -1 ∧ u = (X, ds)) ∨ (inR x 1 n ∧ ¬ ((1 ≤ di ∧ di ≤ 60) ∧ 1 ≤ ln ∧ ln ≤ 60) ∧ r = -2 ∧ u = (X, ds)) ∨ (inR x 1 n ∧ ((1 ≤ di ∧ di ≤ 60) ∧ 1 ≤ ln ∧ ln ≤ 60) ∧ 100 ≤ ds ∧ r = -4 ∧ u = (X, ds)) ∨ (inR x 1 n ∧ ((1 ≤ di ∧ di ≤ 60) ∧ 1 ≤ ln ∧ ln ≤ 60) ∧ ds < 100 ∧ r = nI (ds + 1) ∧ u = (sX (sX (sX X 17 ds x) 18 ds di) 19 ds ln, ds + 1))) (fun u : (Nat → Nat → Int32) × Nat => cw g cI cZ sl mi n u.1 cy ss u.2 fs) := by
  refine KI.of (own := RX4) (lvs := [(0, .ref (g 0)), (1, .int x), (2, .int di), (3, .int ln)]) (by decide) rfl (Nat.le_of_ble_eq_true rfl) rfl ?_
  intro p e s m args below meth c Q C hK hN A hA hP hD hS ret ls hl
  obtain ⟨hx, hb, hml, hown, hts, hr9, hlk9⟩ := id C
  refine lv_aload_n hx hb dX4_dynamic_0 rfl (lv_at hl 0 rfl) ?_
  refine va_get (D := D) (ci := 6) (v := .ref (g 1)) (C := RX4) (T := TX4) (N := 7) hx hb hts inX4 hown hK hP 0 rfl rfl 2 (by decide) (hts _ wF_X4_25) (fun _ h9 => h9) rfl dX4_dynamic_1 ?_
  refine lv_iload_n hx hb dX4_dynamic_4 rfl (lv_at hl 1 rfl) ?_
  refine k_callR (D := D) C hK hN hP hD (c_X2_has hn x) hl cf_yX2_has wM_X4_53 1 4 rfl rfl rfl rfl (Nat.le_of_ble_eq_true rfl) ⟨by decide, by decide⟩ ⟨Nat.le_of_ble_eq_true rfl, Nat.le_of_ble_eq_true rfl⟩ dX4_dynamic_5 (fun r5 hr5 => ?_)
  have hr5 : r5 = (if inR x 1 n then 1 else 0) := hr5
  subst hr5
  refine k_ifne_P (P := (inR x 1 n)) (tgt := 13) hx hb rfl dX4_dynamic_8 (by decide) (fun c8 => ?_) (fun c8 => ?_)
  · skip
    refine lv_iload_n hx hb dX4_dynamic_13 rfl (lv_at hl 2 rfl) ?_
    refine lv_iconst (v := 1) hx hb dX4_dynamic_14 (by decide) ?_
    refine lv_bipush (v := 60) hx hb dX4_dynamic_15 (by decide) ?_
    refine k_callS (D := D) C hK hN hP hD (c_X4_within di 1 60) hl cf_yX4_within wM_X4_7 rfl rfl (Nat.le_of_ble_eq_true rfl) ⟨by decide, by decide⟩ ⟨Nat.le_of_ble_eq_true rfl, Nat.le_of_ble_eq_true rfl⟩ dX4_dynamic_17 (fun r17 hr17 => ?_)
    have hr17 : r17 = (if 1 ≤ di ∧ di ≤ 60 then 1 else 0) := hr17
    subst hr17
    refine k_ifeq_P (P := (1 ≤ di ∧ di ≤ 60)) (tgt := 33) hx hb rfl dX4_dynamic_20 (by decide) (fun c20 => ?_) (fun c20 => ?_)
    · skip
      refine lv_bipush (v := (-2)) hx hb dX4_dynamic_33 (by decide) ?_
      exact ret _ (X, ds) _ _ _ _ dX4_dynamic_35 hP hD hS (Or.inr (Or.inl ⟨c8, (by first | exact fun z => c20 z.1 | exact fun z => c30 z.2), rfl, rfl⟩))
    · skip
      refine lv_iload_n hx hb dX4_dynamic_23 rfl (lv_at hl 3 rfl) ?_
      refine lv_iconst (v := 1) hx hb dX4_dynamic_24 (by decide) ?_
      refine lv_bipush (v := 60) hx hb dX4_dynamic_25 (by decide) ?_
      refine k_callS (D := D) C hK hN hP hD (c_X4_within ln 1 60) hl cf_yX4_within wM_X4_7 rfl rfl (Nat.le_of_ble_eq_true rfl) ⟨by decide, by decide⟩ ⟨Nat.le_of_ble_eq_true rfl, Nat.le_of_ble_eq_true rfl⟩ dX4_dynamic_27 (fun r27 hr27 => ?_)
      have hr27 : r27 = (if 1 ≤ ln ∧ ln ≤ 60 then 1 else 0) := hr27
      subst hr27
      refine k_ifne_P (P := (1 ≤ ln ∧ ln ≤ 60)) (tgt := 36) hx hb rfl dX4_dynamic_30 (by decide) (fun c30 => ?_) (fun c30 => ?_)
      · skip
        refine lv_aload_n hx hb dX4_dynamic_36 rfl (lv_at hl 0 rfl) ?_
        refine va_get (D := D) (ci := 6) (v := .ref (g 3)) (C := RX4) (T := TX4) (N := 7) hx hb hts inX4 hown hK hP 0 rfl rfl 4 (by decide) (hts _ wF_X4_39) (fun _ h9 => h9) rfl dX4_dynamic_37 ?_
        refine k_callR (D := D) C hK hN hP hD (c_X0_isFull hd) hl cf_yX0_isFull wM_X4_75 3 2 rfl rfl rfl rfl (Nat.le_of_ble_eq_true rfl) ⟨by decide, by decide⟩ ⟨Nat.le_of_ble_eq_true rfl, Nat.le_of_ble_eq_true rfl⟩ dX4_dynamic_40 (fun r40 hr40 => ?_)
        have hr40 : r40 = (if 100 ≤ ds then 1 else 0) := hr40
        subst hr40
        refine k_ifeq_P (P := (100 ≤ ds)) (tgt := 49) hx hb rfl dX4_dynamic_43 (by decide) (fun c43 => ?_) (fun c43 => ?_)
        · skip
          refine lv_aload_n hx hb dX4_dynamic_49 rfl (lv_at hl 0 rfl) ?_
          refine va_get (D := D) (ci := 6) (v := .ref (g 3)) (C := RX4) (T := TX4) (N := 7) hx hb hts inX4 hown hK hP 0 rfl rfl 4 (by decide) (hts _ wF_X4_39) (fun _ h9 => h9) rfl dX4_dynamic_50 ?_
          refine lv_iload_n hx hb dX4_dynamic_53 rfl (lv_at hl 1 rfl) ?_
          refine lv_iload_n hx hb dX4_dynamic_54 rfl (lv_at hl 2 rfl) ?_
          refine lv_iload_n hx hb dX4_dynamic_55 rfl (lv_at hl 3 rfl) ?_
          refine k_callI (D := D) C hK hN hP hD hS hA (c_X0_add (by omega) x di ln) hl cf_yX0_add wM_X4_76 3 2 rfl rfl rfl rfl (Nat.le_of_ble_eq_true rfl) ⟨by decide, by decide⟩ ⟨Nat.le_of_ble_eq_true rfl, Nat.le_of_ble_eq_true rfl⟩ dX4_dynamic_56 (fun r56 u56 H locs hr56 hP hD hS _ _ => ?_)
          have hP : va_P D vwCl (cw g cI cZ sl mi n u56 cy ss (ds + 1) fs) H := hP
          have hD : va_D A (cw g cI cZ sl mi n u56 cy ss (ds + 1) fs) := hD
          exact ret _ (u56, ds + 1) _ _ _ _ dX4_dynamic_59 hP hD hS (Or.inr (Or.inr (Or.inr ⟨c8, ⟨c20, c30⟩, by omega, hr56.1, by rw [hr56.2]⟩)))
        · skip
          refine lv_bipush (v := (-4)) hx hb dX4_dynamic_46 (by decide) ?_
          exact ret _ (X, ds) _ _ _ _ dX4_dynamic_48 hP hD hS (Or.inr (Or.inr (Or.inl ⟨c8, ⟨c20, c30⟩, c43, rfl, rfl⟩)))
      · skip
        refine lv_bipush (v := (-2)) hx hb dX4_dynamic_33 (by decide) ?_
        exact ret _ (X, ds) _ _ _ _ dX4_dynamic_35 hP hD hS (Or.inr (Or.inl ⟨c8, (by first | exact fun z => c20 z.1 | exact fun z => c30 z.2), rfl, rfl⟩))
  · skip
    refine lv_iconst (v := (-1)) hx hb dX4_dynamic_11 (by decide) ?_
    exact ret _ (X, ds) _ _ _ _ dX4_dynamic_12 hP hD hS (Or.inl ⟨c8, rfl, rfl⟩)
set_option maxHeartbeats 4000000 in
set_option maxRecDepth 100000 in
theorem c_X4_frame {l : Launch} {D : va_G} {cI cZ cL : ClassId} {g : Nat → Nat} {sl mi n : Nat} {X : Nat → Nat → Int32} {cy ss ds fs : Nat} (hn : n ≤ 16) (hs1 : 1 ≤ sl) (hsl : sl ≤ 60) (hs : ss ≤ 100) (x q ch ba ev : Int32) : KI l yX4_frame (.code yX4_frame cX4_frame 6 (some .int)) 2 D (tyz cI cZ cL) [.ref (g 0), .int x, .int q, .int ch, .int ba, .int ev] (cw g cI cZ sl mi n X cy ss ds fs) (fun r u => (¬ (inR x 1 n ∧ inR q 0 (sl - 1)) ∧ r = -1 ∧ u = (X, ss)) ∨ ((inR x 1 n ∧ inR q 0 (sl - 1)) ∧ ¬ ((1 ≤ ch ∧ ch ≤ 3) ∧ isEv ev ∧ 0 ≤ ba ∧ ba ≤ ev - 1) ∧ r = -2 ∧ u = (X, ss)) ∨ ((inR x 1 n ∧ inR q 0 (sl - 1)) ∧ ((1 ≤ ch ∧ ch ≤ 3) ∧ isEv ev ∧ 0 ≤ ba ∧ ba ≤ ev - 1) ∧ (∃ i, i < ss ∧ Cl (X 13) (X 14) (X 15) (X 16) q ch ba ev i) ∧ r = -3 ∧ u = (X, ss)) ∨ ((inR x 1 n ∧ inR q 0 (sl - 1)) ∧ ((1 ≤ ch ∧ ch ≤ 3) ∧ isEv ev ∧ 0 ≤ ba ∧ ba ≤ ev - 1) ∧ (∀ i, i < ss → ¬ Cl (X 13) (X 14) (X 15) (X 16) q ch ba ev i) ∧ 100 ≤ ss ∧ r = -4 ∧ u = (X, ss)) ∨ ((inR x 1 n ∧ inR q 0 (sl - 1)) ∧ ((1 ≤ ch ∧ ch ≤ 3) ∧ isEv ev ∧ 0 ≤ ba ∧ ba ≤ ev - 1) ∧ (∀ i, i < ss → ¬ Cl (X 13) (X 14) (X 15) (X 16) q ch ba ev i) ∧ ss < 100 ∧ r = nI (ss + 1) ∧ u = (sX (sX (sX (sX (sX X 12 ss x) 13 ss q) 14 ss ch) 15 ss ba) 16 ss ev, ss + 1))) (fun u : (Nat → Nat → Int32) × Nat => cw g cI cZ sl mi n u.1 cy u.2 ds fs) := by
  refine KI.of (own := RX4) (lvs := [(0, .ref (g 0)), (1, .int x), (2, .int q), (3, .int ch), (4, .int ba), (5, .int ev)]) (by decide) rfl (Nat.le_of_ble_eq_true rfl) rfl ?_
  intro p e s m args below meth c Q C hK hN A hA hP hD hS ret ls hl
  obtain ⟨hx, hb, hml, hown, hts, hr9, hlk9⟩ := id C
  refine lv_aload_n hx hb dX4_frame_0 rfl (lv_at hl 0 rfl) ?_
  refine va_get (D := D) (ci := 6) (v := .ref (g 1)) (C := RX4) (T := TX4) (N := 7) hx hb hts inX4 hown hK hP 0 rfl rfl 2 (by decide) (hts _ wF_X4_25) (fun _ h9 => h9) rfl dX4_frame_1 ?_
  refine lv_iload_n hx hb dX4_frame_4 rfl (lv_at hl 1 rfl) ?_
  refine k_callR (D := D) C hK hN hP hD (c_X2_has hn x) hl cf_yX2_has wM_X4_53 1 4 rfl rfl rfl rfl (Nat.le_of_ble_eq_true rfl) ⟨by decide, by decide⟩ ⟨Nat.le_of_ble_eq_true rfl, Nat.le_of_ble_eq_true rfl⟩ dX4_frame_5 (fun r5 hr5 => ?_)
  have hr5 : r5 = (if inR x 1 n then 1 else 0) := hr5
  subst hr5
  refine k_ifeq_P (P := (inR x 1 n)) (tgt := 19) hx hb rfl dX4_frame_8 (by decide) (fun c8 => ?_) (fun c8 => ?_)
  · skip
    refine lv_iconst (v := (-1)) hx hb dX4_frame_19 (by decide) ?_
    exact ret _ (X, ss) _ _ _ _ dX4_frame_20 hP hD hS (Or.inl ⟨(by first | exact fun z => c8 z.1 | exact fun z => c16 z.2), rfl, rfl⟩)
  · skip
    refine lv_aload_n hx hb dX4_frame_11 rfl (lv_at hl 0 rfl) ?_
    refine lv_iload_n hx hb dX4_frame_12 rfl (lv_at hl 2 rfl) ?_
    refine k_callR (D := D) C hK hN hP hD (c_X4_hasSlot hs1 hsl q) hl cf_yX4_hasSlot wM_X4_57 0 6 rfl rfl rfl rfl (Nat.le_of_ble_eq_true rfl) ⟨by decide, by decide⟩ ⟨Nat.le_of_ble_eq_true rfl, Nat.le_of_ble_eq_true rfl⟩ dX4_frame_13 (fun r13 hr13 => ?_)
    have hr13 : r13 = (if inR q 0 (sl - 1) then 1 else 0) := hr13
    subst hr13
    refine k_ifne_P (P := (inR q 0 (sl - 1))) (tgt := 21) hx hb rfl dX4_frame_16 (by decide) (fun c16 => ?_) (fun c16 => ?_)
    · skip
      refine lv_iload_n hx hb dX4_frame_21 rfl (lv_at hl 3 rfl) ?_
      refine lv_iconst (v := 1) hx hb dX4_frame_22 (by decide) ?_
      refine lv_iconst (v := 3) hx hb dX4_frame_23 (by decide) ?_
      refine k_callS (D := D) C hK hN hP hD (c_X4_within ch 1 3) hl cf_yX4_within wM_X4_7 rfl rfl (Nat.le_of_ble_eq_true rfl) ⟨by decide, by decide⟩ ⟨Nat.le_of_ble_eq_true rfl, Nat.le_of_ble_eq_true rfl⟩ dX4_frame_24 (fun r24 hr24 => ?_)
      have hr24 : r24 = (if 1 ≤ ch ∧ ch ≤ 3 then 1 else 0) := hr24
      subst hr24
      refine k_ifeq_P (P := (1 ≤ ch ∧ ch ≤ 3)) (tgt := 51) hx hb rfl dX4_frame_27 (by decide) (fun c27 => ?_) (fun c27 => ?_)
      · skip
        refine lv_bipush (v := (-2)) hx hb dX4_frame_51 (by decide) ?_
        exact ret _ (X, ss) _ _ _ _ dX4_frame_53 hP hD hS (Or.inr (Or.inl ⟨⟨c8, c16⟩, (by first | exact fun z => c27 z.1 | exact fun z => c35 z.2.1 | exact fun z => c48 z.2.2), rfl, rfl⟩))
      · skip
        refine lv_iload hx hb dX4_frame_30 (lv_at hl 5 rfl) ?_
        refine k_callS (D := D) C hK hN hP hD (c_X3_isEvery ev) hl cf_yX3_isEvery wM_X4_60 rfl rfl (Nat.le_of_ble_eq_true rfl) ⟨by decide, by decide⟩ ⟨Nat.le_of_ble_eq_true rfl, Nat.le_of_ble_eq_true rfl⟩ dX4_frame_32 (fun r32 hr32 => ?_)
        have hr32 : r32 = (if isEv ev then 1 else 0) := hr32
        subst hr32
        refine k_ifeq_P (P := (isEv ev)) (tgt := 51) hx hb rfl dX4_frame_35 (by decide) (fun c35 => ?_) (fun c35 => ?_)
        · skip
          refine lv_bipush (v := (-2)) hx hb dX4_frame_51 (by decide) ?_
          exact ret _ (X, ss) _ _ _ _ dX4_frame_53 hP hD hS (Or.inr (Or.inl ⟨⟨c8, c16⟩, (by first | exact fun z => c27 z.1 | exact fun z => c35 z.2.1 | exact fun z => c48 z.2.2), rfl, rfl⟩))
        · skip
          refine lv_iload hx hb dX4_frame_38 (lv_at hl 4 rfl) ?_
          refine lv_iconst (v := 0) hx hb dX4_frame_40 (by decide) ?_
          refine lv_iload hx hb dX4_frame_41 (lv_at hl 5 rfl) ?_
          refine lv_iconst (v := 1) hx hb dX4_frame_43 (by decide) ?_
          refine lv_isub hx hb dX4_frame_44 ?_
          refine k_callS (D := D) C hK hN hP hD (c_X4_within ba 0 (ev - 1)) hl cf_yX4_within wM_X4_7 rfl rfl (Nat.le_of_ble_eq_true rfl) ⟨by decide, by decide⟩ ⟨Nat.le_of_ble_eq_true rfl, Nat.le_of_ble_eq_true rfl⟩ dX4_frame_45 (fun r45 hr45 => ?_)
          have hr45 : r45 = (if 0 ≤ ba ∧ ba ≤ (ev - 1) then 1 else 0) := hr45
          subst hr45
          refine k_ifne_P (P := (0 ≤ ba ∧ ba ≤ (ev - 1))) (tgt := 54) hx hb rfl dX4_frame_48 (by decide) (fun c48 => ?_) (fun c48 => ?_)
          · skip
            refine lv_aload_n hx hb dX4_frame_54 rfl (lv_at hl 0 rfl) ?_
            refine va_get (D := D) (ci := 6) (v := .ref (g 2)) (C := RX4) (T := TX4) (N := 7) hx hb hts inX4 hown hK hP 0 rfl rfl 3 (by decide) (hts _ wF_X4_32) (fun _ h9 => h9) rfl dX4_frame_55 ?_
            refine lv_iload_n hx hb dX4_frame_58 rfl (lv_at hl 2 rfl) ?_
            refine lv_iload_n hx hb dX4_frame_59 rfl (lv_at hl 3 rfl) ?_
            refine lv_iload hx hb dX4_frame_60 (lv_at hl 4 rfl) ?_
            refine lv_iload hx hb dX4_frame_62 (lv_at hl 5 rfl) ?_
            refine k_callR (D := D) C hK hN hP hD (c_X3_clashes hs q ch ba ev) hl cf_yX3_clashes wM_X4_63 2 5 rfl rfl rfl rfl (Nat.le_of_ble_eq_true rfl) ⟨by decide, by decide⟩ ⟨Nat.le_of_ble_eq_true rfl, Nat.le_of_ble_eq_true rfl⟩ dX4_frame_64 (fun r64 hr64 => ?_)
            refine lv_if_eq (tgt := 73) hx hb dX4_frame_67 (by decide) (fun c67 => ?_) (fun c67 => ?_)
            · skip
              have hno := (hr64.resolve_left (fun z => absurd (z.1.symm.trans c67) (by decide))).2
              refine lv_aload_n hx hb dX4_frame_73 rfl (lv_at hl 0 rfl) ?_
              refine va_get (D := D) (ci := 6) (v := .ref (g 2)) (C := RX4) (T := TX4) (N := 7) hx hb hts inX4 hown hK hP 0 rfl rfl 3 (by decide) (hts _ wF_X4_32) (fun _ h9 => h9) rfl dX4_frame_74 ?_
              refine k_callR (D := D) C hK hN hP hD (c_X3_isFull hs) hl cf_yX3_isFull wM_X4_67 2 5 rfl rfl rfl rfl (Nat.le_of_ble_eq_true rfl) ⟨by decide, by decide⟩ ⟨Nat.le_of_ble_eq_true rfl, Nat.le_of_ble_eq_true rfl⟩ dX4_frame_77 (fun r77 hr77 => ?_)
              have hr77 : r77 = (if 100 ≤ ss then 1 else 0) := hr77
              subst hr77
              refine k_ifeq_P (P := (100 ≤ ss)) (tgt := 86) hx hb rfl dX4_frame_80 (by decide) (fun c80 => ?_) (fun c80 => ?_)
              · skip
                refine lv_aload_n hx hb dX4_frame_86 rfl (lv_at hl 0 rfl) ?_
                refine va_get (D := D) (ci := 6) (v := .ref (g 2)) (C := RX4) (T := TX4) (N := 7) hx hb hts inX4 hown hK hP 0 rfl rfl 3 (by decide) (hts _ wF_X4_32) (fun _ h9 => h9) rfl dX4_frame_87 ?_
                refine lv_iload_n hx hb dX4_frame_90 rfl (lv_at hl 1 rfl) ?_
                refine lv_iload_n hx hb dX4_frame_91 rfl (lv_at hl 2 rfl) ?_
                refine lv_iload_n hx hb dX4_frame_92 rfl (lv_at hl 3 rfl) ?_
                refine lv_iload hx hb dX4_frame_93 (lv_at hl 4 rfl) ?_
                refine lv_iload hx hb dX4_frame_95 (lv_at hl 5 rfl) ?_
                refine k_callI (D := D) C hK hN hP hD hS hA (c_X3_add (by omega) x q ch ba ev) hl cf_yX3_add wM_X4_71 2 5 rfl rfl rfl rfl (Nat.le_of_ble_eq_true rfl) ⟨by decide, by decide⟩ ⟨Nat.le_of_ble_eq_true rfl, Nat.le_of_ble_eq_true rfl⟩ dX4_frame_97 (fun r97 u97 H locs hr97 hP hD hS _ _ => ?_)
                have hP : va_P D vwCl (cw g cI cZ sl mi n u97 cy (ss + 1) ds fs) H := hP
                have hD : va_D A (cw g cI cZ sl mi n u97 cy (ss + 1) ds fs) := hD
                exact ret _ (u97, ss + 1) _ _ _ _ dX4_frame_100 hP hD hS (Or.inr (Or.inr (Or.inr (Or.inr ⟨⟨c8, c16⟩, ⟨c27, c35, c48⟩, hno, by omega, hr97.1, by rw [hr97.2]⟩))))
              · skip
                refine lv_bipush (v := (-4)) hx hb dX4_frame_83 (by decide) ?_
                exact ret _ (X, ss) _ _ _ _ dX4_frame_85 hP hD hS (Or.inr (Or.inr (Or.inr (Or.inl ⟨⟨c8, c16⟩, ⟨c27, c35, c48⟩, hno, c80, rfl, rfl⟩))))
            · skip
              refine lv_bipush (v := (-3)) hx hb dX4_frame_70 (by decide) ?_
              exact ret _ (X, ss) _ _ _ _ dX4_frame_72 hP hD hS (Or.inr (Or.inr (Or.inl ⟨⟨c8, c16⟩, ⟨c27, c35, c48⟩, (hr64.resolve_right (fun z => c67 z.1)).2, rfl, rfl⟩)))
          · skip
            refine lv_bipush (v := (-2)) hx hb dX4_frame_51 (by decide) ?_
            exact ret _ (X, ss) _ _ _ _ dX4_frame_53 hP hD hS (Or.inr (Or.inl ⟨⟨c8, c16⟩, (by first | exact fun z => c27 z.1 | exact fun z => c35 z.2.1 | exact fun z => c48 z.2.2), rfl, rfl⟩))
    · skip
      refine lv_iconst (v := (-1)) hx hb dX4_frame_19 (by decide) ?_
      exact ret _ (X, ss) _ _ _ _ dX4_frame_20 hP hD hS (Or.inl ⟨(by first | exact fun z => c8 z.1 | exact fun z => c16 z.2), rfl, rfl⟩)
set_option maxHeartbeats 4000000 in
set_option maxRecDepth 100000 in
theorem c_X4_runOne {l : Launch} {D : va_G} {cI cZ cL : ClassId} {g : Nat → Nat} {sl mi n : Nat} {X : Nat → Nat → Int32} {cy ss ds fs : Nat} (hn : n ≤ 16) (hs : ss ≤ 100) (hsl : sl ≤ 60) (hd : ds ≤ 100) (hmi : mi ≤ 60) (hF : FrI (X 12) (X 13) n sl ss) (hY : DyI (X 17) (X 19) n ds) : KI l yX4_runOne (.code yX4_runOne cX4_runOne 2 (some .int)) 4 D (tyz cI cZ cL) [.ref (g 0)] (cw g cI cZ sl mi n X cy ss ds fs) (fun r u => RunC sl mi n ss X cy ds r u.1 u.2) (fun u : (Nat → Nat → Int32) × Nat => cw g cI cZ sl mi n u.1 (cy + 1) ss u.2 0) := by
  refine KI.of (own := RX4) (lvs := [(0, .ref (g 0))]) (by decide) rfl (Nat.le_of_ble_eq_true rfl) rfl ?_
  intro p e s m args below meth c Q C hK hN A hA hP hD hS ret ls hl
  obtain ⟨hx, hb, hml, hown, hts, hr9, hlk9⟩ := id C
  refine lv_aload_n hx hb dX4_runOne_0 rfl (lv_at hl 0 rfl) ?_
  refine va_get (D := D) (ci := 6) (v := .ref (g 1)) (C := RX4) (T := TX4) (N := 7) hx hb hts inX4 hown hK hP 0 rfl rfl 2 (by decide) (hts _ wF_X4_25) (fun _ h9 => h9) rfl dX4_runOne_1 ?_
  refine k_callV (D := D) C hK hN hP hD hS hA (c_X2_startUp hn) hl cf_yX2_startUp wM_X4_121 1 4 rfl rfl rfl rfl (Nat.le_of_ble_eq_true rfl) ⟨by decide, by decide⟩ ⟨Nat.le_of_ble_eq_true rfl, Nat.le_of_ble_eq_true rfl⟩ dX4_runOne_4 (fun u4 H locs hr4 hP hD hS _ _ => ?_)
  have hP : va_P D vwCl (cw g cI cZ sl mi n u4 cy ss ds fs) H := hP
  have hD : va_D A (cw g cI cZ sl mi n u4 cy ss ds fs) := hD
  have e4 := @SU_keep _ _ _ hr4
  refine lv_aload_n hx hb dX4_runOne_7 rfl (lv_at hl 0 rfl) ?_
  refine va_get (D := D) (ci := 6) (v := .ref (g 2)) (C := RX4) (T := TX4) (N := 7) hx hb hts inX4 hown hK hP 0 rfl rfl 3 (by decide) (hts _ wF_X4_32) (fun _ h9 => h9) rfl dX4_runOne_8 ?_
  refine lv_aload_n hx hb dX4_runOne_11 rfl (lv_at hl 0 rfl) ?_
  refine va_get (D := D) (ci := 6) (v := .int (nI cy)) (C := RX4) (T := TX4) (N := 7) hx hb hts inX4 hown hK hP 0 rfl rfl 6 (by decide) (hts _ wF_X4_50) (fun _ h9 => h9) rfl dX4_runOne_12 ?_
  refine lv_aload_n hx hb dX4_runOne_15 rfl (lv_at hl 0 rfl) ?_
  refine va_get (D := D) (ci := 6) (v := .ref (g 1)) (C := RX4) (T := TX4) (N := 7) hx hb hts inX4 hown hK hP 0 rfl rfl 2 (by decide) (hts _ wF_X4_25) (fun _ h9 => h9) rfl dX4_runOne_16 ?_
  refine lv_aload_n hx hb dX4_runOne_19 rfl (lv_at hl 0 rfl) ?_
  refine va_get (D := D) (ci := 6) (v := .ref (g 4)) (C := RX4) (T := TX4) (N := 7) hx hb hts inX4 hown hK hP 0 rfl rfl 5 (by decide) (hts _ wF_X4_46) (fun _ h9 => h9) rfl dX4_runOne_20 ?_
  refine k_callI (D := D) C hK hN hP hD hS hA (c_X3_send hn hs hsl (nI cy) (by rw [e4 12 (by decide) (by decide) (by decide), e4 13 (by decide) (by decide) (by decide)]; exact hF)) hl cf_yX3_send wM_X4_124 2 5 rfl rfl rfl rfl (Nat.le_of_ble_eq_true rfl) ⟨by decide, by decide⟩ ⟨Nat.le_of_ble_eq_true rfl, Nat.le_of_ble_eq_true rfl⟩ dX4_runOne_23 (fun r23 u23 H locs hr23 hP hD hS _ _ => ?_)
  have hP : va_P D vwCl (cw g cI cZ sl mi n u23 cy ss ds fs) H := hP
  have hD : va_D A (cw g cI cZ sl mi n u23 cy ss ds fs) := hD
  have e23 := hr23.2.2
  refine lv_aload_n hx hb dX4_runOne_26 rfl (lv_at hl 0 rfl) ?_
  refine va_get (D := D) (ci := 6) (v := .ref (g 3)) (C := RX4) (T := TX4) (N := 7) hx hb hts inX4 hown hK hP 0 rfl rfl 4 (by decide) (hts _ wF_X4_39) (fun _ h9 => h9) rfl dX4_runOne_27 ?_
  refine lv_aload_n hx hb dX4_runOne_30 rfl (lv_at hl 0 rfl) ?_
  refine va_get (D := D) (ci := 6) (v := .int (nI mi)) (C := RX4) (T := TX4) (N := 7) hx hb hts inX4 hown hK hP 0 rfl rfl 1 (by decide) (hts _ wF_X4_17) (fun _ h9 => h9) rfl dX4_runOne_31 ?_
  refine lv_aload_n hx hb dX4_runOne_34 rfl (lv_at hl 0 rfl) ?_
  refine va_get (D := D) (ci := 6) (v := .ref (g 1)) (C := RX4) (T := TX4) (N := 7) hx hb hts inX4 hown hK hP 0 rfl rfl 2 (by decide) (hts _ wF_X4_25) (fun _ h9 => h9) rfl dX4_runOne_35 ?_
  refine k_callI (D := D) C hK hN hP hD hS hA (c_X0_send hn hd hmi (by rw [e23 17 (by decide), e23 19 (by decide), e4 17 (by decide) (by decide) (by decide), e4 19 (by decide) (by decide) (by decide)]; exact hY)) hl cf_yX0_send wM_X4_128 3 2 rfl rfl rfl rfl (Nat.le_of_ble_eq_true rfl) ⟨by decide, by decide⟩ ⟨Nat.le_of_ble_eq_true rfl, Nat.le_of_ble_eq_true rfl⟩ dX4_runOne_38 (fun r38 u38 H locs hr38 hP hD hS _ _ => ?_)
  have hP : va_P D vwCl (cw g cI cZ sl mi n (u38.1) cy ss (u38.2) fs) H := hP
  have hD : va_D A (cw g cI cZ sl mi n (u38.1) cy ss (u38.2) fs) := hD
  obtain ⟨d, hd1, hd2, hd3, hY3, e38, hd4⟩ := hr38
  refine lv_iadd hx hb dX4_runOne_41 ?_
  refine lv_istore_n (lv' := [(1, .int (r23 + r38)), (0, .ref (g 0))]) hx hb dX4_runOne_42 rfl hl (by decide) rfl (fun ls hl => ?_)
  have L62 : ∀ (od : Int32) (ls : Array Slot), (od = if nI cy &&& 1 = 1 then 1 else 0) → (lv_has ls 2 [(0, .ref (g 0)), (1, .int (r23 + r38))]) → W p l e (rmK 4) s m args below meth c H locs 0 0 Q (F0 m 62 ls [.int od, .ref (g 1)]) := by
    intro od ls hod hl
    refine k_callV (D := D) C hK hN hP hD hS hA (c_X2_correct hn od) hl cf_yX2_correct wM_X4_131 1 4 rfl rfl rfl rfl (Nat.le_of_ble_eq_true rfl) ⟨by decide, by decide⟩ ⟨Nat.le_of_ble_eq_true rfl, Nat.le_of_ble_eq_true rfl⟩ dX4_runOne_62 (fun u62 H locs hr62 hP hD hS _ _ => ?_)
    have hP : va_P D vwCl (cw g cI cZ sl mi n u62 cy ss (u38.2) fs) H := hP
    have hD : va_D A (cw g cI cZ sl mi n u62 cy ss (u38.2) fs) := hD
    refine lv_aload_n hx hb dX4_runOne_65 rfl (lv_at hl 0 rfl) ?_
    refine va_get (D := D) (ci := 6) (v := .ref (g 1)) (C := RX4) (T := TX4) (N := 7) hx hb hts inX4 hown hK hP 0 rfl rfl 2 (by decide) (hts _ wF_X4_25) (fun _ h9 => h9) rfl dX4_runOne_66 ?_
    refine k_callV (D := D) C hK hN hP hD hS hA (c_X2_passTime hn) hl cf_yX2_passTime wM_X4_135 1 4 rfl rfl rfl rfl (Nat.le_of_ble_eq_true rfl) ⟨by decide, by decide⟩ ⟨Nat.le_of_ble_eq_true rfl, Nat.le_of_ble_eq_true rfl⟩ dX4_runOne_69 (fun u69 H locs hr69 hP hD hS _ _ => ?_)
    have hP : va_P D vwCl (cw g cI cZ sl mi n u69 cy ss (u38.2) fs) H := hP
    have hD : va_D A (cw g cI cZ sl mi n u69 cy ss (u38.2) fs) := hD
    refine lv_aload_n hx hb dX4_runOne_72 rfl (lv_at hl 0 rfl) ?_
    refine va_get (D := D) (ci := 6) (v := .ref (g 4)) (C := RX4) (T := TX4) (N := 7) hx hb hts inX4 hown hK hP 0 rfl rfl 5 (by decide) (hts _ wF_X4_46) (fun _ h9 => h9) rfl dX4_runOne_73 ?_
    refine k_callV (D := D) C hK hN hP hD hS hA (c_X1_clear hsl) hl cf_yX1_clear wM_X4_138 4 3 rfl rfl rfl rfl (Nat.le_of_ble_eq_true rfl) ⟨by decide, by decide⟩ ⟨Nat.le_of_ble_eq_true rfl, Nat.le_of_ble_eq_true rfl⟩ dX4_runOne_76 (fun u76 H locs hr76 hP hD hS _ _ => ?_)
    have hP : va_P D vwCl (cw g cI cZ sl mi n u76 cy ss (u38.2) 0) H := hP
    have hD : va_D A (cw g cI cZ sl mi n u76 cy ss (u38.2) 0) := hD
    refine lv_aload_n hx hb dX4_runOne_79 rfl (lv_at hl 0 rfl) ?_
    refine lv_dup hx hb dX4_runOne_80 rfl ?_
    refine va_get (D := D) (ci := 6) (v := .int (nI cy)) (C := RX4) (T := TX4) (N := 7) hx hb hts inX4 hown hK hP 0 rfl rfl 6 (by decide) (hts _ wF_X4_50) (fun _ h9 => h9) rfl dX4_runOne_81 ?_
    refine lv_iconst (v := 1) hx hb dX4_runOne_84 (by decide) ?_
    refine k_iadd hx hb cy 1 rfl rfl dX4_runOne_85 ?_
    refine k_put (D := D) (ci := 6) (v := .int (nI (cy + 1))) (ty := .int) (C := RX4) (T := TX4) (N := 7) (ws' := cw g cI cZ sl mi n u76 (cy + 1) ss (u38.2) 0) hx hb hts inX4 tyX4 tyX4_ok nmX4 hown hK hP hD hS 0 rfl rfl 6 (by decide) (hts _ wF_X4_50) (fun _ h9 => h9) rfl (by decide +kernel) rfl rfl (Nat.le_of_ble_eq_true rfl) rfl dX4_runOne_86 (fun H locs hP hD hS => ?_)
    refine lv_iload_n hx hb dX4_runOne_89 rfl (lv_at hl 1 rfl) ?_
    exact ret _ (u76, u38.2) _ _ _ _ dX4_runOne_90 hP hD hS ⟨u4, u23, u38.1, u62, u69, r23, d, hr4, hr23, ⟨hd2, hd3, hY3, e38⟩, (by rw [← hod]; exact hr62), hr69, hr76, (by rw [hd1])⟩
  refine lv_aload_n hx hb dX4_runOne_43 rfl (lv_at hl 1 rfl) ?_
  refine va_get (D := D) (ci := 6) (v := .ref (g 1)) (C := RX4) (T := TX4) (N := 7) hx hb hts inX4 hown hK hP 0 rfl rfl 2 (by decide) (hts _ wF_X4_25) (fun _ h9 => h9) rfl dX4_runOne_44 ?_
  refine lv_aload_n hx hb dX4_runOne_47 rfl (lv_at hl 1 rfl) ?_
  refine va_get (D := D) (ci := 6) (v := .int (nI cy)) (C := RX4) (T := TX4) (N := 7) hx hb hts inX4 hown hK hP 0 rfl rfl 6 (by decide) (hts _ wF_X4_50) (fun _ h9 => h9) rfl dX4_runOne_48 ?_
  refine lv_iconst (v := 1) hx hb dX4_runOne_51 (by decide) ?_
  refine lv_iand hx hb dX4_runOne_52 ?_
  refine lv_iconst (v := 1) hx hb dX4_runOne_53 (by decide) ?_
  refine lv_icmp_ne (tgt := 61) hx hb dX4_runOne_54 (by decide) (fun c54 => ?_) (fun c54 => ?_)
  · skip
    refine lv_iconst (v := 0) hx hb dX4_runOne_61 (by decide) ?_
    exact L62 0 _ (by first | exact ite_p c54 | exact ite_n c54) (lv_sub hl [1, 0] rfl)
  · skip
    refine lv_iconst (v := 1) hx hb dX4_runOne_57 (by decide) ?_
    refine lv_goto (tgt := 62) hx hb dX4_runOne_58 (by decide) ?_
    exact L62 1 _ (by first | exact ite_p c54 | exact ite_n c54) (lv_sub hl [1, 0] rfl)
set_option maxHeartbeats 4000000 in
set_option maxRecDepth 100000 in
theorem c_X4_run {l : Launch} {D : va_G} {cI cZ cL : ClassId} {g : Nat → Nat} {sl mi n : Nat} {X : Nat → Nat → Int32} {cy ss ds fs : Nat} (hn : n ≤ 16) (hs : ss ≤ 100) (hsl : sl ≤ 60) (hd : ds ≤ 100) (hmi : mi ≤ 60) (hF : FrI (X 12) (X 13) n sl ss) (hY : DyI (X 17) (X 19) n ds) (x : Int32) : KI l yX4_run (.code yX4_run cX4_run 4 (some .int)) 5 D (tyz cI cZ cL) [.ref (g 0), .int x] (cw g cI cZ sl mi n X cy ss ds fs) (fun r u => (¬ inR x 0 500 ∧ r = -2 ∧ u = (X, cy, ds, fs)) ∨ (inR x 0 500 ∧ RunS sl mi n ss x.toNatClampNeg (X, cy, ds, fs) r u)) (fun u : (Nat → Nat → Int32) × Nat × Nat × Nat => cw g cI cZ sl mi n u.1 u.2.1 ss u.2.2.1 u.2.2.2) := by
  refine KI.of (own := RX4) (lvs := [(0, .ref (g 0)), (1, .int x)]) (by decide) rfl (Nat.le_of_ble_eq_true rfl) rfl ?_
  intro p e s m args below meth c Q C hK hN A hA hP hD hS ret ls hl
  obtain ⟨hx, hb, hml, hown, hts, hr9, hlk9⟩ := id C
  refine lv_iload_n hx hb dX4_run_0 rfl (lv_at hl 1 rfl) ?_
  refine lv_iconst (v := 0) hx hb dX4_run_1 (by decide) ?_
  refine lv_sipush (v := 500) hx hb dX4_run_2 (by decide) ?_
  refine k_callS (D := D) C hK hN hP hD (c_X4_within x 0 500) hl cf_yX4_within wM_X4_7 rfl rfl (Nat.le_of_ble_eq_true rfl) ⟨by decide, by decide⟩ ⟨Nat.le_of_ble_eq_true rfl, Nat.le_of_ble_eq_true rfl⟩ dX4_run_5 (fun r5 hr5 => ?_)
  have hr5 : r5 = (if 0 ≤ x ∧ x ≤ 500 then 1 else 0) := hr5
  subst hr5
  refine k_ifne_P (P := (0 ≤ x ∧ x ≤ 500)) (tgt := 14) hx hb rfl dX4_run_8 (by decide) (fun c8 => ?_) (fun c8 => ?_)
  · skip
    have c8 := (inR_iff (x := x) (a := 0) (b := 500) (by omega) (by omega)).mp c8
    obtain ⟨k, hk1, hk2, rfl⟩ := inR_of c8
    refine lv_iconst (v := 0) hx hb dX4_run_14 (by decide) ?_
    refine lv_istore_n (lv' := [(2, .int 0), (0, .ref (g 0)), (1, .int (nI k))]) hx hb dX4_run_15 rfl hl (by decide) rfl (fun ls hl => ?_)
    refine lv_iconst (v := 0) hx hb dX4_run_16 (by decide) ?_
    refine lv_istore_n (lv' := [(3, .int 0), (2, .int 0), (0, .ref (g 0)), (1, .int (nI k))]) hx hb dX4_run_17 rfl hl (by decide) rfl (fun ls hl => ?_)
    have L18 : ∀ (kf : Nat) (i : Nat) (acc : Int32) (X' : Nat → Nat → Int32) (cy' : Nat) (ds' : Nat) (fs' : Nat) (H : Heap) (locs : List Loc) (ls : Array Slot), (k - i < kf) → (i ≤ k) → (RunS sl mi n ss i (X, cy, ds, fs) acc (X', cy', ds', fs')) → (ds' ≤ 100) → (FrI (X' 12) (X' 13) n sl ss) → (DyI (X' 17) (X' 19) n ds') → (va_P D vwCl (cw g cI cZ sl mi n X' cy' ss ds' fs') H) → (va_D A (cw g cI cZ sl mi n X' cy' ss ds' fs')) → (va_S A s.heap H locs) → (lv_has ls 4 [(0, .ref (g 0)), (1, .int (nI k)), (2, .int acc), (3, .int (nI i))]) → W p l e (rmK 5) s m args below meth c H locs 0 0 Q (F0 m 18 ls []) := by
      intro kf
      induction kf with
      | zero =>
        intro i acc X' cy' ds' fs' H locs ls hm
        exact absurd hm (Nat.not_lt_zero _)
      | succ kf ih18 =>
        intro i acc X' cy' ds' fs' H locs ls hm h2 h3 hd2 hF2 hY2 hP hD hS hl
        refine lv_iload_n hx hb dX4_run_18 rfl (lv_at hl 3 rfl) ?_
        refine lv_iload_n hx hb dX4_run_19 rfl (lv_at hl 1 rfl) ?_
        refine k_icmp_ge (tgt := 36) hx hb i k rfl rfl (by omega) (by omega) dX4_run_20 (by decide) (fun c20 => ?_) (fun c20 => ?_)
        · skip
          refine lv_iload_n hx hb dX4_run_36 rfl (lv_at hl 2 rfl) ?_
          exact ret _ (X', cy', ds', fs') _ _ _ _ dX4_run_37 hP hD hS (Or.inr ⟨c8, (by rw [nI_clamp (by omega), show k = i by omega]; exact h3)⟩)
        · skip
          refine lv_iload_n hx hb dX4_run_23 rfl (lv_at hl 2 rfl) ?_
          refine lv_aload_n hx hb dX4_run_24 rfl (lv_at hl 0 rfl) ?_
          refine k_callI (D := D) C hK hN hP hD hS hA (c_X4_runOne hn hs hsl hd2 hmi hF2 hY2) hl cf_yX4_runOne wM_X4_83 0 6 rfl rfl rfl rfl (Nat.le_of_ble_eq_true rfl) ⟨by decide, by decide⟩ ⟨Nat.le_of_ble_eq_true rfl, Nat.le_of_ble_eq_true rfl⟩ dX4_run_25 (fun r25 u25 H locs hr25 hP hD hS _ _ => ?_)
          have hP : va_P D vwCl (cw g cI cZ sl mi n (u25.1) (cy' + 1) ss (u25.2) 0) H := hP
          have hD : va_D A (cw g cI cZ sl mi n (u25.1) (cy' + 1) ss (u25.2) 0) := hD
          refine lv_iadd hx hb dX4_run_28 ?_
          refine lv_istore_n (lv' := [(2, .int (acc + r25)), (0, .ref (g 0)), (1, .int (nI k)), (3, .int (nI i))]) hx hb dX4_run_29 rfl hl (by decide) rfl (fun ls hl => ?_)
          refine k_iinc (k := 3) (lv' := [(3, .int (nI (i + 1))), (2, .int (acc + r25)), (0, .ref (g 0)), (1, .int (nI k))]) hx hb i rfl dX4_run_30 hl rfl (by decide) rfl (fun ls hl => ?_)
          refine lv_goto (tgt := 18) hx hb dX4_run_33 (by decide) ?_
          exact ih18 (i + 1) (acc + r25) (u25.1) (cy' + 1) (u25.2) 0 _ _ _ (by omega) (by omega) (RunS_step h3 hr25) (Nat.le_trans (RunC_ds hr25) hd2) (by rw [RunC_keep hr25 12 (by decide), RunC_keep hr25 13 (by decide)]; exact hF2) (RunC_dy hr25) hP hD hS (lv_sub hl [2, 3, 1, 0] rfl)
    exact L18 ((k - 0) + 1) 0 0 X cy ds fs _ _ _ (Nat.lt_succ_self _) (Nat.zero_le _) ⟨rfl, rfl⟩ hd hF hY hP hD hS (lv_sub hl [2, 3, 1, 0] rfl)
  · skip
    have c8 := fun z => c8 ((inR_iff (x := x) (a := 0) (b := 500) (by omega) (by omega)).mpr z)
    refine lv_bipush (v := (-2)) hx hb dX4_run_11 (by decide) ?_
    exact ret _ (X, cy, ds, fs) _ _ _ _ dX4_run_13 hP hD hS (Or.inl ⟨c8, rfl, rfl⟩)
