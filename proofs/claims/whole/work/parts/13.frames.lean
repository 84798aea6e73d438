/-! the class's frames -/
theorem sn_keep {u : Nat → Int32} {P : Nat → Prop} {f : Nat → Nat} {n i : Nat} (h : ∀ j, 1 ≤ j → j ≤ n → (u j ≠ 0 ↔ ∃ k, k < i ∧ P k ∧ f k = j)) (hd : ¬ P i) : ∀ j, 1 ≤ j → j ≤ n → (u j ≠ 0 ↔ ∃ k, k < i + 1 ∧ P k ∧ f k = j) := by
  intro j a b
  rw [h j a b]
  constructor
  · rintro ⟨k, h1, h2⟩; exact ⟨k, by omega, h2⟩
  · rintro ⟨k, h1, h2⟩
    by_cases e : k = i
    · subst e; exact absurd h2.1 hd
    · exact ⟨k, by omega, h2⟩
theorem sn_set {u : Nat → Nat → Int32} {P : Nat → Prop} {f : Nat → Nat} {n i a0 t : Nat} (h : ∀ j, 1 ≤ j → j ≤ n → (u a0 j ≠ 0 ↔ ∃ k, k < i ∧ P k ∧ f k = j)) (hd : P i) (ht : f i = t) : ∀ j, 1 ≤ j → j ≤ n → (sX u a0 t 1 a0 j ≠ 0 ↔ ∃ k, k < i + 1 ∧ P k ∧ f k = j) := by
  intro j a b
  rw [sX_app]
  by_cases e : j = t
  · subst e
    rw [if_pos ⟨rfl, rfl⟩]
    exact ⟨fun _ => ⟨i, by omega, hd, ht⟩, fun _ => by decide⟩
  · rw [if_neg (fun z => e z.2), h j a b]
    constructor
    · rintro ⟨k, h1, h2⟩; exact ⟨k, by omega, h2⟩
    · rintro ⟨k, h1, h2⟩
      by_cases e2 : k = i
      · subst e2; exact absurd (h2.2.symm.trans ht) e
      · exact ⟨k, by omega, h2⟩
set_option maxHeartbeats 4000000 in
set_option maxRecDepth 100000 in
theorem c_X2_distance {l : Launch} {D : va_G} {cI cZ cL : ClassId} {g : Nat → Nat} {sl mi n : Nat} {X : Nat → Nat → Int32} {cy ss ds fs : Nat} (hn : n ≤ 16) (i j : Nat) (hi : i ≤ n) (hj : j ≤ n) : RL2 l yX2_distance (.code yX2_distance cX2_distance 3 (some .long)) 1 D (tyz cI cZ cL) [.ref (g 1), .int (nI i), .int (nI j)] (cw g cI cZ sl mi n X cy ss ds fs) (fun r => r = dst (X 2 i) (X 2 j)) := by
  refine RL2.of (own := RX2) (lvs := [(0, .ref (g 1)), (1, .int (nI i)), (2, .int (nI j))]) (by decide) rfl (Nat.le_of_ble_eq_true rfl) rfl ?_
  intro p e s m args below meth c Q C hK hN hP hD ret ls hl
  obtain ⟨hx, hb, hml, hown, hts, hr9, hlk9⟩ := id C
  refine lv_aload_n hx hb dX2_distance_0 rfl (lv_at hl 0 rfl) ?_
  refine va_get (D := D) (ci := 4) (v := .ref (g 12)) (C := RX2) (T := TX2) (N := 12) hx hb hts inX2 hown hK hP 1 rfl rfl 2 (by decide) (hts _ wF_X2_17) (fun _ h9 => h9) rfl dX2_distance_1 ?_
  refine lv_iload_n hx hb dX2_distance_4 rfl (lv_at hl 1 rfl) ?_
  refine k_iald (D := D) (f := X 2) hx hb hK hP 6 0 rfl rfl i rfl (by omega) (by omega) dX2_distance_5 ?_
  refine lv_i2l hx hb dX2_distance_6 rfl ?_
  refine lv_aload_n hx hb dX2_distance_7 rfl (lv_at hl 0 rfl) ?_
  refine va_get (D := D) (ci := 4) (v := .ref (g 12)) (C := RX2) (T := TX2) (N := 12) hx hb hts inX2 hown hK hP 1 rfl rfl 2 (by decide) (hts _ wF_X2_17) (fun _ h9 => h9) rfl dX2_distance_8 ?_
  refine lv_iload_n hx hb dX2_distance_11 rfl (lv_at hl 2 rfl) ?_
  refine k_iald (D := D) (f := X 2) hx hb hK hP 6 0 rfl rfl j rfl (by omega) (by omega) dX2_distance_12 ?_
  refine lv_i2l hx hb dX2_distance_13 rfl ?_
  refine lv_lsub hx hb dX2_distance_14 ?_
  refine va_mabs_long hx hb (by rw [hml]; exact hl.1.symm) hown (hts _ wM_X2_56) (hts _ wT_Lib_MathLoose_abs_long_x) (hts _ wI_Math) (hts _ wC_Lib_MathLoose_abs_long) (by decide) (Nat.le_of_ble_eq_true rfl) (Nat.zero_le _) (Nat.zero_le _) dX2_distance_15 ?_
  exact ret _ _ _ dX2_distance_18 rfl
set_option maxHeartbeats 4000000 in
set_option maxRecDepth 100000 in
theorem c_X2_areWithin {l : Launch} {D : va_G} {cI cZ cL : ClassId} {g : Nat → Nat} {sl mi n : Nat} {X : Nat → Nat → Int32} {cy ss ds fs : Nat} (hn : n ≤ 16) (bd : Int32) : KR l yX2_areWithin (.code yX2_areWithin cX2_areWithin 4 (some .boolean)) 2 D (tyz cI cZ cL) [.ref (g 1), .int bd] (cw g cI cZ sl mi n X cy ss ds fs) (fun r => (r = 1 ∧ ∀ a b, 1 ≤ a → a < b → b ≤ n → (X 1 a = 2 → X 1 b = 2 → dst (X 2 a) (X 2 b) ≤ bd.toInt64)) ∨ (r = 0 ∧ ∃ a b, 1 ≤ a ∧ a < b ∧ b ≤ n ∧ X 1 a = 2 ∧ X 1 b = 2 ∧ ¬ dst (X 2 a) (X 2 b) ≤ bd.toInt64)) := by
  refine KR.ofz (own := RX2) (lvs := [(0, .ref (g 1)), (1, .int bd)]) (by decide) rfl (Nat.le_of_ble_eq_true rfl) rfl ?_
  intro p e s m args below meth c Q C hK hN hP hD ret ls hl
  obtain ⟨hx, hb, hml, hown, hts, hr9, hlk9⟩ := id C
  refine lv_iconst (v := 1) hx hb dX2_areWithin_0 (by decide) ?_
  refine lv_istore_n (lv' := [(2, .int 1), (0, .ref (g 1)), (1, .int bd)]) hx hb dX2_areWithin_1 rfl hl (by decide) rfl (fun ls hl => ?_)
  have L2 : ∀ (kf : Nat) (i : Nat) (ls : Array Slot), (n + 1 - i < kf) → (1 ≤ i) → (i ≤ n + 1) → (∀ a b, 1 ≤ a → a < i → a < b → b ≤ n → (X 1 a = 2 → X 1 b = 2 → dst (X 2 a) (X 2 b) ≤ bd.toInt64)) → (lv_has ls 4 [(0, .ref (g 1)), (1, .int bd), (2, .int (nI i))]) → W p l e (rmK 2) s m args below meth c s.heap [] 0 0 Q (F0 m 2 ls []) := by
    intro kf
    induction kf with
    | zero =>
      intro i ls hm
      exact absurd hm (Nat.not_lt_zero _)
    | succ kf ih2 =>
      intro i ls hm h1 h2 h3 hl
      refine lv_iload_n hx hb dX2_areWithin_2 rfl (lv_at hl 2 rfl) ?_
      refine lv_aload_n hx hb dX2_areWithin_3 rfl (lv_at hl 0 rfl) ?_
      refine va_get (D := D) (ci := 4) (v := .int (nI n)) (C := RX2) (T := TX2) (N := 12) hx hb hts inX2 hown hK hP 1 rfl rfl 0 (by decide) (hts _ wF_X2_7) (fun _ h9 => h9) rfl dX2_areWithin_4 ?_
      refine k_icmp_gt (tgt := 64) hx hb i n rfl rfl (by omega) (by omega) dX2_areWithin_7 (by decide) (fun c7 => ?_) (fun c7 => ?_)
      · skip
        refine lv_iconst (v := 1) hx hb dX2_areWithin_64 (by decide) ?_
        exact ret _ _ _ dX2_areWithin_65 (Or.inr rfl) (Or.inl ⟨rfl, fun a b q1 q2 q3 => h3 a b q1 (by omega) q2 q3⟩)
      · skip
        refine lv_iload_n hx hb dX2_areWithin_10 rfl (lv_at hl 2 rfl) ?_
        refine lv_iconst (v := 1) hx hb dX2_areWithin_11 (by decide) ?_
        refine k_iadd hx hb i 1 rfl rfl dX2_areWithin_12 ?_
        refine lv_istore_n (lv' := [(3, .int (nI (i + 1))), (0, .ref (g 1)), (1, .int bd), (2, .int (nI i))]) hx hb dX2_areWithin_13 rfl hl (by decide) rfl (fun ls hl => ?_)
        have L14 : ∀ (kf : Nat) (k : Nat) (ls : Array Slot), (n + 1 - k < kf) → (i < k) → (k ≤ n + 1) → (∀ b, i < b → b < k → (X 1 i = 2 → X 1 b = 2 → dst (X 2 i) (X 2 b) ≤ bd.toInt64)) → (lv_has ls 4 [(0, .ref (g 1)), (1, .int bd), (2, .int (nI i)), (3, .int (nI k))]) → W p l e (rmK 2) s m args below meth c s.heap [] 0 0 Q (F0 m 14 ls []) := by
          intro kf
          induction kf with
          | zero =>
            intro k ls hm
            exact absurd hm (Nat.not_lt_zero _)
          | succ kf ih14 =>
            intro k ls hm k1 k2 k3 hl
            refine lv_iload_n hx hb dX2_areWithin_14 rfl (lv_at hl 3 rfl) ?_
            refine lv_aload_n hx hb dX2_areWithin_15 rfl (lv_at hl 0 rfl) ?_
            refine va_get (D := D) (ci := 4) (v := .int (nI n)) (C := RX2) (T := TX2) (N := 12) hx hb hts inX2 hown hK hP 1 rfl rfl 0 (by decide) (hts _ wF_X2_7) (fun _ h9 => h9) rfl dX2_areWithin_16 ?_
            refine k_icmp_gt (tgt := 58) hx hb k n rfl rfl (by omega) (by omega) dX2_areWithin_19 (by decide) (fun c19 => ?_) (fun c19 => ?_)
            · skip
              refine k_iinc (k := 2) (lv' := [(2, .int (nI (i + 1))), (0, .ref (g 1)), (1, .int bd), (3, .int (nI k))]) hx hb i rfl dX2_areWithin_58 hl rfl (by decide) rfl (fun ls hl => ?_)
              refine lv_goto (tgt := 2) hx hb dX2_areWithin_61 (by decide) ?_
              exact ih2 (i + 1) _ (by omega) (by omega) (by omega) (fun a b q1 q2 q3 q4 => if e : a = i then by subst e; exact k3 b q3 (by omega) else h3 a b q1 (by omega) q3 q4) (lv_sub hl [1, 2, 0] rfl)
            · skip
              refine lv_aload_n hx hb dX2_areWithin_22 rfl (lv_at hl 0 rfl) ?_
              refine lv_iload_n hx hb dX2_areWithin_23 rfl (lv_at hl 2 rfl) ?_
              refine k_callR (D := D) C hK hN hP hD (c_X2_isActive hn i (by omega)) hl cf_yX2_isActive wM_X2_48 1 4 rfl rfl rfl rfl (Nat.le_of_ble_eq_true rfl) ⟨by decide, by decide⟩ ⟨Nat.le_of_ble_eq_true rfl, Nat.le_of_ble_eq_true rfl⟩ dX2_areWithin_24 (fun r24 hr24 => ?_)
              have hr24 : r24 = (if X 1 i = 2 then 1 else 0) := hr24
              subst hr24
              refine k_ifeq_P (P := (X 1 i = 2)) (tgt := 52) hx hb rfl dX2_areWithin_27 (by decide) (fun c27 => ?_) (fun c27 => ?_)
              · skip
                refine k_iinc (k := 3) (lv' := [(3, .int (nI (k + 1))), (0, .ref (g 1)), (1, .int bd), (2, .int (nI i))]) hx hb k rfl dX2_areWithin_52 hl rfl (by decide) rfl (fun ls hl => ?_)
                refine lv_goto (tgt := 14) hx hb dX2_areWithin_55 (by decide) ?_
                exact ih14 (k + 1) _ (by omega) (by omega) (by omega) (fun b q1 q2 z1 z2 => if e : b = k then (by subst e; first | exact absurd z1 c27 | exact absurd z2 c35 | exact (lg_cmp_le _ _).mp c47) else k3 b q1 (by omega) z1 z2) (lv_sub hl [1, 2, 3, 0] rfl)
              · skip
                refine lv_aload_n hx hb dX2_areWithin_30 rfl (lv_at hl 0 rfl) ?_
                refine lv_iload_n hx hb dX2_areWithin_31 rfl (lv_at hl 3 rfl) ?_
                refine k_callR (D := D) C hK hN hP hD (c_X2_isActive hn k (by omega)) hl cf_yX2_isActive wM_X2_48 1 4 rfl rfl rfl rfl (Nat.le_of_ble_eq_true rfl) ⟨by decide, by decide⟩ ⟨Nat.le_of_ble_eq_true rfl, Nat.le_of_ble_eq_true rfl⟩ dX2_areWithin_32 (fun r32 hr32 => ?_)
                have hr32 : r32 = (if X 1 k = 2 then 1 else 0) := hr32
                subst hr32
                refine k_ifeq_P (P := (X 1 k = 2)) (tgt := 52) hx hb rfl dX2_areWithin_35 (by decide) (fun c35 => ?_) (fun c35 => ?_)
                · skip
                  refine k_iinc (k := 3) (lv' := [(3, .int (nI (k + 1))), (0, .ref (g 1)), (1, .int bd), (2, .int (nI i))]) hx hb k rfl dX2_areWithin_52 hl rfl (by decide) rfl (fun ls hl => ?_)
                  refine lv_goto (tgt := 14) hx hb dX2_areWithin_55 (by decide) ?_
                  exact ih14 (k + 1) _ (by omega) (by omega) (by omega) (fun b q1 q2 z1 z2 => if e : b = k then (by subst e; first | exact absurd z1 c27 | exact absurd z2 c35 | exact (lg_cmp_le _ _).mp c47) else k3 b q1 (by omega) z1 z2) (lv_sub hl [1, 2, 3, 0] rfl)
                · skip
                  refine lv_aload_n hx hb dX2_areWithin_38 rfl (lv_at hl 0 rfl) ?_
                  refine lv_iload_n hx hb dX2_areWithin_39 rfl (lv_at hl 2 rfl) ?_
                  refine lv_iload_n hx hb dX2_areWithin_40 rfl (lv_at hl 3 rfl) ?_
                  refine k_callRl (D := D) C hK hN hP hD (c_X2_distance hn i k (by omega) (by omega)) hl cf_yX2_distance wM_X2_52 1 4 rfl rfl rfl rfl (Nat.le_of_ble_eq_true rfl) ⟨by decide, by decide⟩ ⟨Nat.le_of_ble_eq_true rfl, Nat.le_of_ble_eq_true rfl⟩ dX2_areWithin_41 (fun r41 hr41 => ?_)
                  have hr41 : r41 = (dst (X 2 i) (X 2 k)) := hr41
                  subst hr41
                  refine lv_iload_n hx hb dX2_areWithin_44 rfl (lv_at hl 1 rfl) ?_
                  refine lv_i2l hx hb dX2_areWithin_45 rfl ?_
                  refine W.lcmp hx hb dX2_areWithin_46 ?_
                  refine lv_if_le (tgt := 52) hx hb dX2_areWithin_47 (by decide) (fun c47 => ?_) (fun c47 => ?_)
                  · skip
                    refine k_iinc (k := 3) (lv' := [(3, .int (nI (k + 1))), (0, .ref (g 1)), (1, .int bd), (2, .int (nI i))]) hx hb k rfl dX2_areWithin_52 hl rfl (by decide) rfl (fun ls hl => ?_)
                    refine lv_goto (tgt := 14) hx hb dX2_areWithin_55 (by decide) ?_
                    exact ih14 (k + 1) _ (by omega) (by omega) (by omega) (fun b q1 q2 z1 z2 => if e : b = k then (by subst e; first | exact absurd z1 c27 | exact absurd z2 c35 | exact (lg_cmp_le _ _).mp c47) else k3 b q1 (by omega) z1 z2) (lv_sub hl [1, 2, 3, 0] rfl)
                  · skip
                    refine lv_iconst (v := 0) hx hb dX2_areWithin_50 (by decide) ?_
                    exact ret _ _ _ dX2_areWithin_51 (Or.inl rfl) (Or.inr ⟨rfl, i, k, h1, k1, by omega, c27, c35, fun z => c47 ((lg_cmp_le _ _).mpr z)⟩)
        exact L14 ((n + 1 - (i + 1)) + 1) (i + 1) _ (Nat.lt_succ_self _) (Nat.lt_succ_self _) (by omega) (fun b q1 q2 => absurd q2 (by omega)) (lv_sub hl [1, 2, 3, 0] rfl)
  exact L2 ((n + 1 - 1) + 1) 1 _ (Nat.lt_succ_self _) (Nat.le_refl 1) (by omega) (fun a b q1 q2 => absurd q2 (by omega)) (lv_sub hl [1, 2, 0] rfl)
set_option maxHeartbeats 4000000 in
set_option maxRecDepth 100000 in
theorem c_X3_remainder {l : Launch} {D : va_G} {cI cZ cL : ClassId} {g : Nat → Nat} {sl mi n : Nat} {X : Nat → Nat → Int32} {cy ss ds fs : Nat} (v e0 : Int32) : KR l yX3_remainder (.code yX3_remainder cX3_remainder 2 (some .int)) 0 D (tyz cI cZ cL) [.int v, .int e0] (cw g cI cZ sl mi n X cy ss ds fs) (fun r => r = v &&& (e0 - 1)) := by
  refine KR.of (own := RX3) (lvs := [(0, .int v), (1, .int e0)]) (by decide) rfl (Nat.le_of_ble_eq_true rfl) rfl ?_
  intro p e s m args below meth c Q C hK hN hP hD ret ls hl
  obtain ⟨hx, hb, hml, hown, hts, hr9, hlk9⟩ := id C
  refine lv_iload_n hx hb dX3_remainder_0 rfl (lv_at hl 0 rfl) ?_
  refine lv_iload_n hx hb dX3_remainder_1 rfl (lv_at hl 1 rfl) ?_
  refine lv_iconst (v := 1) hx hb dX3_remainder_2 (by decide) ?_
  refine lv_isub hx hb dX3_remainder_3 ?_
  refine lv_iand hx hb dX3_remainder_4 ?_
  exact ret _ _ _ dX3_remainder_5 rfl
set_option maxHeartbeats 4000000 in
set_option maxRecDepth 100000 in
theorem c_J6_bitCount_0f7a4 {l : Launch} {D : va_G} {cI cZ cL : ClassId} {g : Nat → Nat} {sl mi n : Nat} {X : Nat → Nat → Int32} {cy ss ds fs : Nat} (x : Int32) : KR l yJ6_bitCount_0f7a4 (.code yJ6_bitCount_0f7a4 cJ6_bitCount_0f7a4 1 (some .int)) 0 D (tyz cI cZ cL) [.int x] (cw g cI cZ sl mi n X cy ss ds fs) (fun r => r = bc x) := by
  refine KR.of (own := RJ6) (lvs := [(0, .int x)]) (by decide) rfl (Nat.le_of_ble_eq_true rfl) rfl ?_
  intro p e s m args below meth c Q C hK hN hP hD ret ls hl
  obtain ⟨hx, hb, hml, hown, hts, hr9, hlk9⟩ := id C
  refine lv_iload_n hx hb dJ6_bitCount_0f7a4_0 rfl (lv_at hl 0 rfl) ?_
  refine lv_iload_n hx hb dJ6_bitCount_0f7a4_1 rfl (lv_at hl 0 rfl) ?_
  refine lv_iconst (v := 1) hx hb dJ6_bitCount_0f7a4_2 (by decide) ?_
  refine lv_iushr hx hb dJ6_bitCount_0f7a4_3 rfl ?_
  refine lv_ldcw (v := 1431655765) hx hb hown (hts _ wK_J6_265) dJ6_bitCount_0f7a4_4 ?_
  refine lv_iand hx hb dJ6_bitCount_0f7a4_7 ?_
  refine lv_isub hx hb dJ6_bitCount_0f7a4_8 ?_
  refine k_int (y := (bc1 x)) rfl ?_
  refine lv_istore_n (lv' := [(0, .int (bc1 x))]) hx hb dJ6_bitCount_0f7a4_9 rfl hl (by decide) rfl (fun ls hl => ?_)
  refine lv_iload_n hx hb dJ6_bitCount_0f7a4_10 rfl (lv_at hl 0 rfl) ?_
  refine lv_ldcw (v := 858993459) hx hb hown (hts _ wK_J6_266) dJ6_bitCount_0f7a4_11 ?_
  refine lv_iand hx hb dJ6_bitCount_0f7a4_14 ?_
  refine lv_iload_n hx hb dJ6_bitCount_0f7a4_15 rfl (lv_at hl 0 rfl) ?_
  refine lv_iconst (v := 2) hx hb dJ6_bitCount_0f7a4_16 (by decide) ?_
  refine lv_iushr hx hb dJ6_bitCount_0f7a4_17 rfl ?_
  refine lv_ldcw (v := 858993459) hx hb hown (hts _ wK_J6_266) dJ6_bitCount_0f7a4_18 ?_
  refine lv_iand hx hb dJ6_bitCount_0f7a4_21 ?_
  refine lv_iadd hx hb dJ6_bitCount_0f7a4_22 ?_
  refine k_int (y := (bc2 (bc1 x))) rfl ?_
  refine lv_istore_n (lv' := [(0, .int (bc2 (bc1 x)))]) hx hb dJ6_bitCount_0f7a4_23 rfl hl (by decide) rfl (fun ls hl => ?_)
  refine lv_iload_n hx hb dJ6_bitCount_0f7a4_24 rfl (lv_at hl 0 rfl) ?_
  refine lv_iload_n hx hb dJ6_bitCount_0f7a4_25 rfl (lv_at hl 0 rfl) ?_
  refine lv_iconst (v := 4) hx hb dJ6_bitCount_0f7a4_26 (by decide) ?_
  refine lv_iushr hx hb dJ6_bitCount_0f7a4_27 rfl ?_
  refine lv_iadd hx hb dJ6_bitCount_0f7a4_28 ?_
  refine lv_ldcw (v := 252645135) hx hb hown (hts _ wK_J6_267) dJ6_bitCount_0f7a4_29 ?_
  refine lv_iand hx hb dJ6_bitCount_0f7a4_32 ?_
  refine k_int (y := (bc3 (bc2 (bc1 x)))) rfl ?_
  refine lv_istore_n (lv' := [(0, .int (bc3 (bc2 (bc1 x))))]) hx hb dJ6_bitCount_0f7a4_33 rfl hl (by decide) rfl (fun ls hl => ?_)
  refine lv_iload_n hx hb dJ6_bitCount_0f7a4_34 rfl (lv_at hl 0 rfl) ?_
  refine lv_iload_n hx hb dJ6_bitCount_0f7a4_35 rfl (lv_at hl 0 rfl) ?_
  refine lv_bipush (v := 8) hx hb dJ6_bitCount_0f7a4_36 (by decide) ?_
  refine lv_iushr hx hb dJ6_bitCount_0f7a4_38 rfl ?_
  refine lv_iadd hx hb dJ6_bitCount_0f7a4_39 ?_
  refine k_int (y := (bc4 (bc3 (bc2 (bc1 x))))) rfl ?_
  refine lv_istore_n (lv' := [(0, .int (bc4 (bc3 (bc2 (bc1 x)))))]) hx hb dJ6_bitCount_0f7a4_40 rfl hl (by decide) rfl (fun ls hl => ?_)
  refine lv_iload_n hx hb dJ6_bitCount_0f7a4_41 rfl (lv_at hl 0 rfl) ?_
  refine lv_iload_n hx hb dJ6_bitCount_0f7a4_42 rfl (lv_at hl 0 rfl) ?_
  refine lv_bipush (v := 16) hx hb dJ6_bitCount_0f7a4_43 (by decide) ?_
  refine lv_iushr hx hb dJ6_bitCount_0f7a4_45 rfl ?_
  refine lv_iadd hx hb dJ6_bitCount_0f7a4_46 ?_
  refine k_int (y := (bc5 (bc4 (bc3 (bc2 (bc1 x)))))) rfl ?_
  refine lv_istore_n (lv' := [(0, .int (bc5 (bc4 (bc3 (bc2 (bc1 x))))))]) hx hb dJ6_bitCount_0f7a4_47 rfl hl (by decide) rfl (fun ls hl => ?_)
  refine lv_iload_n hx hb dJ6_bitCount_0f7a4_48 rfl (lv_at hl 0 rfl) ?_
  refine lv_bipush (v := 63) hx hb dJ6_bitCount_0f7a4_49 (by decide) ?_
  refine lv_iand hx hb dJ6_bitCount_0f7a4_51 ?_
  exact ret _ _ _ dJ6_bitCount_0f7a4_52 rfl
set_option maxHeartbeats 4000000 in
set_option maxRecDepth 100000 in
theorem c_X3_isEvery {l : Launch} {D : va_G} {cI cZ cL : ClassId} {g : Nat → Nat} {sl mi n : Nat} {X : Nat → Nat → Int32} {cy ss ds fs : Nat} (e0 : Int32) : KR l yX3_isEvery (.code yX3_isEvery cX3_isEvery 1 (some .boolean)) 1 D (tyz cI cZ cL) [.int e0] (cw g cI cZ sl mi n X cy ss ds fs) (fun r => r = if isEv e0 then 1 else 0) := by
  refine KR.ofz (own := RX3) (lvs := [(0, .int e0)]) (by decide) rfl (Nat.le_of_ble_eq_true rfl) rfl ?_
  intro p e s m args below meth c Q C hK hN hP hD ret ls hl
  obtain ⟨hx, hb, hml, hown, hts, hr9, hlk9⟩ := id C
  refine lv_iload_n hx hb dX3_isEvery_0 rfl (lv_at hl 0 rfl) ?_
  refine lv_iconst (v := 1) hx hb dX3_isEvery_1 (by decide) ?_
  refine lv_icmp_lt (tgt := 23) hx hb dX3_isEvery_2 (by decide) (fun c2 => ?_) (fun c2 => ?_)
  · skip
    refine lv_iconst (v := 0) hx hb dX3_isEvery_23 (by decide) ?_
    exact ret _ _ _ dX3_isEvery_24 (Or.inl rfl) (by first | exact ite_n (ev_lo c2) | exact ite_n (ev_hi c8) | exact ite_n (fun z => c16 ((bc_ev c2 c8).mpr z)))
  · skip
    refine lv_iload_n hx hb dX3_isEvery_5 rfl (lv_at hl 0 rfl) ?_
    refine lv_bipush (v := 64) hx hb dX3_isEvery_6 (by decide) ?_
    refine lv_icmp_gt (tgt := 23) hx hb dX3_isEvery_8 (by decide) (fun c8 => ?_) (fun c8 => ?_)
    · skip
      refine lv_iconst (v := 0) hx hb dX3_isEvery_23 (by decide) ?_
      exact ret _ _ _ dX3_isEvery_24 (Or.inl rfl) (by first | exact ite_n (ev_lo c2) | exact ite_n (ev_hi c8) | exact ite_n (fun z => c16 ((bc_ev c2 c8).mpr z)))
    · skip
      refine lv_iload_n hx hb dX3_isEvery_11 rfl (lv_at hl 0 rfl) ?_
      refine k_callS (D := D) C hK hN hP hD (c_J6_bitCount_0f7a4 e0) hl cf_yJ6_bitCount_0f7a4 wM_X3_29 rfl rfl (Nat.le_of_ble_eq_true rfl) ⟨by decide, by decide⟩ ⟨Nat.le_of_ble_eq_true rfl, Nat.le_of_ble_eq_true rfl⟩ dX3_isEvery_12 (fun r12 hr12 => ?_)
      have hr12 : r12 = (bc e0) := hr12
      subst hr12
      refine lv_iconst (v := 1) hx hb dX3_isEvery_15 (by decide) ?_
      refine lv_icmp_ne (tgt := 23) hx hb dX3_isEvery_16 (by decide) (fun c16 => ?_) (fun c16 => ?_)
      · skip
        refine lv_iconst (v := 0) hx hb dX3_isEvery_23 (by decide) ?_
        exact ret _ _ _ dX3_isEvery_24 (Or.inl rfl) (by first | exact ite_n (ev_lo c2) | exact ite_n (ev_hi c8) | exact ite_n (fun z => c16 ((bc_ev c2 c8).mpr z)))
      · skip
        refine lv_iconst (v := 1) hx hb dX3_isEvery_19 (by decide) ?_
        refine lv_goto (tgt := 24) hx hb dX3_isEvery_20 (by decide) ?_
        exact ret _ _ _ dX3_isEvery_24 (Or.inr rfl) (ite_p ((bc_ev c2 c8).mp c16))
set_option maxHeartbeats 4000000 in
set_option maxRecDepth 100000 in
theorem c_X3_isFull {l : Launch} {D : va_G} {cI cZ cL : ClassId} {g : Nat → Nat} {sl mi n : Nat} {X : Nat → Nat → Int32} {cy ss ds fs : Nat} (hs : ss ≤ 100) : KR l yX3_isFull (.code yX3_isFull cX3_isFull 1 (some .boolean)) 0 D (tyz cI cZ cL) [.ref (g 2)] (cw g cI cZ sl mi n X cy ss ds fs) (fun r => r = if 100 ≤ ss then 1 else 0) := by
  refine KR.ofz (own := RX3) (lvs := [(0, .ref (g 2))]) (by decide) rfl (Nat.le_of_ble_eq_true rfl) rfl ?_
  intro p e s m args below meth c Q C hK hN hP hD ret ls hl
  obtain ⟨hx, hb, hml, hown, hts, hr9, hlk9⟩ := id C
  refine lv_aload_n hx hb dX3_isFull_0 rfl (lv_at hl 0 rfl) ?_
  refine va_get (D := D) (ci := 5) (v := .int (nI ss)) (C := RX3) (T := TX3) (N := 6) hx hb hts inX3 hown hK hP 2 rfl rfl 5 (by decide) (hts _ wF_X3_25) (fun _ h9 => h9) rfl dX3_isFull_1 ?_
  refine lv_bipush (v := 100) hx hb dX3_isFull_4 (by decide) ?_
  refine k_icmp_lt (tgt := 13) hx hb ss 100 rfl rfl (by omega) (by omega) dX3_isFull_6 (by decide) (fun c6 => ?_) (fun c6 => ?_)
  · skip
    refine lv_iconst (v := 0) hx hb dX3_isFull_13 (by decide) ?_
    exact ret _ _ _ dX3_isFull_14 (Or.inl rfl) (ite_n (by omega))
  · skip
    refine lv_iconst (v := 1) hx hb dX3_isFull_9 (by decide) ?_
    refine lv_goto (tgt := 14) hx hb dX3_isFull_10 (by decide) ?_
    exact ret _ _ _ dX3_isFull_14 (Or.inr rfl) (ite_p c6)
set_option maxHeartbeats 4000000 in
set_option maxRecDepth 100000 in
theorem c_X3_isOn {l : Launch} {D : va_G} {cI cZ cL : ClassId} {g : Nat → Nat} {sl mi n : Nat} {X : Nat → Nat → Int32} {cy ss ds fs : Nat} (i : Nat) (hi : i < 100) (q ch : Int32) : KR l yX3_isOn (.code yX3_isOn cX3_isOn 4 (some .boolean)) 0 D (tyz cI cZ cL) [.ref (g 2), .int (nI i), .int q, .int ch] (cw g cI cZ sl mi n X cy ss ds fs) (fun r => r = if X 13 i = q ∧ X 14 i &&& ch ≠ 0 then 1 else 0) := by
  refine KR.ofz (own := RX3) (lvs := [(0, .ref (g 2)), (1, .int (nI i)), (2, .int q), (3, .int ch)]) (by decide) rfl (Nat.le_of_ble_eq_true rfl) rfl ?_
  intro p e s m args below meth c Q C hK hN hP hD ret ls hl
  obtain ⟨hx, hb, hml, hown, hts, hr9, hlk9⟩ := id C
  refine lv_aload_n hx hb dX3_isOn_0 rfl (lv_at hl 0 rfl) ?_
  refine va_get (D := D) (ci := 5) (v := .ref (g 23)) (C := RX3) (T := TX3) (N := 6) hx hb hts inX3 hown hK hP 2 rfl rfl 1 (by decide) (hts _ wF_X3_13) (fun _ h9 => h9) rfl dX3_isOn_1 ?_
  refine lv_iload_n hx hb dX3_isOn_4 rfl (lv_at hl 1 rfl) ?_
  refine k_iald (D := D) (f := X 13) hx hb hK hP 17 0 rfl rfl i rfl (by omega) (by omega) dX3_isOn_5 ?_
  refine lv_iload_n hx hb dX3_isOn_6 rfl (lv_at hl 2 rfl) ?_
  refine lv_icmp_ne (tgt := 25) hx hb dX3_isOn_7 (by decide) (fun c7 => ?_) (fun c7 => ?_)
  · skip
    refine lv_iconst (v := 0) hx hb dX3_isOn_25 (by decide) ?_
    exact ret _ _ _ dX3_isOn_26 (Or.inl rfl) (by first | exact ite_n (fun z => c7 z.1) | exact ite_n (fun z => z.2 c18))
  · skip
    refine lv_aload_n hx hb dX3_isOn_10 rfl (lv_at hl 0 rfl) ?_
    refine va_get (D := D) (ci := 5) (v := .ref (g 24)) (C := RX3) (T := TX3) (N := 6) hx hb hts inX3 hown hK hP 2 rfl rfl 2 (by decide) (hts _ wF_X3_16) (fun _ h9 => h9) rfl dX3_isOn_11 ?_
    refine lv_iload_n hx hb dX3_isOn_14 rfl (lv_at hl 1 rfl) ?_
    refine k_iald (D := D) (f := X 14) hx hb hK hP 18 0 rfl rfl i rfl (by omega) (by omega) dX3_isOn_15 ?_
    refine lv_iload_n hx hb dX3_isOn_16 rfl (lv_at hl 3 rfl) ?_
    refine lv_iand hx hb dX3_isOn_17 ?_
    refine lv_if_eq (tgt := 25) hx hb dX3_isOn_18 (by decide) (fun c18 => ?_) (fun c18 => ?_)
    · skip
      refine lv_iconst (v := 0) hx hb dX3_isOn_25 (by decide) ?_
      exact ret _ _ _ dX3_isOn_26 (Or.inl rfl) (by first | exact ite_n (fun z => c7 z.1) | exact ite_n (fun z => z.2 c18))
    · skip
      refine lv_iconst (v := 1) hx hb dX3_isOn_21 (by decide) ?_
      refine lv_goto (tgt := 26) hx hb dX3_isOn_22 (by decide) ?_
      exact ret _ _ _ dX3_isOn_26 (Or.inr rfl) (ite_p ⟨c7, c18⟩)
set_option maxHeartbeats 4000000 in
set_option maxRecDepth 100000 in
theorem c_X3_isIn {l : Launch} {D : va_G} {cI cZ cL : ClassId} {g : Nat → Nat} {sl mi n : Nat} {X : Nat → Nat → Int32} {cy ss ds fs : Nat} (i : Nat) (hi : i < 100) (cv : Int32) : KR l yX3_isIn (.code yX3_isIn cX3_isIn 3 (some .boolean)) 1 D (tyz cI cZ cL) [.ref (g 2), .int (nI i), .int cv] (cw g cI cZ sl mi n X cy ss ds fs) (fun r => r = if cv &&& (X 16 i - 1) = X 15 i then 1 else 0) := by
  refine KR.ofz (own := RX3) (lvs := [(0, .ref (g 2)), (1, .int (nI i)), (2, .int cv)]) (by decide) rfl (Nat.le_of_ble_eq_true rfl) rfl ?_
  intro p e s m args below meth c Q C hK hN hP hD ret ls hl
  obtain ⟨hx, hb, hml, hown, hts, hr9, hlk9⟩ := id C
  refine lv_iload_n hx hb dX3_isIn_0 rfl (lv_at hl 2 rfl) ?_
  refine lv_aload_n hx hb dX3_isIn_1 rfl (lv_at hl 0 rfl) ?_
  refine va_get (D := D) (ci := 5) (v := .ref (g 26)) (C := RX3) (T := TX3) (N := 6) hx hb hts inX3 hown hK hP 2 rfl rfl 4 (by decide) (hts _ wF_X3_22) (fun _ h9 => h9) rfl dX3_isIn_2 ?_
  refine lv_iload_n hx hb dX3_isIn_5 rfl (lv_at hl 1 rfl) ?_
  refine k_iald (D := D) (f := X 16) hx hb hK hP 20 0 rfl rfl i rfl (by omega) (by omega) dX3_isIn_6 ?_
  refine k_callS (D := D) C hK hN hP hD (c_X3_remainder cv (X 16 i)) hl cf_yX3_remainder wM_X3_45 rfl rfl (Nat.le_of_ble_eq_true rfl) ⟨by decide, by decide⟩ ⟨Nat.le_of_ble_eq_true rfl, Nat.le_of_ble_eq_true rfl⟩ dX3_isIn_7 (fun r7 hr7 => ?_)
  have hr7 : r7 = (cv &&& ((X 16 i) - 1)) := hr7
  subst hr7
  refine lv_aload_n hx hb dX3_isIn_10 rfl (lv_at hl 0 rfl) ?_
  refine va_get (D := D) (ci := 5) (v := .ref (g 25)) (C := RX3) (T := TX3) (N := 6) hx hb hts inX3 hown hK hP 2 rfl rfl 3 (by decide) (hts _ wF_X3_19) (fun _ h9 => h9) rfl dX3_isIn_11 ?_
  refine lv_iload_n hx hb dX3_isIn_14 rfl (lv_at hl 1 rfl) ?_
  refine k_iald (D := D) (f := X 15) hx hb hK hP 19 0 rfl rfl i rfl (by omega) (by omega) dX3_isIn_15 ?_
  refine lv_icmp_ne (tgt := 23) hx hb dX3_isIn_16 (by decide) (fun c16 => ?_) (fun c16 => ?_)
  · skip
    refine lv_iconst (v := 0) hx hb dX3_isIn_23 (by decide) ?_
    exact ret _ _ _ dX3_isIn_24 (Or.inl rfl) (ite_n c16)
  · skip
    refine lv_iconst (v := 1) hx hb dX3_isIn_19 (by decide) ?_
    refine lv_goto (tgt := 24) hx hb dX3_isIn_20 (by decide) ?_
    exact ret _ _ _ dX3_isIn_24 (Or.inr rfl) (ite_p c16)
set_option maxHeartbeats 4000000 in
set_option maxRecDepth 100000 in
theorem c_X3_clashes {l : Launch} {D : va_G} {cI cZ cL : ClassId} {g : Nat → Nat} {sl mi n : Nat} {X : Nat → Nat → Int32} {cy ss ds fs : Nat} (hs : ss ≤ 100) (q ch ba ev : Int32) : KR l yX3_clashes (.code yX3_clashes cX3_clashes 7 (some .boolean)) 1 D (tyz cI cZ cL) [.ref (g 2), .int q, .int ch, .int ba, .int ev] (cw g cI cZ sl mi n X cy ss ds fs) (fun r => (r = 1 ∧ ∃ i, i < ss ∧ Cl (X 13) (X 14) (X 15) (X 16) q ch ba ev i) ∨ (r = 0 ∧ ∀ i, i < ss → ¬ Cl (X 13) (X 14) (X 15) (X 16) q ch ba ev i)) := by
  refine KR.ofz (own := RX3) (lvs := [(0, .ref (g 2)), (1, .int q), (2, .int ch), (3, .int ba), (4, .int ev)]) (by decide) rfl (Nat.le_of_ble_eq_true rfl) rfl ?_
  intro p e s m args below meth c Q C hK hN hP hD ret ls hl
  obtain ⟨hx, hb, hml, hown, hts, hr9, hlk9⟩ := id C
  refine lv_iconst (v := 0) hx hb dX3_clashes_0 (by decide) ?_
  refine lv_istore (lv' := [(5, .int 0), (0, .ref (g 2)), (1, .int q), (2, .int ch), (3, .int ba), (4, .int ev)]) hx hb dX3_clashes_1 hl (by decide) rfl (fun ls hl => ?_)
  have L3 : ∀ (kf : Nat) (i : Nat) (ls : Array Slot), (ss - i < kf) → (i ≤ ss) → (∀ j, j < i → ¬ Cl (X 13) (X 14) (X 15) (X 16) q ch ba ev j) → (lv_has ls 7 [(0, .ref (g 2)), (1, .int q), (2, .int ch), (3, .int ba), (4, .int ev), (5, .int (nI i))]) → W p l e (rmK 1) s m args below meth c s.heap [] 0 0 Q (F0 m 3 ls []) := by
    intro kf
    induction kf with
    | zero =>
      intro i ls hm
      exact absurd hm (Nat.not_lt_zero _)
    | succ kf ih3 =>
      intro i ls hm h2 h3 hl
      refine lv_iload hx hb dX3_clashes_3 (lv_at hl 5 rfl) ?_
      refine lv_aload_n hx hb dX3_clashes_5 rfl (lv_at hl 0 rfl) ?_
      refine va_get (D := D) (ci := 5) (v := .int (nI ss)) (C := RX3) (T := TX3) (N := 6) hx hb hts inX3 hown hK hP 2 rfl rfl 5 (by decide) (hts _ wF_X3_25) (fun _ h9 => h9) rfl dX3_clashes_6 ?_
      refine k_icmp_ge (tgt := 66) hx hb i ss rfl rfl (by omega) (by omega) dX3_clashes_9 (by decide) (fun c9 => ?_) (fun c9 => ?_)
      · skip
        refine lv_iconst (v := 0) hx hb dX3_clashes_66 (by decide) ?_
        exact ret _ _ _ dX3_clashes_67 (Or.inl rfl) (Or.inr ⟨rfl, fun j b => h3 j (by omega)⟩)
      · skip
        refine lv_iload hx hb dX3_clashes_12 (lv_at hl 4 rfl) ?_
        refine lv_aload_n hx hb dX3_clashes_14 rfl (lv_at hl 0 rfl) ?_
        refine va_get (D := D) (ci := 5) (v := .ref (g 26)) (C := RX3) (T := TX3) (N := 6) hx hb hts inX3 hown hK hP 2 rfl rfl 4 (by decide) (hts _ wF_X3_22) (fun _ h9 => h9) rfl dX3_clashes_15 ?_
        refine lv_iload hx hb dX3_clashes_18 (lv_at hl 5 rfl) ?_
        refine k_iald (D := D) (f := X 16) hx hb hK hP 20 0 rfl rfl i rfl (by omega) (by omega) dX3_clashes_20 ?_
        refine va_mmin hx hb (by rw [hml]; exact hl.1.symm) hown (hts _ wM_X3_35) (hts _ wT_Lib_Math_min_name) (hts _ wI_Math) (hts _ wC_Lib_Math_min) (by decide) (Nat.le_of_ble_eq_true rfl) (Nat.zero_le _) (Nat.zero_le _) dX3_clashes_21 ?_
        refine lv_istore (lv' := [(6, .int (if (X 16 i) < ev then (X 16 i) else ev)), (0, .ref (g 2)), (1, .int q), (2, .int ch), (3, .int ba), (4, .int ev), (5, .int (nI i))]) hx hb dX3_clashes_24 hl (by decide) rfl (fun ls hl => ?_)
        refine lv_aload_n hx hb dX3_clashes_26 rfl (lv_at hl 1 rfl) ?_
        refine lv_iload hx hb dX3_clashes_27 (lv_at hl 6 rfl) ?_
        refine lv_iload_n hx hb dX3_clashes_29 rfl (lv_at hl 2 rfl) ?_
        refine lv_iload_n hx hb dX3_clashes_30 rfl (lv_at hl 3 rfl) ?_
        refine k_callR (D := D) C hK hN hP hD (c_X3_isOn i (by omega) q ch) hl cf_yX3_isOn wM_X3_41 2 5 rfl rfl rfl rfl (Nat.le_of_ble_eq_true rfl) ⟨by decide, by decide⟩ ⟨Nat.le_of_ble_eq_true rfl, Nat.le_of_ble_eq_true rfl⟩ dX3_clashes_31 (fun r31 hr31 => ?_)
        have hr31 : r31 = (if X 13 i = q ∧ X 14 i &&& ch ≠ 0 then 1 else 0) := hr31
        subst hr31
        refine k_ifeq_P (P := (X 13 i = q ∧ X 14 i &&& ch ≠ 0)) (tgt := 60) hx hb rfl dX3_clashes_34 (by decide) (fun c34 => ?_) (fun c34 => ?_)
        · skip
          refine k_iinc (k := 6) (lv' := [(5, .int (nI (i + 1))), (6, .int (if (X 16 i) < ev then (X 16 i) else ev)), (0, .ref (g 2)), (1, .int q), (2, .int ch), (3, .int ba), (4, .int ev)]) hx hb i rfl dX3_clashes_60 hl rfl (by decide) rfl (fun ls hl => ?_)
          refine lv_goto (tgt := 3) hx hb dX3_clashes_63 (by decide) ?_
          exact ih3 (i + 1) _ (by omega) (by omega) (fun j b => if e : j = i then (by subst e; first | exact fun z => c34 z.1 | exact fun z => c55 z.2) else h3 j (by omega)) (lv_sub hl [2, 3, 4, 5, 6, 0] rfl)
        · skip
          refine lv_iload_n hx hb dX3_clashes_37 rfl (lv_at hl 4 rfl) ?_
          refine lv_iload hx hb dX3_clashes_38 (lv_at hl 0 rfl) ?_
          refine k_callS (D := D) C hK hN hP hD (c_X3_remainder ba (if (X 16 i) < ev then (X 16 i) else ev)) hl cf_yX3_remainder wM_X3_45 rfl rfl (Nat.le_of_ble_eq_true rfl) ⟨by decide, by decide⟩ ⟨Nat.le_of_ble_eq_true rfl, Nat.le_of_ble_eq_true rfl⟩ dX3_clashes_40 (fun r40 hr40 => ?_)
          have hr40 : r40 = (ba &&& ((if (X 16 i) < ev then (X 16 i) else ev) - 1)) := hr40
          subst hr40
          refine lv_aload_n hx hb dX3_clashes_43 rfl (lv_at hl 1 rfl) ?_
          refine va_get (D := D) (ci := 5) (v := .ref (g 25)) (C := RX3) (T := TX3) (N := 6) hx hb hts inX3 hown hK hP 2 rfl rfl 3 (by decide) (hts _ wF_X3_19) (fun _ h9 => h9) rfl dX3_clashes_44 ?_
          refine lv_iload hx hb dX3_clashes_47 (lv_at hl 6 rfl) ?_
          refine k_iald (D := D) (f := X 15) hx hb hK hP 19 0 rfl rfl i rfl (by omega) (by omega) dX3_clashes_49 ?_
          refine lv_iload hx hb dX3_clashes_50 (lv_at hl 0 rfl) ?_
          refine k_callS (D := D) C hK hN hP hD (c_X3_remainder (X 15 i) (if (X 16 i) < ev then (X 16 i) else ev)) hl cf_yX3_remainder wM_X3_45 rfl rfl (Nat.le_of_ble_eq_true rfl) ⟨by decide, by decide⟩ ⟨Nat.le_of_ble_eq_true rfl, Nat.le_of_ble_eq_true rfl⟩ dX3_clashes_52 (fun r52 hr52 => ?_)
          have hr52 : r52 = ((X 15 i) &&& ((if (X 16 i) < ev then (X 16 i) else ev) - 1)) := hr52
          subst hr52
          refine lv_icmp_ne (tgt := 60) hx hb dX3_clashes_55 (by decide) (fun c55 => ?_) (fun c55 => ?_)
          · skip
            refine k_iinc (k := 6) (lv' := [(5, .int (nI (i + 1))), (6, .int (if (X 16 i) < ev then (X 16 i) else ev)), (0, .ref (g 2)), (1, .int q), (2, .int ch), (3, .int ba), (4, .int ev)]) hx hb i rfl dX3_clashes_60 hl rfl (by decide) rfl (fun ls hl => ?_)
            refine lv_goto (tgt := 3) hx hb dX3_clashes_63 (by decide) ?_
            exact ih3 (i + 1) _ (by omega) (by omega) (fun j b => if e : j = i then (by subst e; first | exact fun z => c34 z.1 | exact fun z => c55 z.2) else h3 j (by omega)) (lv_sub hl [2, 3, 4, 5, 6, 0] rfl)
          · skip
            refine lv_iconst (v := 1) hx hb dX3_clashes_58 (by decide) ?_
            exact ret _ _ _ dX3_clashes_59 (Or.inr rfl) (Or.inl ⟨rfl, i, c9, c34, c55⟩)
  exact L3 ((ss - 0) + 1) 0 _ (Nat.lt_succ_self _) (Nat.zero_le _) (fun j b => absurd b (by omega)) (lv_sub hl [1, 2, 3, 4, 5, 0] rfl)
set_option maxHeartbeats 4000000 in
set_option maxRecDepth 100000 in
theorem c_X3_add {l : Launch} {D : va_G} {cI cZ cL : ClassId} {g : Nat → Nat} {sl mi n : Nat} {X : Nat → Nat → Int32} {cy ss ds fs : Nat} (hs : ss < 100) (v1 v2 v3 v4 v5 : Int32) : KI l yX3_add (.code yX3_add cX3_add 6 (some .int)) 0 D (tyz cI cZ cL) [.ref (g 2), .int v1, .int v2, .int v3, .int v4, .int v5] (cw g cI cZ sl mi n X cy ss ds fs) (fun r u => r = nI (ss + 1) ∧ u = sX (sX (sX (sX (sX X 12 ss v1) 13 ss v2) 14 ss v3) 15 ss v4) 16 ss v5) (fun u : Nat → Nat → Int32 => cw g cI cZ sl mi n u cy (ss + 1) ds fs) := by
  refine KI.of (own := RX3) (lvs := [(0, .ref (g 2)), (1, .int v1), (2, .int v2), (3, .int v3), (4, .int v4), (5, .int v5)]) (by decide) rfl (Nat.le_of_ble_eq_true rfl) rfl ?_
  intro p e s m args below meth c Q C hK hN A hA hP hD hS ret ls hl
  obtain ⟨hx, hb, hml, hown, hts, hr9, hlk9⟩ := id C
  refine lv_aload_n hx hb dX3_add_0 rfl (lv_at hl 0 rfl) ?_
  refine va_get (D := D) (ci := 5) (v := .ref (g 22)) (C := RX3) (T := TX3) (N := 6) hx hb hts inX3 hown hK hP 2 rfl rfl 0 (by decide) (hts _ wF_X3_9) (fun _ h9 => h9) rfl dX3_add_1 ?_
  refine lv_aload_n hx hb dX3_add_4 rfl (lv_at hl 0 rfl) ?_
  refine va_get (D := D) (ci := 5) (v := .int (nI ss)) (C := RX3) (T := TX3) (N := 6) hx hb hts inX3 hown hK hP 2 rfl rfl 5 (by decide) (hts _ wF_X3_25) (fun _ h9 => h9) rfl dX3_add_5 ?_
  refine lv_iload_n hx hb dX3_add_8 rfl (lv_at hl 1 rfl) ?_
  refine k_iast (D := D) (f := X 12) (ws' := cw g cI cZ sl mi n (sX X 12 ss v1) cy ss ds fs) hx hb hK hP hD hS 16 0 rfl rfl ss rfl (by omega) (by omega) rfl dX3_add_9 (fun H locs hP hD hS => ?_)
  refine lv_aload_n hx hb dX3_add_10 rfl (lv_at hl 0 rfl) ?_
  refine va_get (D := D) (ci := 5) (v := .ref (g 23)) (C := RX3) (T := TX3) (N := 6) hx hb hts inX3 hown hK hP 2 rfl rfl 1 (by decide) (hts _ wF_X3_13) (fun _ h9 => h9) rfl dX3_add_11 ?_
  refine lv_aload_n hx hb dX3_add_14 rfl (lv_at hl 0 rfl) ?_
  refine va_get (D := D) (ci := 5) (v := .int (nI ss)) (C := RX3) (T := TX3) (N := 6) hx hb hts inX3 hown hK hP 2 rfl rfl 5 (by decide) (hts _ wF_X3_25) (fun _ h9 => h9) rfl dX3_add_15 ?_
  refine lv_iload_n hx hb dX3_add_18 rfl (lv_at hl 2 rfl) ?_
  refine k_iast (D := D) (f := X 13) (ws' := cw g cI cZ sl mi n (sX (sX X 12 ss v1) 13 ss v2) cy ss ds fs) hx hb hK hP hD hS 17 0 rfl rfl ss rfl (by omega) (by omega) rfl dX3_add_19 (fun H locs hP hD hS => ?_)
  refine lv_aload_n hx hb dX3_add_20 rfl (lv_at hl 0 rfl) ?_
  refine va_get (D := D) (ci := 5) (v := .ref (g 24)) (C := RX3) (T := TX3) (N := 6) hx hb hts inX3 hown hK hP 2 rfl rfl 2 (by decide) (hts _ wF_X3_16) (fun _ h9 => h9) rfl dX3_add_21 ?_
  refine lv_aload_n hx hb dX3_add_24 rfl (lv_at hl 0 rfl) ?_
  refine va_get (D := D) (ci := 5) (v := .int (nI ss)) (C := RX3) (T := TX3) (N := 6) hx hb hts inX3 hown hK hP 2 rfl rfl 5 (by decide) (hts _ wF_X3_25) (fun _ h9 => h9) rfl dX3_add_25 ?_
  refine lv_iload_n hx hb dX3_add_28 rfl (lv_at hl 3 rfl) ?_
  refine k_iast (D := D) (f := X 14) (ws' := cw g cI cZ sl mi n (sX (sX (sX X 12 ss v1) 13 ss v2) 14 ss v3) cy ss ds fs) hx hb hK hP hD hS 18 0 rfl rfl ss rfl (by omega) (by omega) rfl dX3_add_29 (fun H locs hP hD hS => ?_)
  refine lv_aload_n hx hb dX3_add_30 rfl (lv_at hl 0 rfl) ?_
  refine va_get (D := D) (ci := 5) (v := .ref (g 25)) (C := RX3) (T := TX3) (N := 6) hx hb hts inX3 hown hK hP 2 rfl rfl 3 (by decide) (hts _ wF_X3_19) (fun _ h9 => h9) rfl dX3_add_31 ?_
  refine lv_aload_n hx hb dX3_add_34 rfl (lv_at hl 0 rfl) ?_
  refine va_get (D := D) (ci := 5) (v := .int (nI ss)) (C := RX3) (T := TX3) (N := 6) hx hb hts inX3 hown hK hP 2 rfl rfl 5 (by decide) (hts _ wF_X3_25) (fun _ h9 => h9) rfl dX3_add_35 ?_
  refine lv_iload hx hb dX3_add_38 (lv_at hl 4 rfl) ?_
  refine k_iast (D := D) (f := X 15) (ws' := cw g cI cZ sl mi n (sX (sX (sX (sX X 12 ss v1) 13 ss v2) 14 ss v3) 15 ss v4) cy ss ds fs) hx hb hK hP hD hS 19 0 rfl rfl ss rfl (by omega) (by omega) rfl dX3_add_40 (fun H locs hP hD hS => ?_)
  refine lv_aload_n hx hb dX3_add_41 rfl (lv_at hl 0 rfl) ?_
  refine va_get (D := D) (ci := 5) (v := .ref (g 26)) (C := RX3) (T := TX3) (N := 6) hx hb hts inX3 hown hK hP 2 rfl rfl 4 (by decide) (hts _ wF_X3_22) (fun _ h9 => h9) rfl dX3_add_42 ?_
  refine lv_aload_n hx hb dX3_add_45 rfl (lv_at hl 0 rfl) ?_
  refine va_get (D := D) (ci := 5) (v := .int (nI ss)) (C := RX3) (T := TX3) (N := 6) hx hb hts inX3 hown hK hP 2 rfl rfl 5 (by decide) (hts _ wF_X3_25) (fun _ h9 => h9) rfl dX3_add_46 ?_
  refine lv_iload hx hb dX3_add_49 (lv_at hl 5 rfl) ?_
  refine k_iast (D := D) (f := X 16) (ws' := cw g cI cZ sl mi n (sX (sX (sX (sX (sX X 12 ss v1) 13 ss v2) 14 ss v3) 15 ss v4) 16 ss v5) cy ss ds fs) hx hb hK hP hD hS 20 0 rfl rfl ss rfl (by omega) (by omega) rfl dX3_add_51 (fun H locs hP hD hS => ?_)
  refine lv_aload_n hx hb dX3_add_52 rfl (lv_at hl 0 rfl) ?_
  refine lv_dup hx hb dX3_add_53 rfl ?_
  refine va_get (D := D) (ci := 5) (v := .int (nI ss)) (C := RX3) (T := TX3) (N := 6) hx hb hts inX3 hown hK hP 2 rfl rfl 5 (by decide) (hts _ wF_X3_25) (fun _ h9 => h9) rfl dX3_add_54 ?_
  refine lv_iconst (v := 1) hx hb dX3_add_57 (by decide) ?_
  refine k_iadd hx hb ss 1 rfl rfl dX3_add_58 ?_
  refine k_put (D := D) (ci := 5) (v := .int (nI (ss + 1))) (ty := .int) (C := RX3) (T := TX3) (N := 6) (ws' := cw g cI cZ sl mi n (sX (sX (sX (sX (sX X 12 ss v1) 13 ss v2) 14 ss v3) 15 ss v4) 16 ss v5) cy (ss + 1) ds fs) hx hb hts inX3 tyX3 tyX3_ok nmX3 hown hK hP hD hS 2 rfl rfl 5 (by decide) (hts _ wF_X3_25) (fun _ h9 => h9) rfl (by decide +kernel) rfl rfl (Nat.le_of_ble_eq_true rfl) rfl dX3_add_59 (fun H locs hP hD hS => ?_)
  refine lv_aload_n hx hb dX3_add_62 rfl (lv_at hl 0 rfl) ?_
  refine va_get (D := D) (ci := 5) (v := .int (nI (ss + 1))) (C := RX3) (T := TX3) (N := 6) hx hb hts inX3 hown hK hP 2 rfl rfl 5 (by decide) (hts _ wF_X3_25) (fun _ h9 => h9) rfl dX3_add_63 ?_
  exact ret _ (sX (sX (sX (sX (sX X 12 ss v1) 13 ss v2) 14 ss v3) 15 ss v4) 16 ss v5) _ _ _ _ dX3_add_66 hP hD hS ⟨rfl, rfl⟩
set_option maxHeartbeats 4000000 in
set_option maxRecDepth 100000 in
theorem c_X3_nodeAt {l : Launch} {D : va_G} {cI cZ cL : ClassId} {g : Nat → Nat} {sl mi n : Nat} {X : Nat → Nat → Int32} {cy ss ds fs : Nat} (hs : ss ≤ 100) (q ch cv : Int32) : KR l yX3_nodeAt (.code yX3_nodeAt cX3_nodeAt 5 (some .int)) 2 D (tyz cI cZ cL) [.ref (g 2), .int q, .int ch, .int cv] (cw g cI cZ sl mi n X cy ss ds fs) (fun r => (∃ i, i < ss ∧ ((X 13 i = q ∧ X 14 i &&& ch ≠ 0) ∧ cv &&& (X 16 i - 1) = X 15 i) ∧ r = X 12 i) ∨ (r = 0 ∧ ∀ i, i < ss → ¬ ((X 13 i = q ∧ X 14 i &&& ch ≠ 0) ∧ cv &&& (X 16 i - 1) = X 15 i))) := by
  refine KR.of (own := RX3) (lvs := [(0, .ref (g 2)), (1, .int q), (2, .int ch), (3, .int cv)]) (by decide) rfl (Nat.le_of_ble_eq_true rfl) rfl ?_
  intro p e s m args below meth c Q C hK hN hP hD ret ls hl
  obtain ⟨hx, hb, hml, hown, hts, hr9, hlk9⟩ := id C
  refine lv_iconst (v := 0) hx hb dX3_nodeAt_0 (by decide) ?_
  refine lv_istore (lv' := [(4, .int 0), (0, .ref (g 2)), (1, .int q), (2, .int ch), (3, .int cv)]) hx hb dX3_nodeAt_1 hl (by decide) rfl (fun ls hl => ?_)
  have L3 : ∀ (kf : Nat) (i : Nat) (ls : Array Slot), (ss - i < kf) → (i ≤ ss) → (∀ j, j < i → ¬ ((X 13 j = q ∧ X 14 j &&& ch ≠ 0) ∧ cv &&& (X 16 j - 1) = X 15 j)) → (lv_has ls 5 [(0, .ref (g 2)), (1, .int q), (2, .int ch), (3, .int cv), (4, .int (nI i))]) → W p l e (rmK 2) s m args below meth c s.heap [] 0 0 Q (F0 m 3 ls []) := by
    intro kf
    induction kf with
    | zero =>
      intro i ls hm
      exact absurd hm (Nat.not_lt_zero _)
    | succ kf ih3 =>
      intro i ls hm h2 h3 hl
      refine lv_iload hx hb dX3_nodeAt_3 (lv_at hl 4 rfl) ?_
      refine lv_aload_n hx hb dX3_nodeAt_5 rfl (lv_at hl 0 rfl) ?_
      refine va_get (D := D) (ci := 5) (v := .int (nI ss)) (C := RX3) (T := TX3) (N := 6) hx hb hts inX3 hown hK hP 2 rfl rfl 5 (by decide) (hts _ wF_X3_25) (fun _ h9 => h9) rfl dX3_nodeAt_6 ?_
      refine k_icmp_ge (tgt := 47) hx hb i ss rfl rfl (by omega) (by omega) dX3_nodeAt_9 (by decide) (fun c9 => ?_) (fun c9 => ?_)
      · skip
        refine lv_iconst (v := 0) hx hb dX3_nodeAt_47 (by decide) ?_
        exact ret _ _ _ dX3_nodeAt_48 (Or.inr ⟨rfl, fun j b => h3 j (by omega)⟩)
      · skip
        refine lv_aload_n hx hb dX3_nodeAt_12 rfl (lv_at hl 0 rfl) ?_
        refine lv_iload hx hb dX3_nodeAt_13 (lv_at hl 4 rfl) ?_
        refine lv_iload_n hx hb dX3_nodeAt_15 rfl (lv_at hl 1 rfl) ?_
        refine lv_iload_n hx hb dX3_nodeAt_16 rfl (lv_at hl 2 rfl) ?_
        refine k_callR (D := D) C hK hN hP hD (c_X3_isOn i (by omega) q ch) hl cf_yX3_isOn wM_X3_41 2 5 rfl rfl rfl rfl (Nat.le_of_ble_eq_true rfl) ⟨by decide, by decide⟩ ⟨Nat.le_of_ble_eq_true rfl, Nat.le_of_ble_eq_true rfl⟩ dX3_nodeAt_17 (fun r17 hr17 => ?_)
        have hr17 : r17 = (if X 13 i = q ∧ X 14 i &&& ch ≠ 0 then 1 else 0) := hr17
        subst hr17
        refine k_ifeq_P (P := (X 13 i = q ∧ X 14 i &&& ch ≠ 0)) (tgt := 41) hx hb rfl dX3_nodeAt_20 (by decide) (fun c20 => ?_) (fun c20 => ?_)
        · skip
          refine k_iinc (k := 4) (lv' := [(4, .int (nI (i + 1))), (0, .ref (g 2)), (1, .int q), (2, .int ch), (3, .int cv)]) hx hb i rfl dX3_nodeAt_41 hl rfl (by decide) rfl (fun ls hl => ?_)
          refine lv_goto (tgt := 3) hx hb dX3_nodeAt_44 (by decide) ?_
          exact ih3 (i + 1) _ (by omega) (by omega) (fun j b => if e : j = i then (by subst e; first | exact fun z => c20 z.1 | exact fun z => c30 z.2) else h3 j (by omega)) (lv_sub hl [1, 2, 3, 4, 0] rfl)
        · skip
          refine lv_aload_n hx hb dX3_nodeAt_23 rfl (lv_at hl 0 rfl) ?_
          refine lv_iload hx hb dX3_nodeAt_24 (lv_at hl 4 rfl) ?_
          refine lv_iload_n hx hb dX3_nodeAt_26 rfl (lv_at hl 3 rfl) ?_
          refine k_callR (D := D) C hK hN hP hD (c_X3_isIn i (by omega) cv) hl cf_yX3_isIn wM_X3_48 2 5 rfl rfl rfl rfl (Nat.le_of_ble_eq_true rfl) ⟨by decide, by decide⟩ ⟨Nat.le_of_ble_eq_true rfl, Nat.le_of_ble_eq_true rfl⟩ dX3_nodeAt_27 (fun r27 hr27 => ?_)
          have hr27 : r27 = (if cv &&& (X 16 i - 1) = X 15 i then 1 else 0) := hr27
          subst hr27
          refine k_ifeq_P (P := (cv &&& (X 16 i - 1) = X 15 i)) (tgt := 41) hx hb rfl dX3_nodeAt_30 (by decide) (fun c30 => ?_) (fun c30 => ?_)
          · skip
            refine k_iinc (k := 4) (lv' := [(4, .int (nI (i + 1))), (0, .ref (g 2)), (1, .int q), (2, .int ch), (3, .int cv)]) hx hb i rfl dX3_nodeAt_41 hl rfl (by decide) rfl (fun ls hl => ?_)
            refine lv_goto (tgt := 3) hx hb dX3_nodeAt_44 (by decide) ?_
            exact ih3 (i + 1) _ (by omega) (by omega) (fun j b => if e : j = i then (by subst e; first | exact fun z => c20 z.1 | exact fun z => c30 z.2) else h3 j (by omega)) (lv_sub hl [1, 2, 3, 4, 0] rfl)
          · skip
            refine lv_aload_n hx hb dX3_nodeAt_33 rfl (lv_at hl 0 rfl) ?_
            refine va_get (D := D) (ci := 5) (v := .ref (g 22)) (C := RX3) (T := TX3) (N := 6) hx hb hts inX3 hown hK hP 2 rfl rfl 0 (by decide) (hts _ wF_X3_9) (fun _ h9 => h9) rfl dX3_nodeAt_34 ?_
            refine lv_iload hx hb dX3_nodeAt_37 (lv_at hl 4 rfl) ?_
            refine k_iald (D := D) (f := X 12) hx hb hK hP 16 0 rfl rfl i rfl (by omega) (by omega) dX3_nodeAt_39 ?_
            exact ret _ _ _ dX3_nodeAt_40 (Or.inl ⟨i, c9, ⟨c20, c30⟩, rfl⟩)
  exact L3 ((ss - 0) + 1) 0 _ (Nat.lt_succ_self _) (Nat.zero_le _) (fun j b => absurd b (by omega)) (lv_sub hl [1, 2, 3, 4, 0] rfl)
set_option maxHeartbeats 4000000 in
set_option maxRecDepth 100000 in
theorem c_X1_has {l : Launch} {D : va_G} {cI cZ cL : ClassId} {g : Nat → Nat} {sl mi n : Nat} {X : Nat → Nat → Int32} {cy ss ds fs : Nat} (hsl : sl ≤ 60) (ch : Int32) (q : Nat) (hq : q < sl) : KR l yX1_has (.code yX1_has cX1_has 3 (some .boolean)) 0 D (tyz cI cZ cL) [.ref (g 4), .int ch, .int (nI q)] (cw g cI cZ sl mi n X cy ss ds fs) (fun r => r = if X 20 q &&& ch ≠ 0 then 1 else 0) := by
  refine KR.ofz (own := RX1) (lvs := [(0, .ref (g 4)), (1, .int ch), (2, .int (nI q))]) (by decide) rfl (Nat.le_of_ble_eq_true rfl) rfl ?_
  intro p e s m args below meth c Q C hK hN hP hD ret ls hl
  obtain ⟨hx, hb, hml, hown, hts, hr9, hlk9⟩ := id C
  refine lv_aload_n hx hb dX1_has_0 rfl (lv_at hl 0 rfl) ?_
  refine va_get (D := D) (ci := 3) (v := .ref (g 30)) (C := RX1) (T := TX1) (N := 2) hx hb hts inX1 hown hK hP 4 rfl rfl 0 (by decide) (hts _ wF_X1_7) (fun _ h9 => h9) rfl dX1_has_1 ?_
  refine lv_iload_n hx hb dX1_has_4 rfl (lv_at hl 2 rfl) ?_
  refine k_iald (D := D) (f := X 20) hx hb hK hP 24 0 rfl rfl q rfl (by omega) (by omega) dX1_has_5 ?_
  refine lv_iload_n hx hb dX1_has_6 rfl (lv_at hl 1 rfl) ?_
  refine lv_iand hx hb dX1_has_7 ?_
  refine lv_if_eq (tgt := 15) hx hb dX1_has_8 (by decide) (fun c8 => ?_) (fun c8 => ?_)
  · skip
    refine lv_iconst (v := 0) hx hb dX1_has_15 (by decide) ?_
    exact ret _ _ _ dX1_has_16 (Or.inl rfl) (ite_n (fun z => z c8))
  · skip
    refine lv_iconst (v := 1) hx hb dX1_has_11 (by decide) ?_
    refine lv_goto (tgt := 16) hx hb dX1_has_12 (by decide) ?_
    exact ret _ _ _ dX1_has_16 (Or.inr rfl) (ite_p c8)
set_option maxHeartbeats 4000000 in
set_option maxRecDepth 100000 in
theorem c_X1_add {l : Launch} {D : va_G} {cI cZ cL : ClassId} {g : Nat → Nat} {sl mi n : Nat} {X : Nat → Nat → Int32} {cy ss ds fs : Nat} (hsl : sl ≤ 60) (ch : Int32) (q : Nat) (hq : q < sl) : KI l yX1_add (.code yX1_add cX1_add 3 (some .int)) 0 D (tyz cI cZ cL) [.ref (g 4), .int ch, .int (nI q)] (cw g cI cZ sl mi n X cy ss ds fs) (fun r u => r = nI (fs + 1) ∧ u = sX X 20 q (X 20 q ||| ch)) (fun u : Nat → Nat → Int32 => cw g cI cZ sl mi n u cy ss ds (fs + 1)) := by
  refine KI.of (own := RX1) (lvs := [(0, .ref (g 4)), (1, .int ch), (2, .int (nI q))]) (by decide) rfl (Nat.le_of_ble_eq_true rfl) rfl ?_
  intro p e s m args below meth c Q C hK hN A hA hP hD hS ret ls hl
  obtain ⟨hx, hb, hml, hown, hts, hr9, hlk9⟩ := id C
  refine lv_aload_n hx hb dX1_add_0 rfl (lv_at hl 0 rfl) ?_
  refine va_get (D := D) (ci := 3) (v := .ref (g 30)) (C := RX1) (T := TX1) (N := 2) hx hb hts inX1 hown hK hP 4 rfl rfl 0 (by decide) (hts _ wF_X1_7) (fun _ h9 => h9) rfl dX1_add_1 ?_
  refine lv_iload_n hx hb dX1_add_4 rfl (lv_at hl 2 rfl) ?_
  refine lv_dup2_11 hx hb dX1_add_5 rfl rfl ?_
  refine k_iald (D := D) (f := X 20) hx hb hK hP 24 0 rfl rfl q rfl (by omega) (by omega) dX1_add_6 ?_
  refine lv_iload_n hx hb dX1_add_7 rfl (lv_at hl 1 rfl) ?_
  refine lv_ior hx hb dX1_add_8 ?_
  refine k_iast (D := D) (f := X 20) (ws' := cw g cI cZ sl mi n (sX X 20 q ((X 20 q) ||| ch)) cy ss ds fs) hx hb hK hP hD hS 24 0 rfl rfl q rfl (by omega) (by omega) rfl dX1_add_9 (fun H locs hP hD hS => ?_)
  refine lv_aload_n hx hb dX1_add_10 rfl (lv_at hl 0 rfl) ?_
  refine lv_dup hx hb dX1_add_11 rfl ?_
  refine va_get (D := D) (ci := 3) (v := .int (nI fs)) (C := RX1) (T := TX1) (N := 2) hx hb hts inX1 hown hK hP 4 rfl rfl 1 (by decide) (hts _ wF_X1_13) (fun _ h9 => h9) rfl dX1_add_12 ?_
  refine lv_iconst (v := 1) hx hb dX1_add_15 (by decide) ?_
  refine k_iadd hx hb fs 1 rfl rfl dX1_add_16 ?_
  refine k_put (D := D) (ci := 3) (v := .int (nI (fs + 1))) (ty := .int) (C := RX1) (T := TX1) (N := 2) (ws' := cw g cI cZ sl mi n (sX X 20 q ((X 20 q) ||| ch)) cy ss ds (fs + 1)) hx hb hts inX1 tyX1 tyX1_ok nmX1 hown hK hP hD hS 4 rfl rfl 1 (by decide) (hts _ wF_X1_13) (fun _ h9 => h9) rfl (by decide +kernel) rfl rfl (Nat.le_of_ble_eq_true rfl) rfl dX1_add_17 (fun H locs hP hD hS => ?_)
  refine lv_aload_n hx hb dX1_add_20 rfl (lv_at hl 0 rfl) ?_
  refine va_get (D := D) (ci := 3) (v := .int (nI (fs + 1))) (C := RX1) (T := TX1) (N := 2) hx hb hts inX1 hown hK hP 4 rfl rfl 1 (by decide) (hts _ wF_X1_13) (fun _ h9 => h9) rfl dX1_add_21 ?_
  exact ret _ (sX X 20 q ((X 20 q) ||| ch)) _ _ _ _ dX1_add_24 hP hD hS ⟨rfl, rfl⟩
set_option maxHeartbeats 4000000 in
set_option maxRecDepth 100000 in
theorem c_X1_leavesAny {l : Launch} {D : va_G} {cI cZ cL : ClassId} {g : Nat → Nat} {sl mi n : Nat} {X : Nat → Nat → Int32} {cy ss ds fs : Nat} (hsl : sl ≤ 60) (ch : Int32) (q : Nat) (hq : q < sl) : KR l yX1_leavesAny (.code yX1_leavesAny cX1_leavesAny 3 (some .boolean)) 0 D (tyz cI cZ cL) [.ref (g 4), .int ch, .int (nI q)] (cw g cI cZ sl mi n X cy ss ds fs) (fun r => r = if ch &&& (X 20 q ^^^ (-1)) ≠ 0 then 1 else 0) := by
  refine KR.ofz (own := RX1) (lvs := [(0, .ref (g 4)), (1, .int ch), (2, .int (nI q))]) (by decide) rfl (Nat.le_of_ble_eq_true rfl) rfl ?_
  intro p e s m args below meth c Q C hK hN hP hD ret ls hl
  obtain ⟨hx, hb, hml, hown, hts, hr9, hlk9⟩ := id C
  refine lv_iload_n hx hb dX1_leavesAny_0 rfl (lv_at hl 1 rfl) ?_
  refine lv_aload_n hx hb dX1_leavesAny_1 rfl (lv_at hl 0 rfl) ?_
  refine va_get (D := D) (ci := 3) (v := .ref (g 30)) (C := RX1) (T := TX1) (N := 2) hx hb hts inX1 hown hK hP 4 rfl rfl 0 (by decide) (hts _ wF_X1_7) (fun _ h9 => h9) rfl dX1_leavesAny_2 ?_
  refine lv_iload_n hx hb dX1_leavesAny_5 rfl (lv_at hl 2 rfl) ?_
  refine k_iald (D := D) (f := X 20) hx hb hK hP 24 0 rfl rfl q rfl (by omega) (by omega) dX1_leavesAny_6 ?_
  refine lv_iconst (v := (-1)) hx hb dX1_leavesAny_7 (by decide) ?_
  refine lv_ixor hx hb dX1_leavesAny_8 ?_
  refine lv_iand hx hb dX1_leavesAny_9 ?_
  refine lv_if_eq (tgt := 17) hx hb dX1_leavesAny_10 (by decide) (fun c10 => ?_) (fun c10 => ?_)
  · skip
    refine lv_iconst (v := 0) hx hb dX1_leavesAny_17 (by decide) ?_
    exact ret _ _ _ dX1_leavesAny_18 (Or.inl rfl) (ite_n (fun z => z c10))
  · skip
    refine lv_iconst (v := 1) hx hb dX1_leavesAny_13 (by decide) ?_
    refine lv_goto (tgt := 18) hx hb dX1_leavesAny_14 (by decide) ?_
    exact ret _ _ _ dX1_leavesAny_18 (Or.inr rfl) (ite_p c10)
set_option maxHeartbeats 4000000 in
set_option maxRecDepth 100000 in
theorem c_X1_clear {l : Launch} {D : va_G} {cI cZ cL : ClassId} {g : Nat → Nat} {sl mi n : Nat} {X : Nat → Nat → Int32} {cy ss ds fs : Nat} (hsl : sl ≤ 60) : KV l yX1_clear (.code yX1_clear cX1_clear 2 none) 0 D (tyz cI cZ cL) [.ref (g 4)] (cw g cI cZ sl mi n X cy ss ds fs) (fun u => (∀ q, q < sl → u 20 q = 0) ∧ ∀ a, a ≠ 20 → u a = X a) (fun u : Nat → Nat → Int32 => cw g cI cZ sl mi n u cy ss ds 0) := by
  refine KN.of (own := RX1) (lvs := [(0, .ref (g 4))]) (by decide) rfl (Nat.le_of_ble_eq_true rfl) rfl ?_
  intro p e s m args below meth c Q C hK hN A hA hP hD hS hin ret ls hl
  obtain ⟨hx, hb, hml, hown, hts, hr9, hlk9⟩ := id C
  refine lv_iconst (v := 0) hx hb dX1_clear_0 (by decide) ?_
  refine lv_istore_n (lv' := [(1, .int 0), (0, .ref (g 4))]) hx hb dX1_clear_1 rfl hl (by decide) rfl (fun ls hl => ?_)
  have L2 : ∀ (kf : Nat) (i : Nat) (X' : Nat → Nat → Int32) (H : Heap) (locs : List Loc) (ls : Array Slot), (sl - i < kf) → (i ≤ sl) → (∀ j, j < i → X' 20 j = 0) → (∀ a, a ≠ 20 → X' a = X a) → (va_P D vwCl (cw g cI cZ sl mi n X' cy ss ds fs) H) → (va_D A (cw g cI cZ sl mi n X' cy ss ds fs)) → (va_S A s.heap H locs) → (lv_has ls 2 [(0, .ref (g 4)), (1, .int (nI i))]) → W p l e (rmK 0) s m args below meth c H locs 0 0 Q (F0 m 2 ls []) := by
    intro kf
    induction kf with
    | zero =>
      intro i X' H locs ls hm
      exact absurd hm (Nat.not_lt_zero _)
    | succ kf ih2 =>
      intro i X' H locs ls hm h2 h3 h5 hP hD hS hl
      refine lv_iload_n hx hb dX1_clear_2 rfl (lv_at hl 1 rfl) ?_
      refine lv_aload_n hx hb dX1_clear_3 rfl (lv_at hl 0 rfl) ?_
      refine va_get (D := D) (ci := 3) (v := .ref (g 30)) (C := RX1) (T := TX1) (N := 2) hx hb hts inX1 hown hK hP 4 rfl rfl 0 (by decide) (hts _ wF_X1_7) (fun _ h9 => h9) rfl dX1_clear_4 ?_
      refine va_alen (D := D) (v := nI sl) (ty := .int) hx hb hK hP 24 0 rfl rfl rfl dX1_clear_7 ?_
      refine k_icmp_ge (tgt := 24) hx hb i sl rfl rfl (by omega) (by omega) dX1_clear_8 (by decide) (fun c8 => ?_) (fun c8 => ?_)
      · skip
        refine lv_aload_n hx hb dX1_clear_24 rfl (lv_at hl 0 rfl) ?_
        refine lv_iconst (v := 0) hx hb dX1_clear_25 (by decide) ?_
        refine k_put (D := D) (ci := 3) (v := .int (nI 0)) (ty := .int) (C := RX1) (T := TX1) (N := 2) (ws' := cw g cI cZ sl mi n X' cy ss ds 0) hx hb hts inX1 tyX1 tyX1_ok nmX1 hown hK hP hD hS 4 rfl rfl 1 (by decide) (hts _ wF_X1_13) (fun _ h9 => h9) rfl (by decide +kernel) rfl rfl (Nat.le_of_ble_eq_true rfl) rfl dX1_clear_26 (fun H locs hP hD hS => ?_)
        exact ret X' _ _ _ _ dX1_clear_29 hP hD hS ⟨fun j b => h3 j (by omega), h5⟩
      · skip
        refine lv_aload_n hx hb dX1_clear_11 rfl (lv_at hl 0 rfl) ?_
        refine va_get (D := D) (ci := 3) (v := .ref (g 30)) (C := RX1) (T := TX1) (N := 2) hx hb hts inX1 hown hK hP 4 rfl rfl 0 (by decide) (hts _ wF_X1_7) (fun _ h9 => h9) rfl dX1_clear_12 ?_
        refine lv_iload_n hx hb dX1_clear_15 rfl (lv_at hl 1 rfl) ?_
        refine lv_iconst (v := 0) hx hb dX1_clear_16 (by decide) ?_
        refine k_iast (D := D) (f := X' 20) (ws' := cw g cI cZ sl mi n (sX X' 20 i 0) cy ss ds fs) hx hb hK hP hD hS 24 0 rfl rfl i rfl (by omega) (by omega) rfl dX1_clear_17 (fun H locs hP hD hS => ?_)
        refine k_iinc (k := 1) (lv' := [(1, .int (nI (i + 1))), (0, .ref (g 4))]) hx hb i rfl dX1_clear_18 hl rfl (by decide) rfl (fun ls hl => ?_)
        refine lv_goto (tgt := 2) hx hb dX1_clear_21 (by decide) ?_
        exact ih2 (i + 1) (sX X' 20 i 0) _ _ _ (by omega) (by omega) (by intro j b; rw [sX_app]; grind) (fun a ha => by rw [sX_ne ha]; exact h5 a ha) hP hD hS (lv_sub hl [1, 0] rfl)
  exact L2 ((sl - 0) + 1) 0 X _ _ _ (Nat.lt_succ_self _) (Nat.zero_le _) (fun j b => absurd b (by omega)) (fun _ _ => rfl) hP hD hS (lv_sub hl [1, 0] rfl)
set_option maxHeartbeats 4000000 in
set_option maxRecDepth 100000 in
theorem c_X3_send {l : Launch} {D : va_G} {cI cZ cL : ClassId} {g : Nat → Nat} {sl mi n : Nat} {X : Nat → Nat → Int32} {cy ss ds fs : Nat} (hn : n ≤ 16) (hs : ss ≤ 100) (hsl : sl ≤ 60) (cv : Int32) (hF : FrI (X 12) (X 13) n sl ss) : KI l yX3_send (.code yX3_send cX3_send 7 (some .int)) 2 D (tyz cI cZ cL) [.ref (g 2), .int cv, .ref (g 1), .ref (g 4)] (cw g cI cZ sl mi n X cy ss ds fs) (fun r u => r = nI (cnz (fun i => decide (Dn (fun i => decide (cv &&& (X 16 i - 1) = X 15 i)) (X 1) (X 12) (X 13) (X 14) (X 20) i)) ss) ∧ (∀ j, 1 ≤ j → j ≤ n → (u 7 j ≠ 0 ↔ ∃ i, i < ss ∧ Dn (fun i => decide (cv &&& (X 16 i - 1) = X 15 i)) (X 1) (X 12) (X 13) (X 14) (X 20) i ∧ (X 12 i).toNatClampNeg = j)) ∧ ∀ a, a ≠ 7 → u a = X a) (fun u : Nat → Nat → Int32 => cw g cI cZ sl mi n u cy ss ds fs) := by
  refine KI.of (own := RX3) (lvs := [(0, .ref (g 2)), (1, .int cv), (2, .ref (g 1)), (3, .ref (g 4))]) (by decide) rfl (Nat.le_of_ble_eq_true rfl) rfl ?_
  intro p e s m args below meth c Q C hK hN A hA hP hD hS ret ls hl
  obtain ⟨hx, hb, hml, hown, hts, hr9, hlk9⟩ := id C
  refine lv_aload_n hx hb dX3_send_0 rfl (lv_at hl 2 rfl) ?_
  refine k_callV (D := D) C hK hN hP hD hS hA (c_X2_forgetHeard hn) hl cf_yX2_forgetHeard wM_X3_52 1 4 rfl rfl rfl rfl (Nat.le_of_ble_eq_true rfl) ⟨by decide, by decide⟩ ⟨Nat.le_of_ble_eq_true rfl, Nat.le_of_ble_eq_true rfl⟩ dX3_send_1 (fun u1 H locs hr1 hP hD hS _ _ => ?_)
  have hP : va_P D vwCl (cw g cI cZ sl mi n u1 cy ss ds fs) H := hP
  have hD : va_D A (cw g cI cZ sl mi n u1 cy ss ds fs) := hD
  refine lv_iconst (v := 0) hx hb dX3_send_4 (by decide) ?_
  refine lv_istore (lv' := [(4, .int 0), (0, .ref (g 2)), (1, .int cv), (2, .ref (g 1)), (3, .ref (g 4))]) hx hb dX3_send_5 hl (by decide) rfl (fun ls hl => ?_)
  refine lv_iconst (v := 0) hx hb dX3_send_7 (by decide) ?_
  refine lv_istore (lv' := [(5, .int 0), (4, .int 0), (0, .ref (g 2)), (1, .int cv), (2, .ref (g 1)), (3, .ref (g 4))]) hx hb dX3_send_8 hl (by decide) rfl (fun ls hl => ?_)
  have L10 : ∀ (kf : Nat) (i : Nat) (f : Nat) (X' : Nat → Nat → Int32) (H : Heap) (locs : List Loc) (ls : Array Slot), (ss - i < kf) → (i ≤ ss) → (f = cnz (fun i => decide (Dn (fun i => decide (cv &&& (X 16 i - 1) = X 15 i)) (X 1) (X 12) (X 13) (X 14) (X 20) i)) i) → (∀ j, 1 ≤ j → j ≤ n → (X' 7 j ≠ 0 ↔ ∃ k, k < i ∧ Dn (fun i => decide (cv &&& (X 16 i - 1) = X 15 i)) (X 1) (X 12) (X 13) (X 14) (X 20) k ∧ (X 12 k).toNatClampNeg = j)) → (∀ a, a ≠ 7 → X' a = X a) → (va_P D vwCl (cw g cI cZ sl mi n X' cy ss ds fs) H) → (va_D A (cw g cI cZ sl mi n X' cy ss ds fs)) → (va_S A s.heap H locs) → (lv_has ls 7 [(0, .ref (g 2)), (1, .int cv), (2, .ref (g 1)), (3, .ref (g 4)), (4, .int (nI f)), (5, .int (nI i))]) → W p l e (rmK 2) s m args below meth c H locs 0 0 Q (F0 m 10 ls []) := by
    intro kf
    induction kf with
    | zero =>
      intro i f X' H locs ls hm
      exact absurd hm (Nat.not_lt_zero _)
    | succ kf ih10 =>
      intro i f X' H locs ls hm h2 h3 h4 h5 hP hD hS hl
      refine lv_iload hx hb dX3_send_10 (lv_at hl 5 rfl) ?_
      refine lv_aload_n hx hb dX3_send_12 rfl (lv_at hl 0 rfl) ?_
      refine va_get (D := D) (ci := 5) (v := .int (nI ss)) (C := RX3) (T := TX3) (N := 6) hx hb hts inX3 hown hK hP 2 rfl rfl 5 (by decide) (hts _ wF_X3_25) (fun _ h9 => h9) rfl dX3_send_13 ?_
      refine k_icmp_ge (tgt := 98) hx hb i ss rfl rfl (by omega) (by omega) dX3_send_16 (by decide) (fun c16 => ?_) (fun c16 => ?_)
      · skip
        refine lv_iload hx hb dX3_send_98 (lv_at hl 4 rfl) ?_
        exact ret _ X' _ _ _ _ dX3_send_100 hP hD hS (by have e9 : i = ss := (by omega); subst e9; exact ⟨by rw [h3], h4, h5⟩)
      · skip
        have hi : i < ss := c16
        obtain ⟨⟨jn, hj1, hj2, hje⟩, qn, hq1, hqe⟩ : (∃ j : Nat, 1 ≤ j ∧ j ≤ n ∧ X 12 i = nI j) ∧ ∃ q : Nat, q < sl ∧ X 13 i = nI q := ⟨inR_of (hF i hi).1, (hF i hi).2⟩
        have e1 : X' 1 = X 1 := h5 1 (by decide)
        have e12 : X' 12 = X 12 := h5 12 (by decide)
        have e13 : X' 13 = X 13 := h5 13 (by decide)
        have e14 : X' 14 = X 14 := h5 14 (by decide)
        have e15 : X' 15 = X 15 := h5 15 (by decide)
        have e16 : X' 16 = X 16 := h5 16 (by decide)
        have e20 : X' 20 = X 20 := h5 20 (by decide)
        have L48 : ∀ (q6 : Int32) (ls : Array Slot), (q6 = if (X 1 jn = 2 ∧ cv &&& (X 16 i - 1) = X 15 i) then 1 else 0) → (lv_has ls 7 [(0, .ref (g 2)), (1, .int cv), (2, .ref (g 1)), (3, .ref (g 4)), (4, .int (nI f)), (5, .int (nI i))]) → W p l e (rmK 2) s m args below meth c H locs 0 0 Q (F0 m 48 ls [.int q6]) := by
          intro q6 ls h6 hl
          subst h6
          refine lv_istore (lv' := [(6, .int (if X 1 jn = 2 ∧ cv &&& (X 16 i - 1) = X 15 i then 1 else 0)), (0, .ref (g 2)), (1, .int cv), (2, .ref (g 1)), (3, .ref (g 4)), (4, .int (nI f)), (5, .int (nI i))]) hx hb dX3_send_48 hl (by decide) rfl (fun ls hl => ?_)
          refine lv_iload hx hb dX3_send_50 (lv_at hl 0 rfl) ?_
          refine k_ifeq_P (P := (X 1 jn = 2 ∧ cv &&& (X 16 i - 1) = X 15 i)) (tgt := 92) hx hb rfl dX3_send_52 (by decide) (fun c52 => ?_) (fun c52 => ?_)
          · skip
            have hd : ¬ Dn (fun i => decide (cv &&& (X 16 i - 1) = X 15 i)) (X 1) (X 12) (X 13) (X 14) (X 20) i := fun z => c52 ⟨by have := z.1.1; rwa [hje, nI_clamp (by omega)] at this, of_decide_eq_true z.1.2⟩
            refine k_iinc (k := 6) (lv' := [(5, .int (nI (i + 1))), (6, .int (if X 1 jn = 2 ∧ cv &&& (X 16 i - 1) = X 15 i then 1 else 0)), (0, .ref (g 2)), (1, .int cv), (2, .ref (g 1)), (3, .ref (g 4)), (4, .int (nI f))]) hx hb i rfl dX3_send_92 hl rfl (by decide) rfl (fun ls hl => ?_)
            refine lv_goto (tgt := 10) hx hb dX3_send_95 (by decide) ?_
            exact ih10 (i + 1) f X' _ _ _ (by omega) (by omega) (by subst h3; first | exact (cnz_f (decide_eq_false hd)).symm | exact (cnz_t (decide_eq_true hd)).symm) (by first | exact sn_keep h4 hd | exact sn_set h4 hd (by rw [hje]; exact nI_clamp (by omega))) (by first | exact h5 | exact fun a ha => by rw [sX_ne ha]; exact h5 a ha) hP hD hS (lv_sub hl [2, 3, 4, 5, 6, 0] rfl)
          · skip
            refine lv_aload_n hx hb dX3_send_55 rfl (lv_at hl 4 rfl) ?_
            refine lv_aload_n hx hb dX3_send_56 rfl (lv_at hl 1 rfl) ?_
            refine va_get (D := D) (ci := 5) (v := .ref (g 24)) (C := RX3) (T := TX3) (N := 6) hx hb hts inX3 hown hK hP 2 rfl rfl 2 (by decide) (hts _ wF_X3_16) (fun _ h9 => h9) rfl dX3_send_57 ?_
            refine lv_iload hx hb dX3_send_60 (lv_at hl 6 rfl) ?_
            refine k_iald (D := D) (f := X' 14) hx hb hK hP 18 0 rfl rfl i rfl (by omega) (by omega) dX3_send_62 ?_
            refine lv_aload_n hx hb dX3_send_63 rfl (lv_at hl 1 rfl) ?_
            refine va_get (D := D) (ci := 5) (v := .ref (g 23)) (C := RX3) (T := TX3) (N := 6) hx hb hts inX3 hown hK hP 2 rfl rfl 1 (by decide) (hts _ wF_X3_13) (fun _ h9 => h9) rfl dX3_send_64 ?_
            refine lv_iload hx hb dX3_send_67 (lv_at hl 6 rfl) ?_
            refine k_iald (D := D) (f := X' 13) hx hb hK hP 17 0 rfl rfl i rfl (by omega) (by omega) dX3_send_69 ?_
            refine k_int (y := (nI qn)) (by rw [e13]; exact hqe) ?_
            refine k_callR (D := D) C hK hN hP hD (c_X1_leavesAny hsl (X' 14 i) qn (by omega)) hl cf_yX1_leavesAny wM_X3_61 4 3 rfl rfl rfl rfl (Nat.le_of_ble_eq_true rfl) ⟨by decide, by decide⟩ ⟨Nat.le_of_ble_eq_true rfl, Nat.le_of_ble_eq_true rfl⟩ dX3_send_70 (fun r70 hr70 => ?_)
            have hr70 : r70 = (if (X' 14 i) &&& (X' 20 qn ^^^ (-1)) ≠ 0 then 1 else 0) := hr70
            subst hr70
            refine k_ifeq_P (P := ((X' 14 i) &&& (X' 20 qn ^^^ (-1)) ≠ 0)) (tgt := 92) hx hb rfl dX3_send_73 (by decide) (fun c73 => ?_) (fun c73 => ?_)
            · skip
              rw [e14, e20] at c73
              have hd : ¬ Dn (fun i => decide (cv &&& (X 16 i - 1) = X 15 i)) (X 1) (X 12) (X 13) (X 14) (X 20) i := fun z => c73 (by have := z.2; rwa [hqe, nI_clamp (by omega)] at this)
              refine k_iinc (k := 6) (lv' := [(5, .int (nI (i + 1))), (6, .int (if X 1 jn = 2 ∧ cv &&& (X 16 i - 1) = X 15 i then 1 else 0)), (0, .ref (g 2)), (1, .int cv), (2, .ref (g 1)), (3, .ref (g 4)), (4, .int (nI f))]) hx hb i rfl dX3_send_92 hl rfl (by decide) rfl (fun ls hl => ?_)
              refine lv_goto (tgt := 10) hx hb dX3_send_95 (by decide) ?_
              exact ih10 (i + 1) f X' _ _ _ (by omega) (by omega) (by subst h3; first | exact (cnz_f (decide_eq_false hd)).symm | exact (cnz_t (decide_eq_true hd)).symm) (by first | exact sn_keep h4 hd | exact sn_set h4 hd (by rw [hje]; exact nI_clamp (by omega))) (by first | exact h5 | exact fun a ha => by rw [sX_ne ha]; exact h5 a ha) hP hD hS (lv_sub hl [2, 3, 4, 5, 6, 0] rfl)
            · skip
              rw [e14, e20] at c73
              have hd : Dn (fun i => decide (cv &&& (X 16 i - 1) = X 15 i)) (X 1) (X 12) (X 13) (X 14) (X 20) i := ⟨⟨by rw [hje, nI_clamp (by omega)]; exact c52.1, decide_eq_true c52.2⟩, by rw [hqe, nI_clamp (by omega)]; exact c73⟩
              refine lv_aload_n hx hb dX3_send_76 rfl (lv_at hl 3 rfl) ?_
              refine va_getN (host := "FlexCycles") (ref := "FlexCycles$Nodes") (D := D) (ci := 4) (v := .ref (g 17)) (C := RX2) (T := TX2) (N := 12) hx hb hts inX2 hown hK hP 1 rfl rfl 7 (by decide) (va_Nw.use rfl hN.2.2.2.2.1) (fun _ h9 => h9) rfl dX3_send_77 ?_
              refine lv_aload_n hx hb dX3_send_80 rfl (lv_at hl 1 rfl) ?_
              refine va_get (D := D) (ci := 5) (v := .ref (g 22)) (C := RX3) (T := TX3) (N := 6) hx hb hts inX3 hown hK hP 2 rfl rfl 0 (by decide) (hts _ wF_X3_9) (fun _ h9 => h9) rfl dX3_send_81 ?_
              refine lv_iload hx hb dX3_send_84 (lv_at hl 6 rfl) ?_
              refine k_iald (D := D) (f := X' 12) hx hb hK hP 16 0 rfl rfl i rfl (by omega) (by omega) dX3_send_86 ?_
              refine k_int (y := (nI jn)) (by rw [e12]; exact hje) ?_
              refine lv_iconst (v := 1) hx hb dX3_send_87 (by decide) ?_
              refine k_zast (D := D) (f := X' 7) (ws' := cw g cI cZ sl mi n (sX X' 7 jn 1) cy ss ds fs) hx hb hK hP hD hS 11 1 rfl rfl jn rfl (by omega) (by omega) rfl rfl dX3_send_88 (fun H locs hP hD hS => ?_)
              refine k_iinc (k := 5) (lv' := [(4, .int (nI (f + 1))), (6, .int (if X 1 jn = 2 ∧ cv &&& (X 16 i - 1) = X 15 i then 1 else 0)), (0, .ref (g 2)), (1, .int cv), (2, .ref (g 1)), (3, .ref (g 4)), (5, .int (nI i))]) hx hb f rfl dX3_send_89 hl rfl (by decide) rfl (fun ls hl => ?_)
              refine k_iinc (k := 6) (lv' := [(5, .int (nI (i + 1))), (4, .int (nI (f + 1))), (6, .int (if X 1 jn = 2 ∧ cv &&& (X 16 i - 1) = X 15 i then 1 else 0)), (0, .ref (g 2)), (1, .int cv), (2, .ref (g 1)), (3, .ref (g 4))]) hx hb i rfl dX3_send_92 hl rfl (by decide) rfl (fun ls hl => ?_)
              refine lv_goto (tgt := 10) hx hb dX3_send_95 (by decide) ?_
              exact ih10 (i + 1) (f + 1) (sX X' 7 jn 1) _ _ _ (by omega) (by omega) (by subst h3; first | exact (cnz_f (decide_eq_false hd)).symm | exact (cnz_t (decide_eq_true hd)).symm) (by first | exact sn_keep h4 hd | exact sn_set h4 hd (by rw [hje]; exact nI_clamp (by omega))) (by first | exact h5 | exact fun a ha => by rw [sX_ne ha]; exact h5 a ha) hP hD hS (lv_sub hl [3, 4, 5, 6, 1, 0] rfl)
        refine lv_aload_n hx hb dX3_send_19 rfl (lv_at hl 2 rfl) ?_
        refine lv_aload_n hx hb dX3_send_20 rfl (lv_at hl 0 rfl) ?_
        refine va_get (D := D) (ci := 5) (v := .ref (g 22)) (C := RX3) (T := TX3) (N := 6) hx hb hts inX3 hown hK hP 2 rfl rfl 0 (by decide) (hts _ wF_X3_9) (fun _ h9 => h9) rfl dX3_send_21 ?_
        refine lv_iload hx hb dX3_send_24 (lv_at hl 5 rfl) ?_
        refine k_iald (D := D) (f := X' 12) hx hb hK hP 16 0 rfl rfl i rfl (by omega) (by omega) dX3_send_26 ?_
        refine k_int (y := (nI jn)) (by rw [e12]; exact hje) ?_
        refine k_callR (D := D) C hK hN hP hD (c_X2_isActive hn jn (by omega)) hl cf_yX2_isActive wM_X3_57 1 4 rfl rfl rfl rfl (Nat.le_of_ble_eq_true rfl) ⟨by decide, by decide⟩ ⟨Nat.le_of_ble_eq_true rfl, Nat.le_of_ble_eq_true rfl⟩ dX3_send_27 (fun r27 hr27 => ?_)
        have hr27 : r27 = (if X' 1 jn = 2 then 1 else 0) := hr27
        subst hr27
        refine k_ifeq_P (P := (X' 1 jn = 2)) (tgt := 47) hx hb rfl dX3_send_30 (by decide) (fun c30 => ?_) (fun c30 => ?_)
        · skip
          rw [e1] at c30
          refine lv_iconst (v := 0) hx hb dX3_send_47 (by decide) ?_
          exact L48 0 _ (by first | exact ite_p ⟨c30, c40⟩ | exact ite_n (fun z => c30 z.1) | exact ite_n (fun z => c40 z.2)) (lv_sub hl [0, 1, 2, 3, 4, 5] rfl)
        · skip
          rw [e1] at c30
          refine lv_aload_n hx hb dX3_send_33 rfl (lv_at hl 0 rfl) ?_
          refine lv_iload hx hb dX3_send_34 (lv_at hl 5 rfl) ?_
          refine lv_iload_n hx hb dX3_send_36 rfl (lv_at hl 1 rfl) ?_
          refine k_callR (D := D) C hK hN hP hD (c_X3_isIn i (by omega) cv) hl cf_yX3_isIn wM_X3_48 2 5 rfl rfl rfl rfl (Nat.le_of_ble_eq_true rfl) ⟨by decide, by decide⟩ ⟨Nat.le_of_ble_eq_true rfl, Nat.le_of_ble_eq_true rfl⟩ dX3_send_37 (fun r37 hr37 => ?_)
          have hr37 : r37 = (if cv &&& (X' 16 i - 1) = X' 15 i then 1 else 0) := hr37
          subst hr37
          refine k_ifeq_P (P := (cv &&& (X' 16 i - 1) = X' 15 i)) (tgt := 47) hx hb rfl dX3_send_40 (by decide) (fun c40 => ?_) (fun c40 => ?_)
          · skip
            rw [e16, e15] at c40
            refine lv_iconst (v := 0) hx hb dX3_send_47 (by decide) ?_
            exact L48 0 _ (by first | exact ite_p ⟨c30, c40⟩ | exact ite_n (fun z => c30 z.1) | exact ite_n (fun z => c40 z.2)) (lv_sub hl [0, 1, 2, 3, 4, 5] rfl)
          · skip
            rw [e16, e15] at c40
            refine lv_iconst (v := 1) hx hb dX3_send_43 (by decide) ?_
            refine lv_goto (tgt := 48) hx hb dX3_send_44 (by decide) ?_
            exact L48 1 _ (by first | exact ite_p ⟨c30, c40⟩ | exact ite_n (fun z => c30 z.1) | exact ite_n (fun z => c40 z.2)) (lv_sub hl [0, 1, 2, 3, 4, 5] rfl)
  exact L10 ((ss - 0) + 1) 0 0 u1 _ _ _ (Nat.lt_succ_self _) (Nat.zero_le _) rfl (fun j a b => ⟨fun z => absurd (hr1.1 j a b) z, fun ⟨k, hk, _⟩ => absurd hk (by omega)⟩) hr1.2 hP hD hS (lv_sub hl [2, 3, 4, 5, 1, 0] rfl)
