set_option maxHeartbeats 4000000 in
set_option maxRecDepth 100000 in
theorem c_X2_integrate {l : Launch} {D : va_G} {cI cZ cL : ClassId} {g : Nat → Nat} {sl mi n : Nat} {X : Nat → Nat → Int32} {cy ss ds fs : Nat} (hn : n ≤ 16) (ld : Nat) (hl1 : 1 ≤ ld) (hld : ld ≤ n) (hla : X 1 ld = 2) : KV l yX2_integrate (.code yX2_integrate cX2_integrate 3 none) 1 D (tyz cI cZ cL) [.ref (g 1), .int (nI ld)] (cw g cI cZ sl mi n X cy ss ds fs) (fun u => (∀ j, 1 ≤ j → j ≤ n → Ig X u ld j) ∧ ∀ a, a ≠ 1 → a ≠ 2 → a ≠ 6 → u a = X a) (fun u : Nat → Nat → Int32 => cw g cI cZ sl mi n u cy ss ds fs) := by
  refine KN.of (own := RX2) (lvs := [(0, .ref (g 1)), (1, .int (nI ld))]) (by decide) rfl (Nat.le_of_ble_eq_true rfl) rfl ?_
  intro p e s m args below meth c Q C hK hN A hA hP hD hS hin ret ls hl
  obtain ⟨hx, hb, hml, hown, hts, hr9, hlk9⟩ := id C
  refine lv_iconst (v := 1) hx hb dX2_integrate_0 (by decide) ?_
  refine lv_istore_n (lv' := [(2, .int 1), (0, .ref (g 1)), (1, .int (nI ld))]) hx hb dX2_integrate_1 rfl hl (by decide) rfl (fun ls hl => ?_)
  have L2 : ∀ (kf : Nat) (i : Nat) (X' : Nat → Nat → Int32) (H : Heap) (locs : List Loc) (ls : Array Slot), (n + 1 - i < kf) → (1 ≤ i) → (i ≤ n + 1) → (∀ j, 1 ≤ j → j < i → Ig X X' ld j) → (∀ j, i ≤ j → X' 1 j = X 1 j ∧ X' 2 j = X 2 j ∧ X' 6 j = X 6 j) → (∀ a, a ≠ 1 → a ≠ 2 → a ≠ 6 → X' a = X a) → (va_P D vwCl (cw g cI cZ sl mi n X' cy ss ds fs) H) → (va_D A (cw g cI cZ sl mi n X' cy ss ds fs)) → (va_S A s.heap H locs) → (lv_has ls 3 [(0, .ref (g 1)), (1, .int (nI ld)), (2, .int (nI i))]) → W p l e (rmK 1) s m args below meth c H locs 0 0 Q (F0 m 2 ls []) := by
    intro kf
    induction kf with
    | zero =>
      intro i X' H locs ls hm
      exact absurd hm (Nat.not_lt_zero _)
    | succ kf ih2 =>
      intro i X' H locs ls hm h1 h2 h3 h4 h5 hP hD hS hl
      refine lv_iload_n hx hb dX2_integrate_2 rfl (lv_at hl 2 rfl) ?_
      refine lv_aload_n hx hb dX2_integrate_3 rfl (lv_at hl 0 rfl) ?_
      refine va_get (D := D) (ci := 4) (v := .int (nI n)) (C := RX2) (T := TX2) (N := 12) hx hb hts inX2 hown hK hP 1 rfl rfl 0 (by decide) (hts _ wF_X2_7) (fun _ h9 => h9) rfl dX2_integrate_4 ?_
      refine k_icmp_gt (tgt := 58) hx hb i n rfl rfl (by omega) (by omega) dX2_integrate_7 (by decide) (fun c7 => ?_) (fun c7 => ?_)
      · skip
        exact ret X' _ _ _ _ dX2_integrate_58 hP hD hS ⟨fun j a b => h3 j a (by omega), h5⟩
      · skip
        refine lv_aload_n hx hb dX2_integrate_10 rfl (lv_at hl 0 rfl) ?_
        refine va_get (D := D) (ci := 4) (v := .ref (g 11)) (C := RX2) (T := TX2) (N := 12) hx hb hts inX2 hown hK hP 1 rfl rfl 1 (by decide) (hts _ wF_X2_13) (fun _ h9 => h9) rfl dX2_integrate_11 ?_
        refine lv_iload_n hx hb dX2_integrate_14 rfl (lv_at hl 2 rfl) ?_
        refine k_iald (D := D) (f := X' 1) hx hb hK hP 5 0 rfl rfl i rfl (by omega) (by omega) dX2_integrate_15 ?_
        refine lv_if_ne (tgt := 36) hx hb dX2_integrate_16 (by decide) (fun c16 => ?_) (fun c16 => ?_)
        · skip
          refine lv_aload_n hx hb dX2_integrate_36 rfl (lv_at hl 0 rfl) ?_
          refine va_get (D := D) (ci := 4) (v := .ref (g 11)) (C := RX2) (T := TX2) (N := 12) hx hb hts inX2 hown hK hP 1 rfl rfl 1 (by decide) (hts _ wF_X2_13) (fun _ h9 => h9) rfl dX2_integrate_37 ?_
          refine lv_iload_n hx hb dX2_integrate_40 rfl (lv_at hl 2 rfl) ?_
          refine k_iald (D := D) (f := X' 1) hx hb hK hP 5 0 rfl rfl i rfl (by omega) (by omega) dX2_integrate_41 ?_
          refine lv_iconst (v := 1) hx hb dX2_integrate_42 (by decide) ?_
          refine lv_icmp_ne (tgt := 52) hx hb dX2_integrate_43 (by decide) (fun c43 => ?_) (fun c43 => ?_)
          · skip
            refine k_iinc (k := 2) (lv' := [(2, .int (nI (i + 1))), (0, .ref (g 1)), (1, .int (nI ld))]) hx hb i rfl dX2_integrate_52 hl rfl (by decide) rfl (fun ls hl => ?_)
            refine lv_goto (tgt := 2) hx hb dX2_integrate_55 (by decide) ?_
            exact ih2 (i + 1) X' _ _ _ (by omega) (by omega) (by omega) (by intro j a b; have hj := h3 j a; unfold Ig at hj ⊢; obtain ⟨q1, q2, q6⟩ := h4 i (Nat.le_refl i); (try subst hr49); grind [sX_app]) (by intro j a; have hj := h4 j (by omega); (try subst hr49); grind [sX_app]) (by intro a a1 a2 a6; have := h5 a a1 a2 a6; (try subst hr49); grind [sX_ne]) hP hD hS (lv_sub hl [1, 2, 0] rfl)
          · skip
            refine lv_aload_n hx hb dX2_integrate_46 rfl (lv_at hl 0 rfl) ?_
            refine lv_iload_n hx hb dX2_integrate_47 rfl (lv_at hl 2 rfl) ?_
            refine lv_iload_n hx hb dX2_integrate_48 rfl (lv_at hl 1 rfl) ?_
            refine k_callV (D := D) C hK hN hP hD hS hA (c_X2_listen hn i (by omega) ld (by omega)) hl cf_yX2_listen wM_X2_76 1 4 rfl rfl rfl rfl (Nat.le_of_ble_eq_true rfl) ⟨by decide, by decide⟩ ⟨Nat.le_of_ble_eq_true rfl, Nat.le_of_ble_eq_true rfl⟩ dX2_integrate_49 (fun u49 H locs hr49 hP hD hS _ _ => ?_)
            have hP : va_P D vwCl (cw g cI cZ sl mi n u49 cy ss ds fs) H := hP
            have hD : va_D A (cw g cI cZ sl mi n u49 cy ss ds fs) := hD
            have hld2 : X' 2 ld = X 2 ld := by
              rcases Nat.lt_or_ge ld i with q | q
              · have := (h3 ld hl1 q).2.2; rw [this, if_neg (fun z => absurd z.1 (by rw [hla]; decide))]
              · exact (h4 ld q).2.1
            refine k_iinc (k := 2) (lv' := [(2, .int (nI (i + 1))), (0, .ref (g 1)), (1, .int (nI ld))]) hx hb i rfl dX2_integrate_52 hl rfl (by decide) rfl (fun ls hl => ?_)
            refine lv_goto (tgt := 2) hx hb dX2_integrate_55 (by decide) ?_
            exact ih2 (i + 1) u49 _ _ _ (by omega) (by omega) (by omega) (by intro j a b; have hj := h3 j a; unfold Ig at hj ⊢; obtain ⟨q1, q2, q6⟩ := h4 i (Nat.le_refl i); (try subst hr49); grind [sX_app]) (by intro j a; have hj := h4 j (by omega); (try subst hr49); grind [sX_app]) (by intro a a1 a2 a6; have := h5 a a1 a2 a6; (try subst hr49); grind [sX_ne]) hP hD hS (lv_sub hl [1, 2, 0] rfl)
        · skip
          refine lv_aload_n hx hb dX2_integrate_19 rfl (lv_at hl 0 rfl) ?_
          refine va_get (D := D) (ci := 4) (v := .ref (g 11)) (C := RX2) (T := TX2) (N := 12) hx hb hts inX2 hown hK hP 1 rfl rfl 1 (by decide) (hts _ wF_X2_13) (fun _ h9 => h9) rfl dX2_integrate_20 ?_
          refine lv_iload_n hx hb dX2_integrate_23 rfl (lv_at hl 2 rfl) ?_
          refine lv_iconst (v := 1) hx hb dX2_integrate_24 (by decide) ?_
          refine k_iast (D := D) (f := X' 1) (ws' := cw g cI cZ sl mi n (sX X' 1 i 1) cy ss ds fs) hx hb hK hP hD hS 5 0 rfl rfl i rfl (by omega) (by omega) rfl dX2_integrate_25 (fun H locs hP hD hS => ?_)
          refine lv_aload_n hx hb dX2_integrate_26 rfl (lv_at hl 0 rfl) ?_
          refine va_get (D := D) (ci := 4) (v := .ref (g 16)) (C := RX2) (T := TX2) (N := 12) hx hb hts inX2 hown hK hP 1 rfl rfl 6 (by decide) (hts _ wF_X2_30) (fun _ h9 => h9) rfl dX2_integrate_27 ?_
          refine lv_iload_n hx hb dX2_integrate_30 rfl (lv_at hl 2 rfl) ?_
          refine lv_iconst (v := 0) hx hb dX2_integrate_31 (by decide) ?_
          refine k_iast (D := D) (f := X' 6) (ws' := cw g cI cZ sl mi n (sX (sX X' 1 i 1) 6 i 0) cy ss ds fs) hx hb hK hP hD hS 10 0 rfl rfl i rfl (by omega) (by omega) rfl dX2_integrate_32 (fun H locs hP hD hS => ?_)
          refine lv_goto (tgt := 52) hx hb dX2_integrate_33 (by decide) ?_
          refine k_iinc (k := 2) (lv' := [(2, .int (nI (i + 1))), (0, .ref (g 1)), (1, .int (nI ld))]) hx hb i rfl dX2_integrate_52 hl rfl (by decide) rfl (fun ls hl => ?_)
          refine lv_goto (tgt := 2) hx hb dX2_integrate_55 (by decide) ?_
          exact ih2 (i + 1) (sX (sX X' 1 i 1) 6 i 0) _ _ _ (by omega) (by omega) (by omega) (by intro j a b; have hj := h3 j a; unfold Ig at hj ⊢; obtain ⟨q1, q2, q6⟩ := h4 i (Nat.le_refl i); (try subst hr49); grind [sX_app]) (by intro j a; have hj := h4 j (by omega); (try subst hr49); grind [sX_app]) (by intro a a1 a2 a6; have := h5 a a1 a2 a6; (try subst hr49); grind [sX_ne]) hP hD hS (lv_sub hl [1, 2, 0] rfl)
  exact L2 ((n + 1 - 1) + 1) 1 X _ _ _ (Nat.lt_succ_self _) (Nat.le_refl 1) (by omega) (fun j a b => absurd b (by omega)) (fun _ _ => ⟨rfl, rfl, rfl⟩) (fun _ _ _ _ => rfl) hP hD hS (lv_sub hl [1, 2, 0] rfl)
set_option maxHeartbeats 4000000 in
set_option maxRecDepth 100000 in
theorem c_X2_startUp {l : Launch} {D : va_G} {cI cZ cL : ClassId} {g : Nat → Nat} {sl mi n : Nat} {X : Nat → Nat → Int32} {cy ss ds fs : Nat} (hn : n ≤ 16) : KV l yX2_startUp (.code yX2_startUp cX2_startUp 2 none) 2 D (tyz cI cZ cL) [.ref (g 1)] (cw g cI cZ sl mi n X cy ss ds fs) (fun u => SU X u n) (fun u : Nat → Nat → Int32 => cw g cI cZ sl mi n u cy ss ds fs) := by
  refine KN.of (own := RX2) (lvs := [(0, .ref (g 1))]) (by decide) rfl (Nat.le_of_ble_eq_true rfl) rfl ?_
  intro p e s m args below meth c Q C hK hN A hA hP hD hS hin ret ls hl
  obtain ⟨hx, hb, hml, hown, hts, hr9, hlk9⟩ := id C
  refine lv_aload_n hx hb dX2_startUp_0 rfl (lv_at hl 0 rfl) ?_
  refine k_callR (D := D) C hK hN hP hD (c_X2_leastActive hn) hl cf_yX2_leastActive wM_X2_62 1 4 rfl rfl rfl rfl (Nat.le_of_ble_eq_true rfl) ⟨by decide, by decide⟩ ⟨Nat.le_of_ble_eq_true rfl, Nat.le_of_ble_eq_true rfl⟩ dX2_startUp_1 (fun r1 hr1 => ?_)
  obtain ⟨k, rfl, hk⟩ := hr1
  have hkn := isLA_le hk
  refine lv_istore_n (lv' := [(1, .int (nI k)), (0, .ref (g 1))]) hx hb dX2_startUp_4 rfl hl (by decide) rfl (fun ls hl => ?_)
  refine lv_iload_n hx hb dX2_startUp_5 rfl (lv_at hl 0 rfl) ?_
  refine k_if_eq (tgt := 17) hx hb k rfl (by omega) dX2_startUp_6 (by decide) (fun c6 => ?_) (fun c6 => ?_)
  · skip
    refine lv_aload_n hx hb dX2_startUp_17 rfl (lv_at hl 1 rfl) ?_
    refine k_callR (D := D) C hK hN hP hD (c_X2_countStarters hn) hl cf_yX2_countStarters wM_X2_70 1 4 rfl rfl rfl rfl (Nat.le_of_ble_eq_true rfl) ⟨by decide, by decide⟩ ⟨Nat.le_of_ble_eq_true rfl, Nat.le_of_ble_eq_true rfl⟩ dX2_startUp_18 (fun r18 hr18 => ?_)
    have hr18 : r18 = (nI (nSt (X 1) (X 5) (n + 1))) := hr18
    subst hr18
    have hs : nSt (X 1) (X 5) (n + 1) ≤ n + 1 := cnt_le _ _
    refine lv_iconst (v := 2) hx hb dX2_startUp_21 (by decide) ?_
    refine k_icmp_lt (tgt := 29) hx hb (nSt (X 1) (X 5) (n + 1)) 2 rfl rfl (by omega) (by omega) dX2_startUp_22 (by decide) (fun c22 => ?_) (fun c22 => ?_)
    · skip
      exact ret X _ _ _ _ dX2_startUp_29 hP hD hS ⟨k, hk, (by first | exact Or.inl ⟨by omega, hr11⟩ | exact Or.inr (Or.inl ⟨c6, by omega, hr26⟩) | exact Or.inr (Or.inr ⟨c6, by omega, rfl⟩))⟩
    · skip
      refine lv_aload_n hx hb dX2_startUp_25 rfl (lv_at hl 1 rfl) ?_
      refine k_callV (D := D) C hK hN hP hD hS hA (c_X2_startCold hn) hl cf_yX2_startCold wM_X2_73 1 4 rfl rfl rfl rfl (Nat.le_of_ble_eq_true rfl) ⟨by decide, by decide⟩ ⟨Nat.le_of_ble_eq_true rfl, Nat.le_of_ble_eq_true rfl⟩ dX2_startUp_26 (fun u26 H locs hr26 hP hD hS _ _ => ?_)
      have hP : va_P D vwCl (cw g cI cZ sl mi n u26 cy ss ds fs) H := hP
      have hD : va_D A (cw g cI cZ sl mi n u26 cy ss ds fs) := hD
      exact ret u26 _ _ _ _ dX2_startUp_29 hP hD hS ⟨k, hk, (by first | exact Or.inl ⟨by omega, hr11⟩ | exact Or.inr (Or.inl ⟨c6, by omega, hr26⟩) | exact Or.inr (Or.inr ⟨c6, by omega, rfl⟩))⟩
  · skip
    have hk2 : X 1 k = 2 := by
      rcases hk with h | h
      · omega
      · exact h.2.2.1
    refine lv_aload_n hx hb dX2_startUp_9 rfl (lv_at hl 1 rfl) ?_
    refine lv_iload_n hx hb dX2_startUp_10 rfl (lv_at hl 0 rfl) ?_
    refine k_callV (D := D) C hK hN hP hD hS hA (c_X2_integrate hn k (by omega) hkn hk2) hl cf_yX2_integrate wM_X2_66 1 4 rfl rfl rfl rfl (Nat.le_of_ble_eq_true rfl) ⟨by decide, by decide⟩ ⟨Nat.le_of_ble_eq_true rfl, Nat.le_of_ble_eq_true rfl⟩ dX2_startUp_11 (fun u11 H locs hr11 hP hD hS _ _ => ?_)
    have hP : va_P D vwCl (cw g cI cZ sl mi n u11 cy ss ds fs) H := hP
    have hD : va_D A (cw g cI cZ sl mi n u11 cy ss ds fs) := hD
    refine lv_goto (tgt := 29) hx hb dX2_startUp_14 (by decide) ?_
    exact ret u11 _ _ _ _ dX2_startUp_29 hP hD hS ⟨k, hk, (by first | exact Or.inl ⟨by omega, hr11⟩ | exact Or.inr (Or.inl ⟨c6, by omega, hr26⟩) | exact Or.inr (Or.inr ⟨c6, by omega, rfl⟩))⟩
set_option maxHeartbeats 4000000 in
set_option maxRecDepth 100000 in
theorem c_X2_insertDeviation {l : Launch} {D : va_G} {cI cZ cL : ClassId} {g : Nat → Nat} {sl mi n : Nat} {X : Nat → Nat → Int32} {cy ss ds fs : Nat} (hn : n ≤ 16) (f : Nat) (hf : f < n) (dv : Int32) : KV l yX2_insertDeviation (.code yX2_insertDeviation cX2_insertDeviation 4 none) 0 D (tyz cI cZ cL) [.ref (g 1), .int (nI f), .int dv] (cw g cI cZ sl mi n X cy ss ds fs) (fun u => (∀ a, a ≠ 11 → u a = X a) ∧ u 11 = insF f (X 11) dv) (fun u : Nat → Nat → Int32 => cw g cI cZ sl mi n u cy ss ds fs) := by
  refine KN.of (own := RX2) (lvs := [(0, .ref (g 1)), (1, .int (nI f)), (2, .int dv)]) (by decide) rfl (Nat.le_of_ble_eq_true rfl) rfl ?_
  intro p e s m args below meth c Q C hK hN A hA hP hD hS hin ret ls hl
  obtain ⟨hx, hb, hml, hown, hts, hr9, hlk9⟩ := id C
  refine lv_iload_n hx hb dX2_insertDeviation_0 rfl (lv_at hl 1 rfl) ?_
  refine lv_istore_n (lv' := [(3, .int (nI f)), (0, .ref (g 1)), (1, .int (nI f)), (2, .int dv)]) hx hb dX2_insertDeviation_1 rfl hl (by decide) rfl (fun ls hl => ?_)
  have L2 : ∀ (kf : Nat) (a : Nat) (X' : Nat → Nat → Int32) (H : Heap) (locs : List Loc) (ls : Array Slot), (a < kf) → (a ≤ f) → (∀ k, k ≠ 11 → X' k = X k) → (insF a (X' 11) dv = insF f (X 11) dv) → (va_P D vwCl (cw g cI cZ sl mi n X' cy ss ds fs) H) → (va_D A (cw g cI cZ sl mi n X' cy ss ds fs)) → (va_S A s.heap H locs) → (lv_has ls 4 [(0, .ref (g 1)), (1, .int (nI f)), (2, .int dv), (3, .int (nI a))]) → W p l e (rmK 0) s m args below meth c H locs 0 0 Q (F0 m 2 ls []) := by
    intro kf
    induction kf with
    | zero =>
      intro a X' H locs ls hm
      exact absurd hm (Nat.not_lt_zero _)
    | succ kf ih2 =>
      intro a X' H locs ls hm h1 h2 h3 hP hD hS hl
      refine lv_iload_n hx hb dX2_insertDeviation_2 rfl (lv_at hl 3 rfl) ?_
      refine k_if_le (tgt := 38) hx hb a rfl (by omega) dX2_insertDeviation_3 (by decide) (fun c3 => ?_) (fun c3 => ?_)
      · skip
        refine lv_aload_n hx hb dX2_insertDeviation_38 rfl (lv_at hl 0 rfl) ?_
        refine va_get (D := D) (ci := 4) (v := .ref (g 21)) (C := RX2) (T := TX2) (N := 12) hx hb hts inX2 hown hK hP 1 rfl rfl 11 (by decide) (hts _ wF_X2_45) (fun _ h9 => h9) rfl dX2_insertDeviation_39 ?_
        refine lv_iload_n hx hb dX2_insertDeviation_42 rfl (lv_at hl 3 rfl) ?_
        refine lv_iload_n hx hb dX2_insertDeviation_43 rfl (lv_at hl 2 rfl) ?_
        refine k_iast (D := D) (f := X' 11) (ws' := cw g cI cZ sl mi n (sX X' 11 a dv) cy ss ds fs) hx hb hK hP hD hS 15 0 rfl rfl a rfl (by omega) (by omega) rfl dX2_insertDeviation_44 (fun H locs hP hD hS => ?_)
        exact ret (sX X' 11 a dv) _ _ _ _ dX2_insertDeviation_45 hP hD hS ⟨fun k hk => by rw [sX_ne hk]; exact h2 k hk, (by rw [← h3]; first | exact (insF_0 c3).symm | exact (insF_stop c3 c15).symm)⟩
      · skip
        refine lv_aload_n hx hb dX2_insertDeviation_6 rfl (lv_at hl 0 rfl) ?_
        refine va_get (D := D) (ci := 4) (v := .ref (g 21)) (C := RX2) (T := TX2) (N := 12) hx hb hts inX2 hown hK hP 1 rfl rfl 11 (by decide) (hts _ wF_X2_45) (fun _ h9 => h9) rfl dX2_insertDeviation_7 ?_
        refine lv_iload_n hx hb dX2_insertDeviation_10 rfl (lv_at hl 3 rfl) ?_
        refine lv_iconst (v := 1) hx hb dX2_insertDeviation_11 (by decide) ?_
        refine k_isub hx hb a 1 rfl rfl (by omega) dX2_insertDeviation_12 ?_
        refine k_iald (D := D) (f := X' 11) hx hb hK hP 15 0 rfl rfl (a - 1) rfl (by omega) (by omega) dX2_insertDeviation_13 ?_
        refine lv_iload_n hx hb dX2_insertDeviation_14 rfl (lv_at hl 2 rfl) ?_
        refine lv_icmp_le (tgt := 38) hx hb dX2_insertDeviation_15 (by decide) (fun c15 => ?_) (fun c15 => ?_)
        · skip
          refine lv_aload_n hx hb dX2_insertDeviation_38 rfl (lv_at hl 0 rfl) ?_
          refine va_get (D := D) (ci := 4) (v := .ref (g 21)) (C := RX2) (T := TX2) (N := 12) hx hb hts inX2 hown hK hP 1 rfl rfl 11 (by decide) (hts _ wF_X2_45) (fun _ h9 => h9) rfl dX2_insertDeviation_39 ?_
          refine lv_iload_n hx hb dX2_insertDeviation_42 rfl (lv_at hl 3 rfl) ?_
          refine lv_iload_n hx hb dX2_insertDeviation_43 rfl (lv_at hl 2 rfl) ?_
          refine k_iast (D := D) (f := X' 11) (ws' := cw g cI cZ sl mi n (sX X' 11 a dv) cy ss ds fs) hx hb hK hP hD hS 15 0 rfl rfl a rfl (by omega) (by omega) rfl dX2_insertDeviation_44 (fun H locs hP hD hS => ?_)
          exact ret (sX X' 11 a dv) _ _ _ _ dX2_insertDeviation_45 hP hD hS ⟨fun k hk => by rw [sX_ne hk]; exact h2 k hk, (by rw [← h3]; first | exact (insF_0 c3).symm | exact (insF_stop c3 c15).symm)⟩
        · skip
          refine lv_aload_n hx hb dX2_insertDeviation_18 rfl (lv_at hl 0 rfl) ?_
          refine va_get (D := D) (ci := 4) (v := .ref (g 21)) (C := RX2) (T := TX2) (N := 12) hx hb hts inX2 hown hK hP 1 rfl rfl 11 (by decide) (hts _ wF_X2_45) (fun _ h9 => h9) rfl dX2_insertDeviation_19 ?_
          refine lv_iload_n hx hb dX2_insertDeviation_22 rfl (lv_at hl 3 rfl) ?_
          refine lv_aload_n hx hb dX2_insertDeviation_23 rfl (lv_at hl 0 rfl) ?_
          refine va_get (D := D) (ci := 4) (v := .ref (g 21)) (C := RX2) (T := TX2) (N := 12) hx hb hts inX2 hown hK hP 1 rfl rfl 11 (by decide) (hts _ wF_X2_45) (fun _ h9 => h9) rfl dX2_insertDeviation_24 ?_
          refine lv_iload_n hx hb dX2_insertDeviation_27 rfl (lv_at hl 3 rfl) ?_
          refine lv_iconst (v := 1) hx hb dX2_insertDeviation_28 (by decide) ?_
          refine k_isub hx hb a 1 rfl rfl (by omega) dX2_insertDeviation_29 ?_
          refine k_iald (D := D) (f := X' 11) hx hb hK hP 15 0 rfl rfl (a - 1) rfl (by omega) (by omega) dX2_insertDeviation_30 ?_
          refine k_iast (D := D) (f := X' 11) (ws' := cw g cI cZ sl mi n (sX X' 11 a (X' 11 (a - 1))) cy ss ds fs) hx hb hK hP hD hS 15 0 rfl rfl a rfl (by omega) (by omega) rfl dX2_insertDeviation_31 (fun H locs hP hD hS => ?_)
          refine k_idec (k := 3) (lv' := [(3, .int (nI (a - 1))), (0, .ref (g 1)), (1, .int (nI f)), (2, .int dv)]) hx hb (a - 1) (by rw [Nat.sub_add_cancel c3]) dX2_insertDeviation_32 hl rfl (by decide) rfl (fun ls hl => ?_)
          refine lv_goto (tgt := 2) hx hb dX2_insertDeviation_35 (by decide) ?_
          exact ih2 (a - 1) (sX X' 11 a (X' 11 (a - 1))) _ _ _ (by omega) (by omega) (fun k hk => by rw [sX_ne hk]; exact h2 k hk) ((insF_go c3 c15).symm.trans h3) hP hD hS (lv_sub hl [1, 2, 3, 0] rfl)
  exact L2 (f + 1) f X _ _ _ (Nat.lt_succ_self _) (Nat.le_refl _) (fun _ _ => rfl) rfl hP hD hS (lv_sub hl [1, 2, 3, 0] rfl)
set_option maxHeartbeats 4000000 in
set_option maxRecDepth 100000 in
theorem c_X2_findMidpoint {l : Launch} {D : va_G} {cI cZ cL : ClassId} {g : Nat → Nat} {sl mi n : Nat} {X : Nat → Nat → Int32} {cy ss ds fs : Nat} (hn : n ≤ 16) (j : Nat) (h1j : 1 ≤ j) (hj : j ≤ n) : KI l yX2_findMidpoint (.code yX2_findMidpoint cX2_findMidpoint 4 (some .int)) 1 D (tyz cI cZ cL) [.ref (g 1), .int (nI j)] (cw g cI cZ sl mi n X cy ss ds fs) (fun r u => r = mpv (X 1) (X 7) (X 2) n j ∧ ∀ a, a ≠ 11 → u a = X a) (fun u : Nat → Nat → Int32 => cw g cI cZ sl mi n u cy ss ds fs) := by
  refine KI.of (own := RX2) (lvs := [(0, .ref (g 1)), (1, .int (nI j))]) (by decide) rfl (Nat.le_of_ble_eq_true rfl) rfl ?_
  intro p e s m args below meth c Q C hK hN A hA hP hD hS ret ls hl
  obtain ⟨hx, hb, hml, hown, hts, hr9, hlk9⟩ := id C
  refine lv_aload_n hx hb dX2_findMidpoint_0 rfl (lv_at hl 0 rfl) ?_
  refine va_get (D := D) (ci := 4) (v := .ref (g 21)) (C := RX2) (T := TX2) (N := 12) hx hb hts inX2 hown hK hP 1 rfl rfl 11 (by decide) (hts _ wF_X2_45) (fun _ h9 => h9) rfl dX2_findMidpoint_1 ?_
  refine lv_iconst (v := 0) hx hb dX2_findMidpoint_4 (by decide) ?_
  refine lv_iconst (v := 0) hx hb dX2_findMidpoint_5 (by decide) ?_
  refine k_iast (D := D) (f := X 11) (ws' := cw g cI cZ sl mi n (sX X 11 0 0) cy ss ds fs) hx hb hK hP hD hS 15 0 rfl rfl 0 rfl (by omega) (by omega) rfl dX2_findMidpoint_6 (fun H locs hP hD hS => ?_)
  refine lv_iconst (v := 1) hx hb dX2_findMidpoint_7 (by decide) ?_
  refine lv_istore_n (lv' := [(2, .int 1), (0, .ref (g 1)), (1, .int (nI j))]) hx hb dX2_findMidpoint_8 rfl hl (by decide) rfl (fun ls hl => ?_)
  refine lv_iconst (v := 1) hx hb dX2_findMidpoint_9 (by decide) ?_
  refine lv_istore_n (lv' := [(3, .int 1), (2, .int 1), (0, .ref (g 1)), (1, .int (nI j))]) hx hb dX2_findMidpoint_10 rfl hl (by decide) rfl (fun ls hl => ?_)
  have L11 : ∀ (kf : Nat) (i : Nat) (f : Nat) (X' : Nat → Nat → Int32) (H : Heap) (locs : List Loc) (ls : Array Slot), (n + 1 - i < kf) → (1 ≤ i) → (i ≤ n + 1) → (f = dc (X 1) (X 7) j i) → (∀ t, t < f → X' 11 t = srt (de (X 1) (X 7) (X 2) j i) f t) → (∀ a, a ≠ 11 → X' a = X a) → (va_P D vwCl (cw g cI cZ sl mi n X' cy ss ds fs) H) → (va_D A (cw g cI cZ sl mi n X' cy ss ds fs)) → (va_S A s.heap H locs) → (lv_has ls 4 [(0, .ref (g 1)), (1, .int (nI j)), (2, .int (nI f)), (3, .int (nI i))]) → W p l e (rmK 1) s m args below meth c H locs 0 0 Q (F0 m 11 ls []) := by
    intro kf
    induction kf with
    | zero =>
      intro i f X' H locs ls hm
      exact absurd hm (Nat.not_lt_zero _)
    | succ kf ih11 =>
      intro i f X' H locs ls hm h1 h2 h3 h4 h5 hP hD hS hl
      have hf1 := dc_pos (X 1) (X 7) j i
      have hf2 := dc_le (X 1) (X 7) j (i - 1)
      rw [Nat.sub_add_cancel h1, ← h3] at hf2
      rw [← h3] at hf1
      refine lv_iload_n hx hb dX2_findMidpoint_11 rfl (lv_at hl 3 rfl) ?_
      refine lv_aload_n hx hb dX2_findMidpoint_12 rfl (lv_at hl 0 rfl) ?_
      refine va_get (D := D) (ci := 4) (v := .int (nI n)) (C := RX2) (T := TX2) (N := 12) hx hb hts inX2 hown hK hP 1 rfl rfl 0 (by decide) (hts _ wF_X2_7) (fun _ h9 => h9) rfl dX2_findMidpoint_13 ?_
      refine k_icmp_gt (tgt := 68) hx hb i n rfl rfl (by omega) (by omega) dX2_findMidpoint_16 (by decide) (fun c16 => ?_) (fun c16 => ?_)
      · skip
        have hi : i = n + 1 := by omega
        subst hi
        have hfn : f ≤ n := by omega
        have L88 : ∀ (k : Nat) (ls : Array Slot), (k = if f < 3 then 0 else if f < 8 then 1 else 2) → (lv_has ls 4 [(0, .ref (g 1)), (1, .int (nI j)), (2, .int (nI f))]) → W p l e (rmK 1) s m args below meth c H locs 0 0 Q (F0 m 88 ls [.int (nI k)]) := by
          intro k ls hk hl
          have hk3 : k ≤ f - 1 := by rw [hk]; split <;> (try split) <;> omega
          refine lv_istore_n (lv' := [(3, .int (nI k)), (0, .ref (g 1)), (1, .int (nI j)), (2, .int (nI f))]) hx hb dX2_findMidpoint_88 rfl hl (by decide) rfl (fun ls hl => ?_)
          refine lv_aload_n hx hb dX2_findMidpoint_89 rfl (lv_at hl 1 rfl) ?_
          refine va_get (D := D) (ci := 4) (v := .ref (g 21)) (C := RX2) (T := TX2) (N := 12) hx hb hts inX2 hown hK hP 1 rfl rfl 11 (by decide) (hts _ wF_X2_45) (fun _ h9 => h9) rfl dX2_findMidpoint_90 ?_
          refine lv_iload_n hx hb dX2_findMidpoint_93 rfl (lv_at hl 0 rfl) ?_
          refine k_iald (D := D) (f := X' 11) hx hb hK hP 15 0 rfl rfl k rfl (by omega) (by omega) dX2_findMidpoint_94 ?_
          refine lv_aload_n hx hb dX2_findMidpoint_95 rfl (lv_at hl 1 rfl) ?_
          refine va_get (D := D) (ci := 4) (v := .ref (g 21)) (C := RX2) (T := TX2) (N := 12) hx hb hts inX2 hown hK hP 1 rfl rfl 11 (by decide) (hts _ wF_X2_45) (fun _ h9 => h9) rfl dX2_findMidpoint_96 ?_
          refine lv_iload_n hx hb dX2_findMidpoint_99 rfl (lv_at hl 3 rfl) ?_
          refine lv_iconst (v := 1) hx hb dX2_findMidpoint_100 (by decide) ?_
          refine k_isub hx hb f 1 rfl rfl (by omega) dX2_findMidpoint_101 ?_
          refine lv_iload_n hx hb dX2_findMidpoint_102 rfl (lv_at hl 0 rfl) ?_
          refine k_isub hx hb (f - 1) k rfl rfl (by omega) dX2_findMidpoint_103 ?_
          refine k_iald (D := D) (f := X' 11) hx hb hK hP 15 0 rfl rfl ((f - 1) - k) rfl (by omega) (by omega) dX2_findMidpoint_104 ?_
          refine lv_iadd hx hb dX2_findMidpoint_105 ?_
          refine lv_iconst (v := 2) hx hb dX2_findMidpoint_106 (by decide) ?_
          refine lv_idiv hx hb dX2_findMidpoint_107 (by decide) ?_
          exact ret _ X' _ _ _ _ dX2_findMidpoint_108 hP hD hS ⟨(by rw [h4 _ (by omega), h4 _ (by omega)]; subst h3; rw [hk]; rfl), h5⟩
        refine lv_iload_n hx hb dX2_findMidpoint_68 rfl (lv_at hl 2 rfl) ?_
        refine lv_iconst (v := 3) hx hb dX2_findMidpoint_69 (by decide) ?_
        refine k_icmp_ge (tgt := 77) hx hb f 3 rfl rfl (by omega) (by omega) dX2_findMidpoint_70 (by decide) (fun c70 => ?_) (fun c70 => ?_)
        · skip
          refine lv_iload_n hx hb dX2_findMidpoint_77 rfl (lv_at hl 2 rfl) ?_
          refine lv_bipush (v := 8) hx hb dX2_findMidpoint_78 (by decide) ?_
          refine k_icmp_ge (tgt := 87) hx hb f 8 rfl rfl (by omega) (by omega) dX2_findMidpoint_80 (by decide) (fun c80 => ?_) (fun c80 => ?_)
          · skip
            refine lv_iconst (v := 2) hx hb dX2_findMidpoint_87 (by decide) ?_
            exact L88 2 _ (by grind) (lv_sub hl [0, 1, 2] rfl)
          · skip
            refine lv_iconst (v := 1) hx hb dX2_findMidpoint_83 (by decide) ?_
            refine lv_goto (tgt := 88) hx hb dX2_findMidpoint_84 (by decide) ?_
            exact L88 1 _ (by grind) (lv_sub hl [0, 1, 2] rfl)
        · skip
          refine lv_iconst (v := 0) hx hb dX2_findMidpoint_73 (by decide) ?_
          refine lv_goto (tgt := 88) hx hb dX2_findMidpoint_74 (by decide) ?_
          exact L88 0 _ (by grind) (lv_sub hl [0, 1, 2] rfl)
      · skip
        refine lv_iload_n hx hb dX2_findMidpoint_19 rfl (lv_at hl 3 rfl) ?_
        refine lv_iload_n hx hb dX2_findMidpoint_20 rfl (lv_at hl 1 rfl) ?_
        refine k_icmp_eq (tgt := 62) hx hb i j rfl rfl (by omega) (by omega) dX2_findMidpoint_21 (by decide) (fun c21 => ?_) (fun c21 => ?_)
        · skip
          have hnd : ¬ dvP (X 1) (X 7) j i := fun z => z.1 c21
          refine k_iinc (k := 3) (lv' := [(3, .int (nI (i + 1))), (0, .ref (g 1)), (1, .int (nI j)), (2, .int (nI f))]) hx hb i rfl dX2_findMidpoint_62 hl rfl (by decide) rfl (fun ls hl => ?_)
          refine lv_goto (tgt := 11) hx hb dX2_findMidpoint_65 (by decide) ?_
          exact ih11 (i + 1) f X' _ _ _ (by omega) (by omega) (by omega) (by first | rw [h3, dc_f hnd] | rw [h3, dc_t h1 hd]) (by first | (rw [de_f hnd]; exact h4) | (rw [hr56.2, h5 2 (by decide)]; subst h3; rw [← dc_t h1 hd]; exact srt_step h1 hd h4)) (by first | exact h5 | exact fun a ha => (hr56.1 a ha).trans (h5 a ha)) hP hD hS (lv_sub hl [1, 2, 3, 0] rfl)
        · skip
          refine lv_aload_n hx hb dX2_findMidpoint_24 rfl (lv_at hl 0 rfl) ?_
          refine lv_iload_n hx hb dX2_findMidpoint_25 rfl (lv_at hl 3 rfl) ?_
          refine k_callR (D := D) C hK hN hP hD (c_X2_isActive hn i (by omega)) hl cf_yX2_isActive wM_X2_48 1 4 rfl rfl rfl rfl (Nat.le_of_ble_eq_true rfl) ⟨by decide, by decide⟩ ⟨Nat.le_of_ble_eq_true rfl, Nat.le_of_ble_eq_true rfl⟩ dX2_findMidpoint_26 (fun r26 hr26 => ?_)
          have hr26 : r26 = (if X' 1 i = 2 then 1 else 0) := hr26
          subst hr26
          refine k_ifeq_P (P := (X' 1 i = 2)) (tgt := 62) hx hb rfl dX2_findMidpoint_29 (by decide) (fun c29 => ?_) (fun c29 => ?_)
          · skip
            have hnd : ¬ dvP (X 1) (X 7) j i := fun z => c29 (by rw [h5 1 (by decide)]; exact z.2.1)
            refine k_iinc (k := 3) (lv' := [(3, .int (nI (i + 1))), (0, .ref (g 1)), (1, .int (nI j)), (2, .int (nI f))]) hx hb i rfl dX2_findMidpoint_62 hl rfl (by decide) rfl (fun ls hl => ?_)
            refine lv_goto (tgt := 11) hx hb dX2_findMidpoint_65 (by decide) ?_
            exact ih11 (i + 1) f X' _ _ _ (by omega) (by omega) (by omega) (by first | rw [h3, dc_f hnd] | rw [h3, dc_t h1 hd]) (by first | (rw [de_f hnd]; exact h4) | (rw [hr56.2, h5 2 (by decide)]; subst h3; rw [← dc_t h1 hd]; exact srt_step h1 hd h4)) (by first | exact h5 | exact fun a ha => (hr56.1 a ha).trans (h5 a ha)) hP hD hS (lv_sub hl [1, 2, 3, 0] rfl)
          · skip
            refine lv_aload_n hx hb dX2_findMidpoint_32 rfl (lv_at hl 0 rfl) ?_
            refine va_get (D := D) (ci := 4) (v := .ref (g 17)) (C := RX2) (T := TX2) (N := 12) hx hb hts inX2 hown hK hP 1 rfl rfl 7 (by decide) (hts _ wF_X2_33) (fun _ h9 => h9) rfl dX2_findMidpoint_33 ?_
            refine lv_iload_n hx hb dX2_findMidpoint_36 rfl (lv_at hl 3 rfl) ?_
            refine k_zald (D := D) (f := X' 7) hx hb hK hP 11 1 rfl rfl i rfl (by omega) (by omega) dX2_findMidpoint_37 ?_
            refine lv_if_eq (tgt := 62) hx hb dX2_findMidpoint_38 (by decide) (fun c38 => ?_) (fun c38 => ?_)
            · skip
              have hnd : ¬ dvP (X 1) (X 7) j i := fun z => z.2.2 (by rw [← h5 7 (by decide)]; exact c38)
              refine k_iinc (k := 3) (lv' := [(3, .int (nI (i + 1))), (0, .ref (g 1)), (1, .int (nI j)), (2, .int (nI f))]) hx hb i rfl dX2_findMidpoint_62 hl rfl (by decide) rfl (fun ls hl => ?_)
              refine lv_goto (tgt := 11) hx hb dX2_findMidpoint_65 (by decide) ?_
              exact ih11 (i + 1) f X' _ _ _ (by omega) (by omega) (by omega) (by first | rw [h3, dc_f hnd] | rw [h3, dc_t h1 hd]) (by first | (rw [de_f hnd]; exact h4) | (rw [hr56.2, h5 2 (by decide)]; subst h3; rw [← dc_t h1 hd]; exact srt_step h1 hd h4)) (by first | exact h5 | exact fun a ha => (hr56.1 a ha).trans (h5 a ha)) hP hD hS (lv_sub hl [1, 2, 3, 0] rfl)
            · skip
              have hd : dvP (X 1) (X 7) j i := ⟨c21, by rw [← h5 1 (by decide)]; exact c29, by rw [← h5 7 (by decide)]; exact c38⟩
              have hfn : f < n := by
                have := dc_le (X 1) (X 7) j i
                rw [dc_t h1 hd, ← h3] at this
                omega
              refine lv_aload_n hx hb dX2_findMidpoint_41 rfl (lv_at hl 0 rfl) ?_
              refine lv_iload_n hx hb dX2_findMidpoint_42 rfl (lv_at hl 2 rfl) ?_
              refine lv_aload_n hx hb dX2_findMidpoint_43 rfl (lv_at hl 0 rfl) ?_
              refine va_get (D := D) (ci := 4) (v := .ref (g 12)) (C := RX2) (T := TX2) (N := 12) hx hb hts inX2 hown hK hP 1 rfl rfl 2 (by decide) (hts _ wF_X2_17) (fun _ h9 => h9) rfl dX2_findMidpoint_44 ?_
              refine lv_iload_n hx hb dX2_findMidpoint_47 rfl (lv_at hl 3 rfl) ?_
              refine k_iald (D := D) (f := X' 2) hx hb hK hP 6 0 rfl rfl i rfl (by omega) (by omega) dX2_findMidpoint_48 ?_
              refine lv_aload_n hx hb dX2_findMidpoint_49 rfl (lv_at hl 0 rfl) ?_
              refine va_get (D := D) (ci := 4) (v := .ref (g 12)) (C := RX2) (T := TX2) (N := 12) hx hb hts inX2 hown hK hP 1 rfl rfl 2 (by decide) (hts _ wF_X2_17) (fun _ h9 => h9) rfl dX2_findMidpoint_50 ?_
              refine lv_iload_n hx hb dX2_findMidpoint_53 rfl (lv_at hl 1 rfl) ?_
              refine k_iald (D := D) (f := X' 2) hx hb hK hP 6 0 rfl rfl j rfl (by omega) (by omega) dX2_findMidpoint_54 ?_
              refine lv_isub hx hb dX2_findMidpoint_55 ?_
              refine k_callV (D := D) C hK hN hP hD hS hA (c_X2_insertDeviation hn f hfn ((X' 2 i) - (X' 2 j))) hl cf_yX2_insertDeviation wM_X2_91 1 4 rfl rfl rfl rfl (Nat.le_of_ble_eq_true rfl) ⟨by decide, by decide⟩ ⟨Nat.le_of_ble_eq_true rfl, Nat.le_of_ble_eq_true rfl⟩ dX2_findMidpoint_56 (fun u56 H locs hr56 hP hD hS _ _ => ?_)
              have hP : va_P D vwCl (cw g cI cZ sl mi n u56 cy ss ds fs) H := hP
              have hD : va_D A (cw g cI cZ sl mi n u56 cy ss ds fs) := hD
              refine k_iinc (k := 2) (lv' := [(2, .int (nI (f + 1))), (0, .ref (g 1)), (1, .int (nI j)), (3, .int (nI i))]) hx hb f rfl dX2_findMidpoint_59 hl rfl (by decide) rfl (fun ls hl => ?_)
              refine k_iinc (k := 3) (lv' := [(3, .int (nI (i + 1))), (2, .int (nI (f + 1))), (0, .ref (g 1)), (1, .int (nI j))]) hx hb i rfl dX2_findMidpoint_62 hl rfl (by decide) rfl (fun ls hl => ?_)
              refine lv_goto (tgt := 11) hx hb dX2_findMidpoint_65 (by decide) ?_
              exact ih11 (i + 1) (f + 1) u56 _ _ _ (by omega) (by omega) (by omega) (by first | rw [h3, dc_f hnd] | rw [h3, dc_t h1 hd]) (by first | (rw [de_f hnd]; exact h4) | (rw [hr56.2, h5 2 (by decide)]; subst h3; rw [← dc_t h1 hd]; exact srt_step h1 hd h4)) (by first | exact h5 | exact fun a ha => (hr56.1 a ha).trans (h5 a ha)) hP hD hS (lv_sub hl [2, 3, 1, 0] rfl)
  exact L11 ((n + 1 - 1) + 1) 1 1 (sX X 11 0 0) _ _ _ (Nat.lt_succ_self _) (Nat.le_refl 1) (by omega) (dc_1 _ _ _).symm (fun t ht => by rw [show t = 0 by omega]; rfl) (fun a ha => sX_ne ha) hP hD hS (lv_sub hl [2, 3, 1, 0] rfl)
set_option maxHeartbeats 4000000 in
set_option maxRecDepth 100000 in
theorem c_X2_changeRate {l : Launch} {D : va_G} {cI cZ cL : ClassId} {g : Nat → Nat} {sl mi n : Nat} {X : Nat → Nat → Int32} {cy ss ds fs : Nat} (hn : n ≤ 16) (j : Nat) (hj : j ≤ n) (more : Int32) : KV l yX2_changeRate (.code yX2_changeRate cX2_changeRate 4 none) 1 D (tyz cI cZ cL) [.ref (g 1), .int (nI j), .int more] (cw g cI cZ sl mi n X cy ss ds fs) (fun u => u = if clp (X 4 j + more) ≠ X 4 j + more then sX (sX X 4 j (clp (X 4 j + more))) 1 j 3 else sX X 4 j (clp (X 4 j + more))) (fun u : Nat → Nat → Int32 => cw g cI cZ sl mi n u cy ss ds fs) := by
  refine KN.of (own := RX2) (lvs := [(0, .ref (g 1)), (1, .int (nI j)), (2, .int more)]) (by decide) rfl (Nat.le_of_ble_eq_true rfl) rfl ?_
  intro p e s m args below meth c Q C hK hN A hA hP hD hS hin ret ls hl
  obtain ⟨hx, hb, hml, hown, hts, hr9, hlk9⟩ := id C
  refine lv_aload_n hx hb dX2_changeRate_0 rfl (lv_at hl 0 rfl) ?_
  refine va_get (D := D) (ci := 4) (v := .ref (g 14)) (C := RX2) (T := TX2) (N := 12) hx hb hts inX2 hown hK hP 1 rfl rfl 4 (by decide) (hts _ wF_X2_23) (fun _ h9 => h9) rfl dX2_changeRate_1 ?_
  refine lv_iload_n hx hb dX2_changeRate_4 rfl (lv_at hl 1 rfl) ?_
  refine k_iald (D := D) (f := X 4) hx hb hK hP 8 0 rfl rfl j rfl (by omega) (by omega) dX2_changeRate_5 ?_
  refine lv_iload_n hx hb dX2_changeRate_6 rfl (lv_at hl 2 rfl) ?_
  refine lv_iadd hx hb dX2_changeRate_7 ?_
  refine lv_istore_n (lv' := [(3, .int ((X 4 j) + more)), (0, .ref (g 1)), (1, .int (nI j)), (2, .int more)]) hx hb dX2_changeRate_8 rfl hl (by decide) rfl (fun ls hl => ?_)
  refine lv_aload_n hx hb dX2_changeRate_9 rfl (lv_at hl 1 rfl) ?_
  refine va_get (D := D) (ci := 4) (v := .ref (g 14)) (C := RX2) (T := TX2) (N := 12) hx hb hts inX2 hown hK hP 1 rfl rfl 4 (by decide) (hts _ wF_X2_23) (fun _ h9 => h9) rfl dX2_changeRate_10 ?_
  refine lv_iload_n hx hb dX2_changeRate_13 rfl (lv_at hl 2 rfl) ?_
  refine lv_bipush (v := (-100)) hx hb dX2_changeRate_14 (by decide) ?_
  refine lv_bipush (v := 100) hx hb dX2_changeRate_16 (by decide) ?_
  refine lv_iload_n hx hb dX2_changeRate_18 rfl (lv_at hl 0 rfl) ?_
  refine va_mmin hx hb (by rw [hml]; exact hl.1.symm) hown (hts _ wM_X2_97) (hts _ wT_Lib_Math_min_name) (hts _ wI_Math) (hts _ wC_Lib_Math_min) (by decide) (Nat.le_of_ble_eq_true rfl) (Nat.zero_le _) (Nat.zero_le _) dX2_changeRate_19 ?_
  refine va_mmax hx hb (by rw [hml]; exact hl.1.symm) hown (hts _ wM_X2_101) (hts _ wT_Lib_Math_max_name) (hts _ wI_Math) (hts _ wC_Lib_Math_max) (by decide) (Nat.le_of_ble_eq_true rfl) (Nat.zero_le _) (Nat.zero_le _) dX2_changeRate_22 ?_
  refine k_int (y := (clp (X 4 j + more))) rfl ?_
  refine k_iast (D := D) (f := X 4) (ws' := cw g cI cZ sl mi n (sX X 4 j (clp (X 4 j + more))) cy ss ds fs) hx hb hK hP hD hS 8 0 rfl rfl j rfl (by omega) (by omega) rfl dX2_changeRate_25 (fun H locs hP hD hS => ?_)
  refine lv_aload_n hx hb dX2_changeRate_26 rfl (lv_at hl 1 rfl) ?_
  refine va_get (D := D) (ci := 4) (v := .ref (g 14)) (C := RX2) (T := TX2) (N := 12) hx hb hts inX2 hown hK hP 1 rfl rfl 4 (by decide) (hts _ wF_X2_23) (fun _ h9 => h9) rfl dX2_changeRate_27 ?_
  refine lv_iload_n hx hb dX2_changeRate_30 rfl (lv_at hl 2 rfl) ?_
  refine k_iald (D := D) (f := (sX X 4 j (clp (X 4 j + more))) 4) hx hb hK hP 8 0 rfl rfl j rfl (by omega) (by omega) dX2_changeRate_31 ?_
  refine k_int (y := (clp (X 4 j + more))) sX_at ?_
  refine lv_iload_n hx hb dX2_changeRate_32 rfl (lv_at hl 0 rfl) ?_
  refine lv_icmp_eq (tgt := 43) hx hb dX2_changeRate_33 (by decide) (fun c33 => ?_) (fun c33 => ?_)
  · skip
    exact ret (sX X 4 j (clp (X 4 j + more))) _ _ _ _ dX2_changeRate_43 hP hD hS (by first | exact ite_p c33 | exact ite_n (fun h => h c33))
  · skip
    refine lv_aload_n hx hb dX2_changeRate_36 rfl (lv_at hl 1 rfl) ?_
    refine va_get (D := D) (ci := 4) (v := .ref (g 11)) (C := RX2) (T := TX2) (N := 12) hx hb hts inX2 hown hK hP 1 rfl rfl 1 (by decide) (hts _ wF_X2_13) (fun _ h9 => h9) rfl dX2_changeRate_37 ?_
    refine lv_iload_n hx hb dX2_changeRate_40 rfl (lv_at hl 2 rfl) ?_
    refine lv_iconst (v := 3) hx hb dX2_changeRate_41 (by decide) ?_
    refine k_iast (D := D) (f := X 1) (ws' := cw g cI cZ sl mi n (sX (sX X 4 j (clp (X 4 j + more))) 1 j 3) cy ss ds fs) hx hb hK hP hD hS 5 0 rfl rfl j rfl (by omega) (by omega) rfl dX2_changeRate_42 (fun H locs hP hD hS => ?_)
    exact ret (sX (sX X 4 j (clp (X 4 j + more))) 1 j 3) _ _ _ _ dX2_changeRate_43 hP hD hS (by first | exact ite_p c33 | exact ite_n (fun h => h c33))
set_option maxHeartbeats 4000000 in
set_option maxRecDepth 100000 in
theorem c_X2_apply {l : Launch} {D : va_G} {cI cZ cL : ClassId} {g : Nat → Nat} {sl mi n : Nat} {X : Nat → Nat → Int32} {cy ss ds fs : Nat} (hn : n ≤ 16) (j : Nat) (hj : j ≤ n) (mid odd : Int32) : KV l yX2_apply (.code yX2_apply cX2_apply 5 none) 2 D (tyz cI cZ cL) [.ref (g 1), .int (nI j), .int mid, .int odd] (cw g cI cZ sl mi n X cy ss ds fs) (fun u => AP X u j mid odd ∧ (∀ i, i ≠ j → ∀ a, u a i = X a i) ∧ ∀ a, a ≠ 1 → a ≠ 2 → a ≠ 4 → a ≠ 9 → a ≠ 10 → u a = X a) (fun u : Nat → Nat → Int32 => cw g cI cZ sl mi n u cy ss ds fs) := by
  refine KN.of (own := RX2) (lvs := [(0, .ref (g 1)), (1, .int (nI j)), (2, .int mid), (3, .int odd)]) (by decide) rfl (Nat.le_of_ble_eq_true rfl) rfl ?_
  intro p e s m args below meth c Q C hK hN A hA hP hD hS hin ret ls hl
  obtain ⟨hx, hb, hml, hown, hts, hr9, hlk9⟩ := id C
  have L20 : ∀ (q : Int32) (ls : Array Slot), (q = if X 10 j ≠ 0 then X 9 j else 0) → (lv_has ls 5 [(0, .ref (g 1)), (1, .int (nI j)), (2, .int mid), (3, .int odd)]) → W p l e (rmK 2) s m args below meth c s.heap [] 0 0 Q (F0 m 20 ls [.int q, .int mid]) := by
    intro q ls hq hl
    refine lv_iadd hx hb dX2_apply_20 ?_
    refine lv_istore (lv' := [(4, .int (mid + q)), (0, .ref (g 1)), (1, .int (nI j)), (2, .int mid), (3, .int odd)]) hx hb dX2_apply_21 hl (by decide) rfl (fun ls hl => ?_)
    refine lv_aload_n hx hb dX2_apply_23 rfl (lv_at hl 1 rfl) ?_
    refine va_get (D := D) (ci := 4) (v := .ref (g 19)) (C := RX2) (T := TX2) (N := 12) hx hb hts inX2 hown hK hP 1 rfl rfl 9 (by decide) (hts _ wF_X2_39) (fun _ h9 => h9) rfl dX2_apply_24 ?_
    refine lv_iload_n hx hb dX2_apply_27 rfl (lv_at hl 2 rfl) ?_
    refine lv_iload_n hx hb dX2_apply_28 rfl (lv_at hl 3 rfl) ?_
    refine k_iast (D := D) (f := X 9) (ws' := cw g cI cZ sl mi n (sX X 9 j mid) cy ss ds fs) hx hb hK hP hD hS 13 0 rfl rfl j rfl (by omega) (by omega) rfl dX2_apply_29 (fun H locs hP hD hS => ?_)
    refine lv_aload_n hx hb dX2_apply_30 rfl (lv_at hl 1 rfl) ?_
    refine va_get (D := D) (ci := 4) (v := .ref (g 20)) (C := RX2) (T := TX2) (N := 12) hx hb hts inX2 hown hK hP 1 rfl rfl 10 (by decide) (hts _ wF_X2_42) (fun _ h9 => h9) rfl dX2_apply_31 ?_
    refine lv_iload_n hx hb dX2_apply_34 rfl (lv_at hl 2 rfl) ?_
    refine lv_iconst (v := 1) hx hb dX2_apply_35 (by decide) ?_
    refine k_zast (D := D) (f := X 10) (ws' := cw g cI cZ sl mi n (sX (sX X 9 j mid) 10 j 1) cy ss ds fs) hx hb hK hP hD hS 14 1 rfl rfl j rfl (by omega) (by omega) rfl rfl dX2_apply_36 (fun H locs hP hD hS => ?_)
    refine lv_iload_n hx hb dX2_apply_37 rfl (lv_at hl 3 rfl) ?_
    refine lv_sipush (v := 500) hx hb dX2_apply_38 (by decide) ?_
    refine lv_icmp_gt (tgt := 51) hx hb dX2_apply_41 (by decide) (fun c41 => ?_) (fun c41 => ?_)
    · skip
      refine lv_aload_n hx hb dX2_apply_51 rfl (lv_at hl 1 rfl) ?_
      refine va_get (D := D) (ci := 4) (v := .ref (g 11)) (C := RX2) (T := TX2) (N := 12) hx hb hts inX2 hown hK hP 1 rfl rfl 1 (by decide) (hts _ wF_X2_13) (fun _ h9 => h9) rfl dX2_apply_52 ?_
      refine lv_iload_n hx hb dX2_apply_55 rfl (lv_at hl 2 rfl) ?_
      refine lv_iconst (v := 4) hx hb dX2_apply_56 (by decide) ?_
      refine k_iast (D := D) (f := X 1) (ws' := cw g cI cZ sl mi n (sX (sX (sX X 9 j mid) 10 j 1) 1 j 4) cy ss ds fs) hx hb hK hP hD hS 5 0 rfl rfl j rfl (by omega) (by omega) rfl dX2_apply_57 (fun H locs hP hD hS => ?_)
      exact ret (sX (sX (sX X 9 j mid) 10 j 1) 1 j 4) _ _ _ _ dX2_apply_58 hP hD hS (ap_post hq (by first | exact Or.inl ⟨Or.inl c41, rfl⟩ | exact Or.inl ⟨Or.inr (Int32.not_le.mp c48), rfl⟩ | exact Or.inr ⟨fun z => z.elim c41 (i32_nle c48), Or.inl ⟨c70, rfl⟩⟩ | exact Or.inr ⟨fun z => z.elim c41 (i32_nle c48), Or.inr ⟨c70, hr79⟩⟩))
    · skip
      refine lv_iload_n hx hb dX2_apply_44 rfl (lv_at hl 3 rfl) ?_
      refine lv_sipush (v := (-500)) hx hb dX2_apply_45 (by decide) ?_
      refine lv_icmp_ge (tgt := 59) hx hb dX2_apply_48 (by decide) (fun c48 => ?_) (fun c48 => ?_)
      · skip
        refine lv_aload_n hx hb dX2_apply_59 rfl (lv_at hl 1 rfl) ?_
        refine va_get (D := D) (ci := 4) (v := .ref (g 12)) (C := RX2) (T := TX2) (N := 12) hx hb hts inX2 hown hK hP 1 rfl rfl 2 (by decide) (hts _ wF_X2_17) (fun _ h9 => h9) rfl dX2_apply_60 ?_
        refine lv_iload_n hx hb dX2_apply_63 rfl (lv_at hl 2 rfl) ?_
        refine lv_dup2_11 hx hb dX2_apply_64 rfl rfl ?_
        refine k_iald (D := D) (f := X 2) hx hb hK hP 6 0 rfl rfl j rfl (by omega) (by omega) dX2_apply_65 ?_
        refine lv_iload_n hx hb dX2_apply_66 rfl (lv_at hl 3 rfl) ?_
        refine lv_iadd hx hb dX2_apply_67 ?_
        refine k_iast (D := D) (f := X 2) (ws' := cw g cI cZ sl mi n (sX (sX (sX X 9 j mid) 10 j 1) 2 j ((X 2 j) + mid)) cy ss ds fs) hx hb hK hP hD hS 6 0 rfl rfl j rfl (by omega) (by omega) rfl dX2_apply_68 (fun H locs hP hD hS => ?_)
        refine lv_iload_n hx hb dX2_apply_69 rfl (lv_at hl 4 rfl) ?_
        refine lv_if_eq (tgt := 82) hx hb dX2_apply_70 (by decide) (fun c70 => ?_) (fun c70 => ?_)
        · skip
          exact ret (sX (sX (sX X 9 j mid) 10 j 1) 2 j ((X 2 j) + mid)) _ _ _ _ dX2_apply_82 hP hD hS (ap_post hq (by first | exact Or.inl ⟨Or.inl c41, rfl⟩ | exact Or.inl ⟨Or.inr (Int32.not_le.mp c48), rfl⟩ | exact Or.inr ⟨fun z => z.elim c41 (i32_nle c48), Or.inl ⟨c70, rfl⟩⟩ | exact Or.inr ⟨fun z => z.elim c41 (i32_nle c48), Or.inr ⟨c70, hr79⟩⟩))
        · skip
          refine lv_aload_n hx hb dX2_apply_73 rfl (lv_at hl 1 rfl) ?_
          refine lv_iload_n hx hb dX2_apply_74 rfl (lv_at hl 2 rfl) ?_
          refine lv_iload hx hb dX2_apply_75 (lv_at hl 0 rfl) ?_
          refine lv_iconst (v := 4) hx hb dX2_apply_77 (by decide) ?_
          refine lv_idiv hx hb dX2_apply_78 (by decide) ?_
          refine k_callV (D := D) C hK hN hP hD hS hA (c_X2_changeRate hn j (by omega) ((mid + q) / 4)) hl cf_yX2_changeRate wM_X2_94 1 4 rfl rfl rfl rfl (Nat.le_of_ble_eq_true rfl) ⟨by decide, by decide⟩ ⟨Nat.le_of_ble_eq_true rfl, Nat.le_of_ble_eq_true rfl⟩ dX2_apply_79 (fun u79 H locs hr79 hP hD hS _ _ => ?_)
          have hP : va_P D vwCl (cw g cI cZ sl mi n u79 cy ss ds fs) H := hP
          have hD : va_D A (cw g cI cZ sl mi n u79 cy ss ds fs) := hD
          exact ret u79 _ _ _ _ dX2_apply_82 hP hD hS (ap_post hq (by first | exact Or.inl ⟨Or.inl c41, rfl⟩ | exact Or.inl ⟨Or.inr (Int32.not_le.mp c48), rfl⟩ | exact Or.inr ⟨fun z => z.elim c41 (i32_nle c48), Or.inl ⟨c70, rfl⟩⟩ | exact Or.inr ⟨fun z => z.elim c41 (i32_nle c48), Or.inr ⟨c70, hr79⟩⟩))
      · skip
        refine lv_aload_n hx hb dX2_apply_51 rfl (lv_at hl 1 rfl) ?_
        refine va_get (D := D) (ci := 4) (v := .ref (g 11)) (C := RX2) (T := TX2) (N := 12) hx hb hts inX2 hown hK hP 1 rfl rfl 1 (by decide) (hts _ wF_X2_13) (fun _ h9 => h9) rfl dX2_apply_52 ?_
        refine lv_iload_n hx hb dX2_apply_55 rfl (lv_at hl 2 rfl) ?_
        refine lv_iconst (v := 4) hx hb dX2_apply_56 (by decide) ?_
        refine k_iast (D := D) (f := X 1) (ws' := cw g cI cZ sl mi n (sX (sX (sX X 9 j mid) 10 j 1) 1 j 4) cy ss ds fs) hx hb hK hP hD hS 5 0 rfl rfl j rfl (by omega) (by omega) rfl dX2_apply_57 (fun H locs hP hD hS => ?_)
        exact ret (sX (sX (sX X 9 j mid) 10 j 1) 1 j 4) _ _ _ _ dX2_apply_58 hP hD hS (ap_post hq (by first | exact Or.inl ⟨Or.inl c41, rfl⟩ | exact Or.inl ⟨Or.inr (Int32.not_le.mp c48), rfl⟩ | exact Or.inr ⟨fun z => z.elim c41 (i32_nle c48), Or.inl ⟨c70, rfl⟩⟩ | exact Or.inr ⟨fun z => z.elim c41 (i32_nle c48), Or.inr ⟨c70, hr79⟩⟩))
  refine lv_iload_n hx hb dX2_apply_0 rfl (lv_at hl 2 rfl) ?_
  refine lv_aload_n hx hb dX2_apply_1 rfl (lv_at hl 0 rfl) ?_
  refine va_get (D := D) (ci := 4) (v := .ref (g 20)) (C := RX2) (T := TX2) (N := 12) hx hb hts inX2 hown hK hP 1 rfl rfl 10 (by decide) (hts _ wF_X2_42) (fun _ h9 => h9) rfl dX2_apply_2 ?_
  refine lv_iload_n hx hb dX2_apply_5 rfl (lv_at hl 1 rfl) ?_
  refine k_zald (D := D) (f := X 10) hx hb hK hP 14 1 rfl rfl j rfl (by omega) (by omega) dX2_apply_6 ?_
  refine lv_if_eq (tgt := 19) hx hb dX2_apply_7 (by decide) (fun c7 => ?_) (fun c7 => ?_)
  · skip
    refine lv_iconst (v := 0) hx hb dX2_apply_19 (by decide) ?_
    exact L20 0 _ (by first | exact ite_p c7 | exact ite_n (fun z => z c7)) (lv_sub hl [0, 1, 2, 3] rfl)
  · skip
    refine lv_aload_n hx hb dX2_apply_10 rfl (lv_at hl 0 rfl) ?_
    refine va_get (D := D) (ci := 4) (v := .ref (g 19)) (C := RX2) (T := TX2) (N := 12) hx hb hts inX2 hown hK hP 1 rfl rfl 9 (by decide) (hts _ wF_X2_39) (fun _ h9 => h9) rfl dX2_apply_11 ?_
    refine lv_iload_n hx hb dX2_apply_14 rfl (lv_at hl 1 rfl) ?_
    refine k_iald (D := D) (f := X 9) hx hb hK hP 13 0 rfl rfl j rfl (by omega) (by omega) dX2_apply_15 ?_
    refine lv_goto (tgt := 20) hx hb dX2_apply_16 (by decide) ?_
    exact L20 (X 9 j) _ (by first | exact ite_p c7 | exact ite_n (fun z => z c7)) (lv_sub hl [0, 1, 2, 3] rfl)
set_option maxHeartbeats 4000000 in
set_option maxRecDepth 100000 in
theorem c_X2_correct {l : Launch} {D : va_G} {cI cZ cL : ClassId} {g : Nat → Nat} {sl mi n : Nat} {X : Nat → Nat → Int32} {cy ss ds fs : Nat} (hn : n ≤ 16) (odd : Int32) : KV l yX2_correct (.code yX2_correct cX2_correct 3 none) 3 D (tyz cI cZ cL) [.ref (g 1), .int odd] (cw g cI cZ sl mi n X cy ss ds fs) (fun u => (∀ j, 1 ≤ j → j ≤ n → CR X u n j odd) ∧ ∀ a, a ≠ 1 → a ≠ 2 → a ≠ 4 → a ≠ 8 → a ≠ 9 → a ≠ 10 → a ≠ 11 → u a = X a) (fun u : Nat → Nat → Int32 => cw g cI cZ sl mi n u cy ss ds fs) := by
  refine KN.of (own := RX2) (lvs := [(0, .ref (g 1)), (1, .int odd)]) (by decide) rfl (Nat.le_of_ble_eq_true rfl) rfl ?_
  intro p e s m args below meth c Q C hK hN A hA hP hD hS hin ret ls hl
  obtain ⟨hx, hb, hml, hown, hts, hr9, hlk9⟩ := id C
  refine lv_iconst (v := 1) hx hb dX2_correct_0 (by decide) ?_
  refine lv_istore_n (lv' := [(2, .int 1), (0, .ref (g 1)), (1, .int odd)]) hx hb dX2_correct_1 rfl hl (by decide) rfl (fun ls hl => ?_)
  have L2 : ∀ (kf : Nat) (i : Nat) (X' : Nat → Nat → Int32) (H : Heap) (locs : List Loc) (ls : Array Slot), (n + 1 - i < kf) → (1 ≤ i) → (i ≤ n + 1) → (∀ j, 1 ≤ j → j < i → X 1 j = 2 → X' 8 j = mpv (X 1) (X 7) (X 2) n j) → (∀ a, a ≠ 8 → a ≠ 11 → X' a = X a) → (va_P D vwCl (cw g cI cZ sl mi n X' cy ss ds fs) H) → (va_D A (cw g cI cZ sl mi n X' cy ss ds fs)) → (va_S A s.heap H locs) → (lv_has ls 3 [(0, .ref (g 1)), (1, .int odd), (2, .int (nI i))]) → W p l e (rmK 3) s m args below meth c H locs 0 0 Q (F0 m 2 ls []) := by
    intro kf
    induction kf with
    | zero =>
      intro i X' H locs ls hm
      exact absurd hm (Nat.not_lt_zero _)
    | succ kf ih2 =>
      intro i X' H locs ls hm h1 h2 h3 h5 hP hD hS hl
      refine lv_iload_n hx hb dX2_correct_2 rfl (lv_at hl 2 rfl) ?_
      refine lv_aload_n hx hb dX2_correct_3 rfl (lv_at hl 0 rfl) ?_
      refine va_get (D := D) (ci := 4) (v := .int (nI n)) (C := RX2) (T := TX2) (N := 12) hx hb hts inX2 hown hK hP 1 rfl rfl 0 (by decide) (hts _ wF_X2_7) (fun _ h9 => h9) rfl dX2_correct_4 ?_
      refine k_icmp_gt (tgt := 35) hx hb i n rfl rfl (by omega) (by omega) dX2_correct_7 (by decide) (fun c7 => ?_) (fun c7 => ?_)
      · skip
        refine lv_iconst (v := 1) hx hb dX2_correct_35 (by decide) ?_
        refine lv_istore_n (lv' := [(2, .int 1), (0, .ref (g 1)), (1, .int odd)]) hx hb dX2_correct_36 rfl hl (by decide) rfl (fun ls hl => ?_)
        have L37 : ∀ (kf : Nat) (i : Nat) (Z : Nat → Nat → Int32) (H : Heap) (locs : List Loc) (ls : Array Slot), (n + 1 - i < kf) → (1 ≤ i) → (i ≤ n + 1) → (∀ j, 1 ≤ j → j < i → CR X Z n j odd) → (∀ j, i ≤ j → ∀ a, a ≠ 8 → a ≠ 11 → Z a j = X a j) → (∀ j, 1 ≤ j → j ≤ n → X 1 j = 2 → Z 8 j = mpv (X 1) (X 7) (X 2) n j) → (∀ a, a ≠ 1 → a ≠ 2 → a ≠ 4 → a ≠ 8 → a ≠ 9 → a ≠ 10 → a ≠ 11 → Z a = X a) → (va_P D vwCl (cw g cI cZ sl mi n Z cy ss ds fs) H) → (va_D A (cw g cI cZ sl mi n Z cy ss ds fs)) → (va_S A s.heap H locs) → (lv_has ls 3 [(0, .ref (g 1)), (1, .int odd), (2, .int (nI i))]) → W p l e (rmK 3) s m args below meth c H locs 0 0 Q (F0 m 37 ls []) := by
          intro kf
          induction kf with
          | zero =>
            intro i Z H locs ls hm
            exact absurd hm (Nat.not_lt_zero _)
          | succ kf ih37 =>
            intro i Z H locs ls hm h1 h2 k3 k4 k6 k5 hP hD hS hl
            refine lv_iload_n hx hb dX2_correct_37 rfl (lv_at hl 2 rfl) ?_
            refine lv_aload_n hx hb dX2_correct_38 rfl (lv_at hl 0 rfl) ?_
            refine va_get (D := D) (ci := 4) (v := .int (nI n)) (C := RX2) (T := TX2) (N := 12) hx hb hts inX2 hown hK hP 1 rfl rfl 0 (by decide) (hts _ wF_X2_7) (fun _ h9 => h9) rfl dX2_correct_39 ?_
            refine k_icmp_gt (tgt := 81) hx hb i n rfl rfl (by omega) (by omega) dX2_correct_42 (by decide) (fun c42 => ?_) (fun c42 => ?_)
            · skip
              exact ret Z _ _ _ _ dX2_correct_81 hP hD hS ⟨fun j a b => k3 j a (by omega), k5⟩
            · skip
              refine lv_aload_n hx hb dX2_correct_45 rfl (lv_at hl 0 rfl) ?_
              refine lv_iload_n hx hb dX2_correct_46 rfl (lv_at hl 2 rfl) ?_
              refine k_callR (D := D) C hK hN hP hD (c_X2_isActive hn i (by omega)) hl cf_yX2_isActive wM_X2_48 1 4 rfl rfl rfl rfl (Nat.le_of_ble_eq_true rfl) ⟨by decide, by decide⟩ ⟨Nat.le_of_ble_eq_true rfl, Nat.le_of_ble_eq_true rfl⟩ dX2_correct_47 (fun r47 hr47 => ?_)
              have hr47 : r47 = (if Z 1 i = 2 then 1 else 0) := hr47
              subst hr47
              refine k_ifeq_P (P := (Z 1 i = 2)) (tgt := 68) hx hb rfl dX2_correct_50 (by decide) (fun c50 => ?_) (fun c50 => ?_)
              · skip
                refine lv_aload_n hx hb dX2_correct_68 rfl (lv_at hl 0 rfl) ?_
                refine va_get (D := D) (ci := 4) (v := .ref (g 20)) (C := RX2) (T := TX2) (N := 12) hx hb hts inX2 hown hK hP 1 rfl rfl 10 (by decide) (hts _ wF_X2_42) (fun _ h9 => h9) rfl dX2_correct_69 ?_
                refine lv_iload_n hx hb dX2_correct_72 rfl (lv_at hl 2 rfl) ?_
                refine lv_iconst (v := 0) hx hb dX2_correct_73 (by decide) ?_
                refine k_zast (D := D) (f := Z 10) (ws' := cw g cI cZ sl mi n (sX Z 10 i 0) cy ss ds fs) hx hb hK hP hD hS 14 1 rfl rfl i rfl (by omega) (by omega) rfl rfl dX2_correct_74 (fun H locs hP hD hS => ?_)
                refine k_iinc (k := 2) (lv' := [(2, .int (nI (i + 1))), (0, .ref (g 1)), (1, .int odd)]) hx hb i rfl dX2_correct_75 hl rfl (by decide) rfl (fun ls hl => ?_)
                refine lv_goto (tgt := 37) hx hb dX2_correct_78 (by decide) ?_
                exact ih37 (i + 1) (sX Z 10 i 0) _ _ _ (by omega) (by omega) (by omega) (by first | exact cb_set3 h1 h2 k3 k4 k6 c50 hr62 | exact cb_keep3 k3 k4 c50) (by first | exact cb_set4 k4 hr62 | exact cb_keep4 k4) (by first | exact cb_set6 k6 hr62 | exact k6 | exact fun j a b z => by rw [sX_ne (by decide)]; exact k6 j a b z) (by first | exact cb_set5 k5 hr62 | exact fun a h1 h2 h4 h8 h9 h10 h11 => by rw [sX_ne h10]; exact k5 a h1 h2 h4 h8 h9 h10 h11) hP hD hS (lv_sub hl [1, 2, 0] rfl)
              · skip
                refine lv_aload_n hx hb dX2_correct_53 rfl (lv_at hl 0 rfl) ?_
                refine lv_iload_n hx hb dX2_correct_54 rfl (lv_at hl 2 rfl) ?_
                refine lv_aload_n hx hb dX2_correct_55 rfl (lv_at hl 0 rfl) ?_
                refine va_get (D := D) (ci := 4) (v := .ref (g 18)) (C := RX2) (T := TX2) (N := 12) hx hb hts inX2 hown hK hP 1 rfl rfl 8 (by decide) (hts _ wF_X2_36) (fun _ h9 => h9) rfl dX2_correct_56 ?_
                refine lv_iload_n hx hb dX2_correct_59 rfl (lv_at hl 2 rfl) ?_
                refine k_iald (D := D) (f := Z 8) hx hb hK hP 12 0 rfl rfl i rfl (by omega) (by omega) dX2_correct_60 ?_
                refine lv_iload_n hx hb dX2_correct_61 rfl (lv_at hl 1 rfl) ?_
                refine k_callV (D := D) C hK hN hP hD hS hA (c_X2_apply hn i (by omega) (Z 8 i) odd) hl cf_yX2_apply wM_X2_87 1 4 rfl rfl rfl rfl (Nat.le_of_ble_eq_true rfl) ⟨by decide, by decide⟩ ⟨Nat.le_of_ble_eq_true rfl, Nat.le_of_ble_eq_true rfl⟩ dX2_correct_62 (fun u62 H locs hr62 hP hD hS _ _ => ?_)
                have hP : va_P D vwCl (cw g cI cZ sl mi n u62 cy ss ds fs) H := hP
                have hD : va_D A (cw g cI cZ sl mi n u62 cy ss ds fs) := hD
                refine lv_goto (tgt := 75) hx hb dX2_correct_65 (by decide) ?_
                refine k_iinc (k := 2) (lv' := [(2, .int (nI (i + 1))), (0, .ref (g 1)), (1, .int odd)]) hx hb i rfl dX2_correct_75 hl rfl (by decide) rfl (fun ls hl => ?_)
                refine lv_goto (tgt := 37) hx hb dX2_correct_78 (by decide) ?_
                exact ih37 (i + 1) u62 _ _ _ (by omega) (by omega) (by omega) (by first | exact cb_set3 h1 h2 k3 k4 k6 c50 hr62 | exact cb_keep3 k3 k4 c50) (by first | exact cb_set4 k4 hr62 | exact cb_keep4 k4) (by first | exact cb_set6 k6 hr62 | exact k6 | exact fun j a b z => by rw [sX_ne (by decide)]; exact k6 j a b z) (by first | exact cb_set5 k5 hr62 | exact fun a h1 h2 h4 h8 h9 h10 h11 => by rw [sX_ne h10]; exact k5 a h1 h2 h4 h8 h9 h10 h11) hP hD hS (lv_sub hl [1, 2, 0] rfl)
        exact L37 ((n + 1 - 1) + 1) 1 X' _ _ _ (Nat.lt_succ_self _) (Nat.le_refl 1) (by omega) (fun j a b => absurd b (by omega)) (fun j _ a h8 h11 => by rw [h5 a h8 h11]) (fun j a b => h3 j a (by omega)) (fun a _ _ _ h8 _ _ h11 => h5 a h8 h11) hP hD hS (lv_sub hl [1, 2, 0] rfl)
      · skip
        refine lv_aload_n hx hb dX2_correct_10 rfl (lv_at hl 0 rfl) ?_
        refine lv_iload_n hx hb dX2_correct_11 rfl (lv_at hl 2 rfl) ?_
        refine k_callR (D := D) C hK hN hP hD (c_X2_isActive hn i (by omega)) hl cf_yX2_isActive wM_X2_48 1 4 rfl rfl rfl rfl (Nat.le_of_ble_eq_true rfl) ⟨by decide, by decide⟩ ⟨Nat.le_of_ble_eq_true rfl, Nat.le_of_ble_eq_true rfl⟩ dX2_correct_12 (fun r12 hr12 => ?_)
        have hr12 : r12 = (if X' 1 i = 2 then 1 else 0) := hr12
        subst hr12
        refine k_ifeq_P (P := (X' 1 i = 2)) (tgt := 29) hx hb rfl dX2_correct_15 (by decide) (fun c15 => ?_) (fun c15 => ?_)
        · skip
          refine k_iinc (k := 2) (lv' := [(2, .int (nI (i + 1))), (0, .ref (g 1)), (1, .int odd)]) hx hb i rfl dX2_correct_29 hl rfl (by decide) rfl (fun ls hl => ?_)
          refine lv_goto (tgt := 2) hx hb dX2_correct_32 (by decide) ?_
          exact ih2 (i + 1) X' _ _ _ (by omega) (by omega) (by omega) (by first | exact co_keep h3 h5 c15 | exact co_set h3 h5 hr25) (by first | exact h5 | exact co_set5 h5 hr25) hP hD hS (lv_sub hl [1, 2, 0] rfl)
        · skip
          refine lv_aload_n hx hb dX2_correct_18 rfl (lv_at hl 0 rfl) ?_
          refine va_get (D := D) (ci := 4) (v := .ref (g 18)) (C := RX2) (T := TX2) (N := 12) hx hb hts inX2 hown hK hP 1 rfl rfl 8 (by decide) (hts _ wF_X2_36) (fun _ h9 => h9) rfl dX2_correct_19 ?_
          refine lv_iload_n hx hb dX2_correct_22 rfl (lv_at hl 2 rfl) ?_
          refine lv_aload_n hx hb dX2_correct_23 rfl (lv_at hl 0 rfl) ?_
          refine lv_iload_n hx hb dX2_correct_24 rfl (lv_at hl 2 rfl) ?_
          refine k_callI (D := D) C hK hN hP hD hS hA (c_X2_findMidpoint hn i h1 (by omega)) hl cf_yX2_findMidpoint wM_X2_83 1 4 rfl rfl rfl rfl (Nat.le_of_ble_eq_true rfl) ⟨by decide, by decide⟩ ⟨Nat.le_of_ble_eq_true rfl, Nat.le_of_ble_eq_true rfl⟩ dX2_correct_25 (fun r25 u25 H locs hr25 hP hD hS _ _ => ?_)
          have hP : va_P D vwCl (cw g cI cZ sl mi n u25 cy ss ds fs) H := hP
          have hD : va_D A (cw g cI cZ sl mi n u25 cy ss ds fs) := hD
          refine k_iast (D := D) (f := u25 8) (ws' := cw g cI cZ sl mi n (sX u25 8 i r25) cy ss ds fs) hx hb hK hP hD hS 12 0 rfl rfl i rfl (by omega) (by omega) rfl dX2_correct_28 (fun H locs hP hD hS => ?_)
          refine k_iinc (k := 2) (lv' := [(2, .int (nI (i + 1))), (0, .ref (g 1)), (1, .int odd)]) hx hb i rfl dX2_correct_29 hl rfl (by decide) rfl (fun ls hl => ?_)
          refine lv_goto (tgt := 2) hx hb dX2_correct_32 (by decide) ?_
          exact ih2 (i + 1) (sX u25 8 i r25) _ _ _ (by omega) (by omega) (by omega) (by first | exact co_keep h3 h5 c15 | exact co_set h3 h5 hr25) (by first | exact h5 | exact co_set5 h5 hr25) hP hD hS (lv_sub hl [1, 2, 0] rfl)
  exact L2 ((n + 1 - 1) + 1) 1 X _ _ _ (Nat.lt_succ_self _) (Nat.le_refl 1) (by omega) (fun j a b => absurd b (by omega)) (fun _ _ _ => rfl) hP hD hS (lv_sub hl [1, 2, 0] rfl)
set_option maxHeartbeats 4000000 in
set_option maxRecDepth 100000 in
theorem c_X2_passTime {l : Launch} {D : va_G} {cI cZ cL : ClassId} {g : Nat → Nat} {sl mi n : Nat} {X : Nat → Nat → Int32} {cy ss ds fs : Nat} (hn : n ≤ 16) : KV l yX2_passTime (.code yX2_passTime cX2_passTime 2 none) 0 D (tyz cI cZ cL) [.ref (g 1)] (cw g cI cZ sl mi n X cy ss ds fs) (fun u => (∀ j, 1 ≤ j → j ≤ n → u 2 j = if X 1 j = 4 then X 2 j else X 2 j + (X 3 j + X 4 j)) ∧ ∀ a, a ≠ 2 → u a = X a) (fun u : Nat → Nat → Int32 => cw g cI cZ sl mi n u cy ss ds fs) := by
  refine KN.of (own := RX2) (lvs := [(0, .ref (g 1))]) (by decide) rfl (Nat.le_of_ble_eq_true rfl) rfl ?_
  intro p e s m args below meth c Q C hK hN A hA hP hD hS hin ret ls hl
  obtain ⟨hx, hb, hml, hown, hts, hr9, hlk9⟩ := id C
  refine lv_iconst (v := 1) hx hb dX2_passTime_0 (by decide) ?_
  refine lv_istore_n (lv' := [(1, .int 1), (0, .ref (g 1))]) hx hb dX2_passTime_1 rfl hl (by decide) rfl (fun ls hl => ?_)
  have L2 : ∀ (kf : Nat) (i : Nat) (X' : Nat → Nat → Int32) (H : Heap) (locs : List Loc) (ls : Array Slot), (n + 1 - i < kf) → (1 ≤ i) → (i ≤ n + 1) → (∀ j, 1 ≤ j → j < i → X' 2 j = if X 1 j = 4 then X 2 j else X 2 j + (X 3 j + X 4 j)) → (∀ j, i ≤ j → X' 2 j = X 2 j) → (∀ a, a ≠ 2 → X' a = X a) → (va_P D vwCl (cw g cI cZ sl mi n X' cy ss ds fs) H) → (va_D A (cw g cI cZ sl mi n X' cy ss ds fs)) → (va_S A s.heap H locs) → (lv_has ls 2 [(0, .ref (g 1)), (1, .int (nI i))]) → W p l e (rmK 0) s m args below meth c H locs 0 0 Q (F0 m 2 ls []) := by
    intro kf
    induction kf with
    | zero =>
      intro i X' H locs ls hm
      exact absurd hm (Nat.not_lt_zero _)
    | succ kf ih2 =>
      intro i X' H locs ls hm h1 h2 h3 h4 h5 hP hD hS hl
      refine lv_iload_n hx hb dX2_passTime_2 rfl (lv_at hl 1 rfl) ?_
      refine lv_aload_n hx hb dX2_passTime_3 rfl (lv_at hl 0 rfl) ?_
      refine va_get (D := D) (ci := 4) (v := .int (nI n)) (C := RX2) (T := TX2) (N := 12) hx hb hts inX2 hown hK hP 1 rfl rfl 0 (by decide) (hts _ wF_X2_7) (fun _ h9 => h9) rfl dX2_passTime_4 ?_
      refine k_icmp_gt (tgt := 48) hx hb i n rfl rfl (by omega) (by omega) dX2_passTime_7 (by decide) (fun c7 => ?_) (fun c7 => ?_)
      · skip
        exact ret X' _ _ _ _ dX2_passTime_48 hP hD hS ⟨fun j a b => h3 j a (by omega), h5⟩
      · skip
        refine lv_aload_n hx hb dX2_passTime_10 rfl (lv_at hl 0 rfl) ?_
        refine va_get (D := D) (ci := 4) (v := .ref (g 11)) (C := RX2) (T := TX2) (N := 12) hx hb hts inX2 hown hK hP 1 rfl rfl 1 (by decide) (hts _ wF_X2_13) (fun _ h9 => h9) rfl dX2_passTime_11 ?_
        refine lv_iload_n hx hb dX2_passTime_14 rfl (lv_at hl 1 rfl) ?_
        refine k_iald (D := D) (f := X' 1) hx hb hK hP 5 0 rfl rfl i rfl (by omega) (by omega) dX2_passTime_15 ?_
        refine lv_iconst (v := 4) hx hb dX2_passTime_16 (by decide) ?_
        refine lv_icmp_eq (tgt := 42) hx hb dX2_passTime_17 (by decide) (fun c17 => ?_) (fun c17 => ?_)
        · skip
          refine k_iinc (k := 1) (lv' := [(1, .int (nI (i + 1))), (0, .ref (g 1))]) hx hb i rfl dX2_passTime_42 hl rfl (by decide) rfl (fun ls hl => ?_)
          refine lv_goto (tgt := 2) hx hb dX2_passTime_45 (by decide) ?_
          exact ih2 (i + 1) X' _ _ _ (by omega) (by omega) (by omega) (by intro j a b; (try rw [sX_app]); have e1 := h5 1 (by decide); have e3 := h5 3 (by decide); have e4 := h5 4 (by decide); grind) (by intro j a; (try rw [sX_app]); grind) (by first | exact h5 | exact fun a ha => by rw [sX_ne ha]; exact h5 a ha) hP hD hS (lv_sub hl [1, 0] rfl)
        · skip
          refine lv_aload_n hx hb dX2_passTime_20 rfl (lv_at hl 0 rfl) ?_
          refine va_get (D := D) (ci := 4) (v := .ref (g 12)) (C := RX2) (T := TX2) (N := 12) hx hb hts inX2 hown hK hP 1 rfl rfl 2 (by decide) (hts _ wF_X2_17) (fun _ h9 => h9) rfl dX2_passTime_21 ?_
          refine lv_iload_n hx hb dX2_passTime_24 rfl (lv_at hl 1 rfl) ?_
          refine lv_dup2_11 hx hb dX2_passTime_25 rfl rfl ?_
          refine k_iald (D := D) (f := X' 2) hx hb hK hP 6 0 rfl rfl i rfl (by omega) (by omega) dX2_passTime_26 ?_
          refine lv_aload_n hx hb dX2_passTime_27 rfl (lv_at hl 0 rfl) ?_
          refine va_get (D := D) (ci := 4) (v := .ref (g 13)) (C := RX2) (T := TX2) (N := 12) hx hb hts inX2 hown hK hP 1 rfl rfl 3 (by decide) (hts _ wF_X2_20) (fun _ h9 => h9) rfl dX2_passTime_28 ?_
          refine lv_iload_n hx hb dX2_passTime_31 rfl (lv_at hl 1 rfl) ?_
          refine k_iald (D := D) (f := X' 3) hx hb hK hP 7 0 rfl rfl i rfl (by omega) (by omega) dX2_passTime_32 ?_
          refine lv_aload_n hx hb dX2_passTime_33 rfl (lv_at hl 0 rfl) ?_
          refine va_get (D := D) (ci := 4) (v := .ref (g 14)) (C := RX2) (T := TX2) (N := 12) hx hb hts inX2 hown hK hP 1 rfl rfl 4 (by decide) (hts _ wF_X2_23) (fun _ h9 => h9) rfl dX2_passTime_34 ?_
          refine lv_iload_n hx hb dX2_passTime_37 rfl (lv_at hl 1 rfl) ?_
          refine k_iald (D := D) (f := X' 4) hx hb hK hP 8 0 rfl rfl i rfl (by omega) (by omega) dX2_passTime_38 ?_
          refine lv_iadd hx hb dX2_passTime_39 ?_
          refine lv_iadd hx hb dX2_passTime_40 ?_
          refine k_iast (D := D) (f := X' 2) (ws' := cw g cI cZ sl mi n (sX X' 2 i ((X' 2 i) + ((X' 3 i) + (X' 4 i)))) cy ss ds fs) hx hb hK hP hD hS 6 0 rfl rfl i rfl (by omega) (by omega) rfl dX2_passTime_41 (fun H locs hP hD hS => ?_)
          refine k_iinc (k := 1) (lv' := [(1, .int (nI (i + 1))), (0, .ref (g 1))]) hx hb i rfl dX2_passTime_42 hl rfl (by decide) rfl (fun ls hl => ?_)
          refine lv_goto (tgt := 2) hx hb dX2_passTime_45 (by decide) ?_
          exact ih2 (i + 1) (sX X' 2 i ((X' 2 i) + ((X' 3 i) + (X' 4 i)))) _ _ _ (by omega) (by omega) (by omega) (by intro j a b; (try rw [sX_app]); have e1 := h5 1 (by decide); have e3 := h5 3 (by decide); have e4 := h5 4 (by decide); grind) (by intro j a; (try rw [sX_app]); grind) (by first | exact h5 | exact fun a ha => by rw [sX_ne ha]; exact h5 a ha) hP hD hS (lv_sub hl [1, 0] rfl)
  exact L2 ((n + 1 - 1) + 1) 1 X _ _ _ (Nat.lt_succ_self _) (Nat.le_refl 1) (by omega) (fun j a b => absurd b (by omega)) (fun _ _ => rfl) (fun _ _ => rfl) hP hD hS (lv_sub hl [1, 0] rfl)
