/-! the class's dynamic frames, and the class -/
theorem rm_step {X X' : Nat → Nat → Int32} {at0 i : Nat} (h1 : at0 ≤ i) (h3 : ∀ a, (a = 17 ∨ a = 18 ∨ a = 19) → (∀ k, k < i → X' a k = if k < at0 then X a k else X a (k + 1)) ∧ ∀ k, i ≤ k → X' a k = X a k) :
    ∀ a, (a = 17 ∨ a = 18 ∨ a = 19) → (∀ k, k < i + 1 → sX (sX (sX X' 17 i (X' 17 (i + 1))) 18 i (X' 18 (i + 1))) 19 i (X' 19 (i + 1)) a k = if k < at0 then X a k else X a (k + 1)) ∧ ∀ k, i + 1 ≤ k → sX (sX (sX X' 17 i (X' 17 (i + 1))) 18 i (X' 18 (i + 1))) 19 i (X' 19 (i + 1)) a k = X a k := by
  intro a ha
  obtain ⟨q1, q2⟩ := h3 a ha
  have key : ∀ k, sX (sX (sX X' 17 i (X' 17 (i + 1))) 18 i (X' 18 (i + 1))) 19 i (X' 19 (i + 1)) a k = if k = i then X' a (i + 1) else X' a k := by
    intro k
    rw [sX_app, sX_app, sX_app]
    rcases ha with rfl | rfl | rfl <;> by_cases e : k = i <;> simp [e]
  refine ⟨fun k hk => ?_, fun k hk => ?_⟩
  · rw [key]
    by_cases e : k = i
    · subst e
      rw [if_pos rfl, if_neg (by omega)]
      exact q2 (k + 1) (by omega)
    · rw [if_neg e]; exact q1 k (by omega)
  · rw [key, if_neg (by omega)]
    exact q2 k (by omega)
theorem dy_rm {X u : Nat → Nat → Int32} {n ds k : Nat} (hk : k < ds) (hY : DyI (X 17) (X 19) n ds) (h : ∀ a, (a = 17 ∨ a = 18 ∨ a = 19) → ∀ j, j < ds - 1 → u a j = if j < k then X a j else X a (j + 1)) : DyI (u 17) (u 19) n (ds - 1) := by
  intro j hj
  rw [h 17 (Or.inl rfl) j hj, h 19 (Or.inr (Or.inr rfl)) j hj]
  split
  · exact hY j (by omega)
  · exact hY (j + 1) (by omega)
theorem dy_take {X u : Nat → Nat → Int32} {p : Nat → T3 → Bool} {mi f id m d k ds ln : Nat} (h : m ≤ mi) (hn : (dl X 17 18 19 ds).findIdx? (p id) = some k) (hl : dlen (dl X 17 18 19 ds) k = ln) (hf : m + ln - 1 ≤ mi) (hk : k < ds) (hu : ∀ a, (a = 17 ∨ a = 18 ∨ a = 19) → ∀ j, j < ds - 1 → u a j = if j < k then X a j else X a (j + 1)) :
    dyn p mi f (id + 1) (dl u 17 18 19 (ds - 1)) (m + ln) (d + 1) = dyn p mi (f + 1) id (dl X 17 18 19 ds) m d := by
  rw [dyn_take h hn (by rw [hl]; exact hf), hl, dl_rm hk hu]
set_option maxHeartbeats 4000000 in
set_option maxRecDepth 100000 in
theorem c_X0_isFull {l : Launch} {D : va_G} {cI cZ cL : ClassId} {g : Nat → Nat} {sl mi n : Nat} {X : Nat → Nat → Int32} {cy ss ds fs : Nat} (hd : ds ≤ 100) : KR l yX0_isFull (.code yX0_isFull cX0_isFull 1 (some .boolean)) 0 D (tyz cI cZ cL) [.ref (g 3)] (cw g cI cZ sl mi n X cy ss ds fs) (fun r => r = if 100 ≤ ds then 1 else 0) := by
  refine KR.ofz (own := RX0) (lvs := [(0, .ref (g 3))]) (by decide) rfl (Nat.le_of_ble_eq_true rfl) rfl ?_
  intro p e s m args below meth c Q C hK hN hP hD ret ls hl
  obtain ⟨hx, hb, hml, hown, hts, hr9, hlk9⟩ := id C
  refine lv_aload_n hx hb dX0_isFull_0 rfl (lv_at hl 0 rfl) ?_
  refine va_get (D := D) (ci := 2) (v := .int (nI ds)) (C := RX0) (T := TX0) (N := 4) hx hb hts inX0 hown hK hP 3 rfl rfl 3 (by decide) (hts _ wF_X0_19) (fun _ h9 => h9) rfl dX0_isFull_1 ?_
  refine lv_bipush (v := 100) hx hb dX0_isFull_4 (by decide) ?_
  refine k_icmp_lt (tgt := 13) hx hb ds 100 rfl rfl (by omega) (by omega) dX0_isFull_6 (by decide) (fun c6 => ?_) (fun c6 => ?_)
  · skip
    refine lv_iconst (v := 0) hx hb dX0_isFull_13 (by decide) ?_
    exact ret _ _ _ dX0_isFull_14 (Or.inl rfl) (ite_n (by omega))
  · skip
    refine lv_iconst (v := 1) hx hb dX0_isFull_9 (by decide) ?_
    refine lv_goto (tgt := 14) hx hb dX0_isFull_10 (by decide) ?_
    exact ret _ _ _ dX0_isFull_14 (Or.inr rfl) (ite_p c6)
set_option maxHeartbeats 4000000 in
set_option maxRecDepth 100000 in
theorem c_X0_add {l : Launch} {D : va_G} {cI cZ cL : ClassId} {g : Nat → Nat} {sl mi n : Nat} {X : Nat → Nat → Int32} {cy ss ds fs : Nat} (hd : ds < 100) (v1 v2 v3 : Int32) : KI l yX0_add (.code yX0_add cX0_add 4 (some .int)) 0 D (tyz cI cZ cL) [.ref (g 3), .int v1, .int v2, .int v3] (cw g cI cZ sl mi n X cy ss ds fs) (fun r u => r = nI (ds + 1) ∧ u = sX (sX (sX X 17 ds v1) 18 ds v2) 19 ds v3) (fun u : Nat → Nat → Int32 => cw g cI cZ sl mi n u cy ss (ds + 1) fs) := by
  refine KI.of (own := RX0) (lvs := [(0, .ref (g 3)), (1, .int v1), (2, .int v2), (3, .int v3)]) (by decide) rfl (Nat.le_of_ble_eq_true rfl) rfl ?_
  intro p e s m args below meth c Q C hK hN A hA hP hD hS ret ls hl
  obtain ⟨hx, hb, hml, hown, hts, hr9, hlk9⟩ := id C
  refine lv_aload_n hx hb dX0_add_0 rfl (lv_at hl 0 rfl) ?_
  refine va_get (D := D) (ci := 2) (v := .ref (g 27)) (C := RX0) (T := TX0) (N := 4) hx hb hts inX0 hown hK hP 3 rfl rfl 0 (by decide) (hts _ wF_X0_9) (fun _ h9 => h9) rfl dX0_add_1 ?_
  refine lv_aload_n hx hb dX0_add_4 rfl (lv_at hl 0 rfl) ?_
  refine va_get (D := D) (ci := 2) (v := .int (nI ds)) (C := RX0) (T := TX0) (N := 4) hx hb hts inX0 hown hK hP 3 rfl rfl 3 (by decide) (hts _ wF_X0_19) (fun _ h9 => h9) rfl dX0_add_5 ?_
  refine lv_iload_n hx hb dX0_add_8 rfl (lv_at hl 1 rfl) ?_
  refine k_iast (D := D) (f := X 17) (ws' := cw g cI cZ sl mi n (sX X 17 ds v1) cy ss ds fs) hx hb hK hP hD hS 21 0 rfl rfl ds rfl (by omega) (by omega) rfl dX0_add_9 (fun H locs hP hD hS => ?_)
  refine lv_aload_n hx hb dX0_add_10 rfl (lv_at hl 0 rfl) ?_
  refine va_get (D := D) (ci := 2) (v := .ref (g 28)) (C := RX0) (T := TX0) (N := 4) hx hb hts inX0 hown hK hP 3 rfl rfl 1 (by decide) (hts _ wF_X0_13) (fun _ h9 => h9) rfl dX0_add_11 ?_
  refine lv_aload_n hx hb dX0_add_14 rfl (lv_at hl 0 rfl) ?_
  refine va_get (D := D) (ci := 2) (v := .int (nI ds)) (C := RX0) (T := TX0) (N := 4) hx hb hts inX0 hown hK hP 3 rfl rfl 3 (by decide) (hts _ wF_X0_19) (fun _ h9 => h9) rfl dX0_add_15 ?_
  refine lv_iload_n hx hb dX0_add_18 rfl (lv_at hl 2 rfl) ?_
  refine k_iast (D := D) (f := X 18) (ws' := cw g cI cZ sl mi n (sX (sX X 17 ds v1) 18 ds v2) cy ss ds fs) hx hb hK hP hD hS 22 0 rfl rfl ds rfl (by omega) (by omega) rfl dX0_add_19 (fun H locs hP hD hS => ?_)
  refine lv_aload_n hx hb dX0_add_20 rfl (lv_at hl 0 rfl) ?_
  refine va_get (D := D) (ci := 2) (v := .ref (g 29)) (C := RX0) (T := TX0) (N := 4) hx hb hts inX0 hown hK hP 3 rfl rfl 2 (by decide) (hts _ wF_X0_16) (fun _ h9 => h9) rfl dX0_add_21 ?_
  refine lv_aload_n hx hb dX0_add_24 rfl (lv_at hl 0 rfl) ?_
  refine va_get (D := D) (ci := 2) (v := .int (nI ds)) (C := RX0) (T := TX0) (N := 4) hx hb hts inX0 hown hK hP 3 rfl rfl 3 (by decide) (hts _ wF_X0_19) (fun _ h9 => h9) rfl dX0_add_25 ?_
  refine lv_iload_n hx hb dX0_add_28 rfl (lv_at hl 3 rfl) ?_
  refine k_iast (D := D) (f := X 19) (ws' := cw g cI cZ sl mi n (sX (sX (sX X 17 ds v1) 18 ds v2) 19 ds v3) cy ss ds fs) hx hb hK hP hD hS 23 0 rfl rfl ds rfl (by omega) (by omega) rfl dX0_add_29 (fun H locs hP hD hS => ?_)
  refine lv_aload_n hx hb dX0_add_30 rfl (lv_at hl 0 rfl) ?_
  refine lv_dup hx hb dX0_add_31 rfl ?_
  refine va_get (D := D) (ci := 2) (v := .int (nI ds)) (C := RX0) (T := TX0) (N := 4) hx hb hts inX0 hown hK hP 3 rfl rfl 3 (by decide) (hts _ wF_X0_19) (fun _ h9 => h9) rfl dX0_add_32 ?_
  refine lv_iconst (v := 1) hx hb dX0_add_35 (by decide) ?_
  refine k_iadd hx hb ds 1 rfl rfl dX0_add_36 ?_
  refine k_put (D := D) (ci := 2) (v := .int (nI (ds + 1))) (ty := .int) (C := RX0) (T := TX0) (N := 4) (ws' := cw g cI cZ sl mi n (sX (sX (sX X 17 ds v1) 18 ds v2) 19 ds v3) cy ss (ds + 1) fs) hx hb hts inX0 tyX0 tyX0_ok nmX0 hown hK hP hD hS 3 rfl rfl 3 (by decide) (hts _ wF_X0_19) (fun _ h9 => h9) rfl (by decide +kernel) rfl rfl (Nat.le_of_ble_eq_true rfl) rfl dX0_add_37 (fun H locs hP hD hS => ?_)
  refine lv_aload_n hx hb dX0_add_40 rfl (lv_at hl 0 rfl) ?_
  refine va_get (D := D) (ci := 2) (v := .int (nI (ds + 1))) (C := RX0) (T := TX0) (N := 4) hx hb hts inX0 hown hK hP 3 rfl rfl 3 (by decide) (hts _ wF_X0_19) (fun _ h9 => h9) rfl dX0_add_41 ?_
  exact ret _ (sX (sX (sX X 17 ds v1) 18 ds v2) 19 ds v3) _ _ _ _ dX0_add_44 hP hD hS ⟨rfl, rfl⟩
set_option maxHeartbeats 4000000 in
set_option maxRecDepth 100000 in
theorem c_X0_firstOf {l : Launch} {D : va_G} {cI cZ cL : ClassId} {g : Nat → Nat} {sl mi n : Nat} {X : Nat → Nat → Int32} {cy ss ds fs : Nat} (hn : n ≤ 16) (hd : ds ≤ 100) (idn : Nat) (hY : DyI (X 17) (X 19) n ds) : KR l yX0_firstOf (.code yX0_firstOf cX0_firstOf 4 (some .int)) 1 D (tyz cI cZ cL) [.ref (g 3), .int (nI idn), .ref (g 1)] (cw g cI cZ sl mi n X cy ss ds fs) (fun r => (∃ k : Nat, k < ds ∧ r = nI k ∧ (X 18 k = nI idn ∧ X 1 (X 17 k).toNatClampNeg = 2) ∧ ∀ j, j < k → ¬ (X 18 j = nI idn ∧ X 1 (X 17 j).toNatClampNeg = 2)) ∨ (r = -1 ∧ ∀ j, j < ds → ¬ (X 18 j = nI idn ∧ X 1 (X 17 j).toNatClampNeg = 2))) := by
  refine KR.of (own := RX0) (lvs := [(0, .ref (g 3)), (1, .int (nI idn)), (2, .ref (g 1))]) (by decide) rfl (Nat.le_of_ble_eq_true rfl) rfl ?_
  intro p e s m args below meth c Q C hK hN hP hD ret ls hl
  obtain ⟨hx, hb, hml, hown, hts, hr9, hlk9⟩ := id C
  refine lv_iconst (v := 0) hx hb dX0_firstOf_0 (by decide) ?_
  refine lv_istore_n (lv' := [(3, .int 0), (0, .ref (g 3)), (1, .int (nI idn)), (2, .ref (g 1))]) hx hb dX0_firstOf_1 rfl hl (by decide) rfl (fun ls hl => ?_)
  have L2 : ∀ (kf : Nat) (i : Nat) (ls : Array Slot), (ds - i < kf) → (i ≤ ds) → (∀ j, j < i → ¬ (X 18 j = nI idn ∧ X 1 (X 17 j).toNatClampNeg = 2)) → (lv_has ls 4 [(0, .ref (g 3)), (1, .int (nI idn)), (2, .ref (g 1)), (3, .int (nI i))]) → W p l e (rmK 1) s m args below meth c s.heap [] 0 0 Q (F0 m 2 ls []) := by
    intro kf
    induction kf with
    | zero =>
      intro i ls hm
      exact absurd hm (Nat.not_lt_zero _)
    | succ kf ih2 =>
      intro i ls hm h2 h3 hl
      refine lv_iload_n hx hb dX0_firstOf_2 rfl (lv_at hl 3 rfl) ?_
      refine lv_aload_n hx hb dX0_firstOf_3 rfl (lv_at hl 0 rfl) ?_
      refine va_get (D := D) (ci := 2) (v := .int (nI ds)) (C := RX0) (T := TX0) (N := 4) hx hb hts inX0 hown hK hP 3 rfl rfl 3 (by decide) (hts _ wF_X0_19) (fun _ h9 => h9) rfl dX0_firstOf_4 ?_
      refine k_icmp_ge (tgt := 41) hx hb i ds rfl rfl (by omega) (by omega) dX0_firstOf_7 (by decide) (fun c7 => ?_) (fun c7 => ?_)
      · skip
        refine lv_iconst (v := (-1)) hx hb dX0_firstOf_41 (by decide) ?_
        exact ret _ _ _ dX0_firstOf_42 (Or.inr ⟨rfl, fun j b => h3 j (by omega)⟩)
      · skip
        obtain ⟨jn, hj1, hj2, hje⟩ := inR_of (hY i c7).1
        refine lv_aload_n hx hb dX0_firstOf_10 rfl (lv_at hl 0 rfl) ?_
        refine va_get (D := D) (ci := 2) (v := .ref (g 28)) (C := RX0) (T := TX0) (N := 4) hx hb hts inX0 hown hK hP 3 rfl rfl 1 (by decide) (hts _ wF_X0_13) (fun _ h9 => h9) rfl dX0_firstOf_11 ?_
        refine lv_iload_n hx hb dX0_firstOf_14 rfl (lv_at hl 3 rfl) ?_
        refine k_iald (D := D) (f := X 18) hx hb hK hP 22 0 rfl rfl i rfl (by omega) (by omega) dX0_firstOf_15 ?_
        refine lv_iload_n hx hb dX0_firstOf_16 rfl (lv_at hl 1 rfl) ?_
        refine lv_icmp_ne (tgt := 35) hx hb dX0_firstOf_17 (by decide) (fun c17 => ?_) (fun c17 => ?_)
        · skip
          refine k_iinc (k := 3) (lv' := [(3, .int (nI (i + 1))), (0, .ref (g 3)), (1, .int (nI idn)), (2, .ref (g 1))]) hx hb i rfl dX0_firstOf_35 hl rfl (by decide) rfl (fun ls hl => ?_)
          refine lv_goto (tgt := 2) hx hb dX0_firstOf_38 (by decide) ?_
          exact ih2 (i + 1) _ (by omega) (by omega) (fun j b => if e : j = i then (by subst e; first | exact fun z => c17 z.1 | exact fun z => c30 (by have := z.2; rwa [hje, nI_clamp (by omega)] at this)) else h3 j (by omega)) (lv_sub hl [1, 2, 3, 0] rfl)
        · skip
          refine lv_aload_n hx hb dX0_firstOf_20 rfl (lv_at hl 2 rfl) ?_
          refine lv_aload_n hx hb dX0_firstOf_21 rfl (lv_at hl 0 rfl) ?_
          refine va_get (D := D) (ci := 2) (v := .ref (g 27)) (C := RX0) (T := TX0) (N := 4) hx hb hts inX0 hown hK hP 3 rfl rfl 0 (by decide) (hts _ wF_X0_9) (fun _ h9 => h9) rfl dX0_firstOf_22 ?_
          refine lv_iload_n hx hb dX0_firstOf_25 rfl (lv_at hl 3 rfl) ?_
          refine k_iald (D := D) (f := X 17) hx hb hK hP 21 0 rfl rfl i rfl (by omega) (by omega) dX0_firstOf_26 ?_
          refine k_int (y := (nI jn)) hje ?_
          refine k_callR (D := D) C hK hN hP hD (c_X2_isActive hn jn (by omega)) hl cf_yX2_isActive wM_X0_31 1 4 rfl rfl rfl rfl (Nat.le_of_ble_eq_true rfl) ⟨by decide, by decide⟩ ⟨Nat.le_of_ble_eq_true rfl, Nat.le_of_ble_eq_true rfl⟩ dX0_firstOf_27 (fun r27 hr27 => ?_)
          have hr27 : r27 = (if X 1 jn = 2 then 1 else 0) := hr27
          subst hr27
          refine k_ifeq_P (P := (X 1 jn = 2)) (tgt := 35) hx hb rfl dX0_firstOf_30 (by decide) (fun c30 => ?_) (fun c30 => ?_)
          · skip
            refine k_iinc (k := 3) (lv' := [(3, .int (nI (i + 1))), (0, .ref (g 3)), (1, .int (nI idn)), (2, .ref (g 1))]) hx hb i rfl dX0_firstOf_35 hl rfl (by decide) rfl (fun ls hl => ?_)
            refine lv_goto (tgt := 2) hx hb dX0_firstOf_38 (by decide) ?_
            exact ih2 (i + 1) _ (by omega) (by omega) (fun j b => if e : j = i then (by subst e; first | exact fun z => c17 z.1 | exact fun z => c30 (by have := z.2; rwa [hje, nI_clamp (by omega)] at this)) else h3 j (by omega)) (lv_sub hl [1, 2, 3, 0] rfl)
          · skip
            refine lv_iload_n hx hb dX0_firstOf_33 rfl (lv_at hl 3 rfl) ?_
            exact ret _ _ _ dX0_firstOf_34 (Or.inl ⟨i, c7, rfl, ⟨c17, by rw [hje, nI_clamp (by omega)]; exact c30⟩, h3⟩)
  exact L2 ((ds - 0) + 1) 0 _ (Nat.lt_succ_self _) (Nat.zero_le _) (fun j b => absurd b (by omega)) (lv_sub hl [1, 2, 3, 0] rfl)
set_option maxHeartbeats 4000000 in
set_option maxRecDepth 100000 in
theorem c_X0_remove {l : Launch} {D : va_G} {cI cZ cL : ClassId} {g : Nat → Nat} {sl mi n : Nat} {X : Nat → Nat → Int32} {cy ss ds fs : Nat} (hd : ds ≤ 100) (at0 : Nat) (ha : at0 < ds) : KV l yX0_remove (.code yX0_remove cX0_remove 3 none) 0 D (tyz cI cZ cL) [.ref (g 3), .int (nI at0)] (cw g cI cZ sl mi n X cy ss ds fs) (fun u => (∀ a, (a = 17 ∨ a = 18 ∨ a = 19) → ∀ k, k < ds - 1 → u a k = if k < at0 then X a k else X a (k + 1)) ∧ ∀ a, a ≠ 17 → a ≠ 18 → a ≠ 19 → u a = X a) (fun u : Nat → Nat → Int32 => cw g cI cZ sl mi n u cy ss (ds - 1) fs) := by
  refine KN.of (own := RX0) (lvs := [(0, .ref (g 3)), (1, .int (nI at0))]) (by decide) rfl (Nat.le_of_ble_eq_true rfl) rfl ?_
  intro p e s m args below meth c Q C hK hN A hA hP hD hS hin ret ls hl
  obtain ⟨hx, hb, hml, hown, hts, hr9, hlk9⟩ := id C
  refine lv_aload_n hx hb dX0_remove_0 rfl (lv_at hl 0 rfl) ?_
  refine lv_dup hx hb dX0_remove_1 rfl ?_
  refine va_get (D := D) (ci := 2) (v := .int (nI ds)) (C := RX0) (T := TX0) (N := 4) hx hb hts inX0 hown hK hP 3 rfl rfl 3 (by decide) (hts _ wF_X0_19) (fun _ h9 => h9) rfl dX0_remove_2 ?_
  refine lv_iconst (v := 1) hx hb dX0_remove_5 (by decide) ?_
  refine k_isub hx hb ds 1 rfl rfl (by omega) dX0_remove_6 ?_
  refine k_put (D := D) (ci := 2) (v := .int (nI (ds - 1))) (ty := .int) (C := RX0) (T := TX0) (N := 4) (ws' := cw g cI cZ sl mi n X cy ss (ds - 1) fs) hx hb hts inX0 tyX0 tyX0_ok nmX0 hown hK hP hD hS 3 rfl rfl 3 (by decide) (hts _ wF_X0_19) (fun _ h9 => h9) rfl (by decide +kernel) rfl rfl (Nat.le_of_ble_eq_true rfl) rfl dX0_remove_7 (fun H locs hP hD hS => ?_)
  refine lv_iload_n hx hb dX0_remove_10 rfl (lv_at hl 1 rfl) ?_
  refine lv_istore_n (lv' := [(2, .int (nI at0)), (0, .ref (g 3)), (1, .int (nI at0))]) hx hb dX0_remove_11 rfl hl (by decide) rfl (fun ls hl => ?_)
  have L12 : ∀ (kf : Nat) (i : Nat) (X' : Nat → Nat → Int32) (H : Heap) (locs : List Loc) (ls : Array Slot), (ds - 1 - i < kf) → (at0 ≤ i) → (i ≤ ds - 1) → (∀ a, (a = 17 ∨ a = 18 ∨ a = 19) → (∀ k, k < i → X' a k = if k < at0 then X a k else X a (k + 1)) ∧ ∀ k, i ≤ k → X' a k = X a k) → (∀ a, a ≠ 17 → a ≠ 18 → a ≠ 19 → X' a = X a) → (va_P D vwCl (cw g cI cZ sl mi n X' cy ss (ds - 1) fs) H) → (va_D A (cw g cI cZ sl mi n X' cy ss (ds - 1) fs)) → (va_S A s.heap H locs) → (lv_has ls 3 [(0, .ref (g 3)), (1, .int (nI at0)), (2, .int (nI i))]) → W p l e (rmK 0) s m args below meth c H locs 0 0 Q (F0 m 12 ls []) := by
    intro kf
    induction kf with
    | zero =>
      intro i X' H locs ls hm
      exact absurd hm (Nat.not_lt_zero _)
    | succ kf ih12 =>
      intro i X' H locs ls hm h1 h2 h3 h5 hP hD hS hl
      refine lv_iload_n hx hb dX0_remove_12 rfl (lv_at hl 2 rfl) ?_
      refine lv_aload_n hx hb dX0_remove_13 rfl (lv_at hl 0 rfl) ?_
      refine va_get (D := D) (ci := 2) (v := .int (nI (ds - 1))) (C := RX0) (T := TX0) (N := 4) hx hb hts inX0 hown hK hP 3 rfl rfl 3 (by decide) (hts _ wF_X0_19) (fun _ h9 => h9) rfl dX0_remove_14 ?_
      refine k_icmp_ge (tgt := 68) hx hb i (ds - 1) rfl rfl (by omega) (by omega) dX0_remove_17 (by decide) (fun c17 => ?_) (fun c17 => ?_)
      · skip
        exact ret X' _ _ _ _ dX0_remove_68 hP hD hS ⟨fun a ha k hk => (h3 a ha).1 k (by omega), h5⟩
      · skip
        refine lv_aload_n hx hb dX0_remove_20 rfl (lv_at hl 0 rfl) ?_
        refine va_get (D := D) (ci := 2) (v := .ref (g 27)) (C := RX0) (T := TX0) (N := 4) hx hb hts inX0 hown hK hP 3 rfl rfl 0 (by decide) (hts _ wF_X0_9) (fun _ h9 => h9) rfl dX0_remove_21 ?_
        refine lv_iload_n hx hb dX0_remove_24 rfl (lv_at hl 2 rfl) ?_
        refine lv_aload_n hx hb dX0_remove_25 rfl (lv_at hl 0 rfl) ?_
        refine va_get (D := D) (ci := 2) (v := .ref (g 27)) (C := RX0) (T := TX0) (N := 4) hx hb hts inX0 hown hK hP 3 rfl rfl 0 (by decide) (hts _ wF_X0_9) (fun _ h9 => h9) rfl dX0_remove_26 ?_
        refine lv_iload_n hx hb dX0_remove_29 rfl (lv_at hl 2 rfl) ?_
        refine lv_iconst (v := 1) hx hb dX0_remove_30 (by decide) ?_
        refine k_iadd hx hb i 1 rfl rfl dX0_remove_31 ?_
        refine k_iald (D := D) (f := X' 17) hx hb hK hP 21 0 rfl rfl (i + 1) rfl (by omega) (by omega) dX0_remove_32 ?_
        refine k_iast (D := D) (f := X' 17) (ws' := cw g cI cZ sl mi n (sX X' 17 i (X' 17 (i + 1))) cy ss (ds - 1) fs) hx hb hK hP hD hS 21 0 rfl rfl i rfl (by omega) (by omega) rfl dX0_remove_33 (fun H locs hP hD hS => ?_)
        refine lv_aload_n hx hb dX0_remove_34 rfl (lv_at hl 0 rfl) ?_
        refine va_get (D := D) (ci := 2) (v := .ref (g 28)) (C := RX0) (T := TX0) (N := 4) hx hb hts inX0 hown hK hP 3 rfl rfl 1 (by decide) (hts _ wF_X0_13) (fun _ h9 => h9) rfl dX0_remove_35 ?_
        refine lv_iload_n hx hb dX0_remove_38 rfl (lv_at hl 2 rfl) ?_
        refine lv_aload_n hx hb dX0_remove_39 rfl (lv_at hl 0 rfl) ?_
        refine va_get (D := D) (ci := 2) (v := .ref (g 28)) (C := RX0) (T := TX0) (N := 4) hx hb hts inX0 hown hK hP 3 rfl rfl 1 (by decide) (hts _ wF_X0_13) (fun _ h9 => h9) rfl dX0_remove_40 ?_
        refine lv_iload_n hx hb dX0_remove_43 rfl (lv_at hl 2 rfl) ?_
        refine lv_iconst (v := 1) hx hb dX0_remove_44 (by decide) ?_
        refine k_iadd hx hb i 1 rfl rfl dX0_remove_45 ?_
        refine k_iald (D := D) (f := X' 18) hx hb hK hP 22 0 rfl rfl (i + 1) rfl (by omega) (by omega) dX0_remove_46 ?_
        refine k_iast (D := D) (f := X' 18) (ws' := cw g cI cZ sl mi n (sX (sX X' 17 i (X' 17 (i + 1))) 18 i (X' 18 (i + 1))) cy ss (ds - 1) fs) hx hb hK hP hD hS 22 0 rfl rfl i rfl (by omega) (by omega) rfl dX0_remove_47 (fun H locs hP hD hS => ?_)
        refine lv_aload_n hx hb dX0_remove_48 rfl (lv_at hl 0 rfl) ?_
        refine va_get (D := D) (ci := 2) (v := .ref (g 29)) (C := RX0) (T := TX0) (N := 4) hx hb hts inX0 hown hK hP 3 rfl rfl 2 (by decide) (hts _ wF_X0_16) (fun _ h9 => h9) rfl dX0_remove_49 ?_
        refine lv_iload_n hx hb dX0_remove_52 rfl (lv_at hl 2 rfl) ?_
        refine lv_aload_n hx hb dX0_remove_53 rfl (lv_at hl 0 rfl) ?_
        refine va_get (D := D) (ci := 2) (v := .ref (g 29)) (C := RX0) (T := TX0) (N := 4) hx hb hts inX0 hown hK hP 3 rfl rfl 2 (by decide) (hts _ wF_X0_16) (fun _ h9 => h9) rfl dX0_remove_54 ?_
        refine lv_iload_n hx hb dX0_remove_57 rfl (lv_at hl 2 rfl) ?_
        refine lv_iconst (v := 1) hx hb dX0_remove_58 (by decide) ?_
        refine k_iadd hx hb i 1 rfl rfl dX0_remove_59 ?_
        refine k_iald (D := D) (f := X' 19) hx hb hK hP 23 0 rfl rfl (i + 1) rfl (by omega) (by omega) dX0_remove_60 ?_
        refine k_iast (D := D) (f := X' 19) (ws' := cw g cI cZ sl mi n (sX (sX (sX X' 17 i (X' 17 (i + 1))) 18 i (X' 18 (i + 1))) 19 i (X' 19 (i + 1))) cy ss (ds - 1) fs) hx hb hK hP hD hS 23 0 rfl rfl i rfl (by omega) (by omega) rfl dX0_remove_61 (fun H locs hP hD hS => ?_)
        refine k_iinc (k := 2) (lv' := [(2, .int (nI (i + 1))), (0, .ref (g 3)), (1, .int (nI at0))]) hx hb i rfl dX0_remove_62 hl rfl (by decide) rfl (fun ls hl => ?_)
        refine lv_goto (tgt := 12) hx hb dX0_remove_65 (by decide) ?_
        exact ih12 (i + 1) (sX (sX (sX X' 17 i (X' 17 (i + 1))) 18 i (X' 18 (i + 1))) 19 i (X' 19 (i + 1))) _ _ _ (by omega) (by omega) (by omega) (rm_step h1 h3) (fun a a1 a2 a3 => by rw [sX_ne a3, sX_ne a2, sX_ne a1]; exact h5 a a1 a2 a3) hP hD hS (lv_sub hl [1, 2, 0] rfl)
  exact L12 ((ds - 1 - at0) + 1) at0 X _ _ _ (Nat.lt_succ_self _) (Nat.le_refl _) (by omega) (fun a _ => ⟨fun k hk => by rw [if_pos hk], fun _ _ => rfl⟩) (fun _ _ _ _ => rfl) hP hD hS (lv_sub hl [1, 2, 0] rfl)
set_option maxHeartbeats 4000000 in
set_option maxRecDepth 100000 in
theorem c_X0_send {l : Launch} {D : va_G} {cI cZ cL : ClassId} {g : Nat → Nat} {sl mi n : Nat} {X : Nat → Nat → Int32} {cy ss ds fs : Nat} (hn : n ≤ 16) (hd : ds ≤ 100) (hmi : mi ≤ 60) (hY : DyI (X 17) (X 19) n ds) : KI l yX0_send (.code yX0_send cX0_send 7 (some .int)) 2 D (tyz cI cZ cL) [.ref (g 3), .int (nI mi), .ref (g 1)] (cw g cI cZ sl mi n X cy ss ds fs) (fun r u => ∃ d : Nat, r = nI d ∧ (dl u.1 17 18 19 u.2, d) = dyn (pm (X 1)) mi 60 1 (dl X 17 18 19 ds) 1 0 ∧ u.2 ≤ ds ∧ DyI (u.1 17) (u.1 19) n u.2 ∧ (∀ a, a ≠ 17 → a ≠ 18 → a ≠ 19 → u.1 a = X a) ∧ d ≤ 60) (fun u : (Nat → Nat → Int32) × Nat => cw g cI cZ sl mi n u.1 cy ss u.2 fs) := by
  refine KI.of (own := RX0) (lvs := [(0, .ref (g 3)), (1, .int (nI mi)), (2, .ref (g 1))]) (by decide) rfl (Nat.le_of_ble_eq_true rfl) rfl ?_
  intro p e s m args below meth c Q C hK hN A hA hP hD hS ret ls hl
  obtain ⟨hx, hb, hml, hown, hts, hr9, hlk9⟩ := id C
  refine lv_iconst (v := 0) hx hb dX0_send_0 (by decide) ?_
  refine lv_istore_n (lv' := [(3, .int 0), (0, .ref (g 3)), (1, .int (nI mi)), (2, .ref (g 1))]) hx hb dX0_send_1 rfl hl (by decide) rfl (fun ls hl => ?_)
  refine lv_iconst (v := 1) hx hb dX0_send_2 (by decide) ?_
  refine lv_istore (lv' := [(4, .int 1), (3, .int 0), (0, .ref (g 3)), (1, .int (nI mi)), (2, .ref (g 1))]) hx hb dX0_send_3 hl (by decide) rfl (fun ls hl => ?_)
  refine lv_iconst (v := 1) hx hb dX0_send_5 (by decide) ?_
  refine lv_istore (lv' := [(5, .int 1), (4, .int 1), (3, .int 0), (0, .ref (g 3)), (1, .int (nI mi)), (2, .ref (g 1))]) hx hb dX0_send_6 hl (by decide) rfl (fun ls hl => ?_)
  have L8 : ∀ (kf : Nat) (i : Nat) (mm : Nat) (d : Nat) (X' : Nat → Nat → Int32) (ds' : Nat) (H : Heap) (locs : List Loc) (ls : Array Slot), (61 - i < kf) → (1 ≤ i) → (i ≤ 61) → (i ≤ mm ∧ mm ≤ 121) → (ds' ≤ ds ∧ d < i) → (DyI (X' 17) (X' 19) n ds') → (dyn (pm (X 1)) mi (61 - i) i (dl X' 17 18 19 ds') mm d = dyn (pm (X 1)) mi 60 1 (dl X 17 18 19 ds) 1 0) → (∀ a, a ≠ 17 → a ≠ 18 → a ≠ 19 → X' a = X a) → (va_P D vwCl (cw g cI cZ sl mi n X' cy ss ds' fs) H) → (va_D A (cw g cI cZ sl mi n X' cy ss ds' fs)) → (va_S A s.heap H locs) → (lv_has ls 7 [(0, .ref (g 3)), (1, .int (nI mi)), (2, .ref (g 1)), (3, .int (nI d)), (4, .int (nI mm)), (5, .int (nI i))]) → W p l e (rmK 2) s m args below meth c H locs 0 0 Q (F0 m 8 ls []) := by
    intro kf
    induction kf with
    | zero =>
      intro i mm d X' ds' H locs ls hm
      exact absurd hm (Nat.not_lt_zero _)
    | succ kf ih8 =>
      intro i mm d X' ds' H locs ls hm h1 h2 h0 hd2 hY2 h3 h5 hP hD hS hl
      refine lv_iload hx hb dX0_send_8 (lv_at hl 5 rfl) ?_
      refine lv_bipush (v := 60) hx hb dX0_send_10 (by decide) ?_
      refine k_icmp_gt (tgt := 85) hx hb i 60 rfl rfl (by omega) (by omega) dX0_send_12 (by decide) (fun c12 => ?_) (fun c12 => ?_)
      · skip
        refine lv_iload_n hx hb dX0_send_85 rfl (lv_at hl 3 rfl) ?_
        exact ret _ (X', ds') _ _ _ _ dX0_send_86 hP hD hS ⟨d, rfl, (by rw [← h3]; first | rw [dyn_out c18] | rw [show 61 - i = 0 by omega]; rfl), hd2.1, hY2, h5, by omega⟩
      · skip
        refine lv_iload hx hb dX0_send_15 (lv_at hl 4 rfl) ?_
        refine lv_iload_n hx hb dX0_send_17 rfl (lv_at hl 1 rfl) ?_
        refine k_icmp_gt (tgt := 85) hx hb mm mi rfl rfl (by omega) (by omega) dX0_send_18 (by decide) (fun c18 => ?_) (fun c18 => ?_)
        · skip
          refine lv_iload_n hx hb dX0_send_85 rfl (lv_at hl 3 rfl) ?_
          exact ret _ (X', ds') _ _ _ _ dX0_send_86 hP hD hS ⟨d, rfl, (by rw [← h3]; first | rw [dyn_out c18] | rw [show 61 - i = 0 by omega]; rfl), hd2.1, hY2, h5, by omega⟩
        · skip
          have e1 : X' 1 = X 1 := h5 1 (by decide) (by decide) (by decide)
          have hfu : 61 - i = (61 - (i + 1)) + 1 := by omega
          refine lv_aload_n hx hb dX0_send_21 rfl (lv_at hl 0 rfl) ?_
          refine lv_iload hx hb dX0_send_22 (lv_at hl 5 rfl) ?_
          refine lv_aload_n hx hb dX0_send_24 rfl (lv_at hl 2 rfl) ?_
          refine k_callR (D := D) C hK hN hP hD (c_X0_firstOf hn (by omega) i hY2) hl cf_yX0_firstOf wM_X0_23 3 2 rfl rfl rfl rfl (Nat.le_of_ble_eq_true rfl) ⟨by decide, by decide⟩ ⟨Nat.le_of_ble_eq_true rfl, Nat.le_of_ble_eq_true rfl⟩ dX0_send_25 (fun r25 hr25 => ?_)
          refine lv_istore (lv' := [(6, .int r25), (0, .ref (g 3)), (1, .int (nI mi)), (2, .ref (g 1)), (3, .int (nI d)), (4, .int (nI mm)), (5, .int (nI i))]) hx hb dX0_send_28 hl (by decide) rfl (fun ls hl => ?_)
          refine lv_iload hx hb dX0_send_30 (lv_at hl 0 rfl) ?_
          refine lv_iconst (v := (-1)) hx hb dX0_send_32 (by decide) ?_
          refine lv_icmp_eq (tgt := 76) hx hb dX0_send_33 (by decide) (fun c33 => ?_) (fun c33 => ?_)
          · skip
            have hfi : (dl X' 17 18 19 ds').findIdx? (pm (X 1) i) = none := by
              rcases hr25 with ⟨k, hk, rfl, _⟩ | ⟨_, h⟩
              · exact absurd c33 (nI_m1 (by omega))
              · rw [← e1]; exact fi_none h
            refine k_iinc (k := 5) (lv' := [(4, .int (nI (mm + 1))), (6, .int r25), (0, .ref (g 3)), (1, .int (nI mi)), (2, .ref (g 1)), (3, .int (nI d)), (5, .int (nI i))]) hx hb mm rfl dX0_send_76 hl rfl (by decide) rfl (fun ls hl => ?_)
            refine k_iinc (k := 6) (lv' := [(5, .int (nI (i + 1))), (4, .int (nI (mm + 1))), (6, .int r25), (0, .ref (g 3)), (1, .int (nI mi)), (2, .ref (g 1)), (3, .int (nI d))]) hx hb i rfl dX0_send_79 hl rfl (by decide) rfl (fun ls hl => ?_)
            refine lv_goto (tgt := 8) hx hb dX0_send_82 (by decide) ?_
            exact ih8 (i + 1) (mm + 1) d X' ds' _ _ _ (by omega) (by omega) (by omega) (by omega) (by omega) (by first | exact hY2 | exact dy_rm hk1 hY2 hr67.1) (by rw [← h3, hfu]; first | exact (dyn_none c18 hfi).symm | exact (dyn_long c18 hfi (by rw [hln]; omega)).symm | exact dy_take c18 hfi hln (by omega) hk1 hr67.1) (by first | exact h5 | exact fun a a1 a2 a3 => (hr67.2 a a1 a2 a3).trans (h5 a a1 a2 a3)) hP hD hS (lv_sub hl [3, 4, 5, 6, 1, 0] rfl)
          · skip
            obtain ⟨k, hk1, rfl, hk2, hk3⟩ := hr25.resolve_right (fun z => c33 z.1)
            have hfi : (dl X' 17 18 19 ds').findIdx? (pm (X 1) i) = some k := by rw [← e1]; exact fi_some hk1 hk2 hk3
            obtain ⟨ln, hl1, hl2, hle⟩ := inR_of (hY2 k hk1).2
            have hln : dlen (dl X' 17 18 19 ds') k = ln := by rw [dlen_dl hk1, hle]; exact nI_clamp (by omega)
            refine lv_iload hx hb dX0_send_36 (lv_at hl 5 rfl) ?_
            refine lv_aload_n hx hb dX0_send_38 rfl (lv_at hl 1 rfl) ?_
            refine va_get (D := D) (ci := 2) (v := .ref (g 29)) (C := RX0) (T := TX0) (N := 4) hx hb hts inX0 hown hK hP 3 rfl rfl 2 (by decide) (hts _ wF_X0_16) (fun _ h9 => h9) rfl dX0_send_39 ?_
            refine lv_iload hx hb dX0_send_42 (lv_at hl 0 rfl) ?_
            refine k_iald (D := D) (f := X' 19) hx hb hK hP 23 0 rfl rfl k rfl (by omega) (by omega) dX0_send_44 ?_
            refine k_int (y := (nI ln)) hle ?_
            refine k_iadd hx hb mm ln rfl rfl dX0_send_45 ?_
            refine lv_iconst (v := 1) hx hb dX0_send_46 (by decide) ?_
            refine k_isub hx hb (mm + ln) 1 rfl rfl (by omega) dX0_send_47 ?_
            refine lv_iload_n hx hb dX0_send_48 rfl (lv_at hl 2 rfl) ?_
            refine k_icmp_gt (tgt := 76) hx hb ((mm + ln) - 1) mi rfl rfl (by omega) (by omega) dX0_send_49 (by decide) (fun c49 => ?_) (fun c49 => ?_)
            · skip
              refine k_iinc (k := 5) (lv' := [(4, .int (nI (mm + 1))), (6, .int (nI k)), (0, .ref (g 3)), (1, .int (nI mi)), (2, .ref (g 1)), (3, .int (nI d)), (5, .int (nI i))]) hx hb mm rfl dX0_send_76 hl rfl (by decide) rfl (fun ls hl => ?_)
              refine k_iinc (k := 6) (lv' := [(5, .int (nI (i + 1))), (4, .int (nI (mm + 1))), (6, .int (nI k)), (0, .ref (g 3)), (1, .int (nI mi)), (2, .ref (g 1)), (3, .int (nI d))]) hx hb i rfl dX0_send_79 hl rfl (by decide) rfl (fun ls hl => ?_)
              refine lv_goto (tgt := 8) hx hb dX0_send_82 (by decide) ?_
              exact ih8 (i + 1) (mm + 1) d X' ds' _ _ _ (by omega) (by omega) (by omega) (by omega) (by omega) (by first | exact hY2 | exact dy_rm hk1 hY2 hr67.1) (by rw [← h3, hfu]; first | exact (dyn_none c18 hfi).symm | exact (dyn_long c18 hfi (by rw [hln]; omega)).symm | exact dy_take c18 hfi hln (by omega) hk1 hr67.1) (by first | exact h5 | exact fun a a1 a2 a3 => (hr67.2 a a1 a2 a3).trans (h5 a a1 a2 a3)) hP hD hS (lv_sub hl [3, 4, 5, 6, 1, 0] rfl)
            · skip
              refine lv_iload hx hb dX0_send_52 (lv_at hl 5 rfl) ?_
              refine lv_aload_n hx hb dX0_send_54 rfl (lv_at hl 1 rfl) ?_
              refine va_get (D := D) (ci := 2) (v := .ref (g 29)) (C := RX0) (T := TX0) (N := 4) hx hb hts inX0 hown hK hP 3 rfl rfl 2 (by decide) (hts _ wF_X0_16) (fun _ h9 => h9) rfl dX0_send_55 ?_
              refine lv_iload hx hb dX0_send_58 (lv_at hl 0 rfl) ?_
              refine k_iald (D := D) (f := X' 19) hx hb hK hP 23 0 rfl rfl k rfl (by omega) (by omega) dX0_send_60 ?_
              refine k_int (y := (nI ln)) hle ?_
              refine k_iadd hx hb mm ln rfl rfl dX0_send_61 ?_
              refine lv_istore (lv' := [(4, .int (nI (mm + ln))), (6, .int (nI k)), (0, .ref (g 3)), (1, .int (nI mi)), (2, .ref (g 1)), (3, .int (nI d)), (5, .int (nI i))]) hx hb dX0_send_62 hl (by decide) rfl (fun ls hl => ?_)
              refine lv_aload_n hx hb dX0_send_64 rfl (lv_at hl 2 rfl) ?_
              refine lv_iload hx hb dX0_send_65 (lv_at hl 1 rfl) ?_
              refine k_callV (D := D) C hK hN hP hD hS hA (c_X0_remove (by omega) k hk1) hl cf_yX0_remove wM_X0_27 3 2 rfl rfl rfl rfl (Nat.le_of_ble_eq_true rfl) ⟨by decide, by decide⟩ ⟨Nat.le_of_ble_eq_true rfl, Nat.le_of_ble_eq_true rfl⟩ dX0_send_67 (fun u67 H locs hr67 hP hD hS _ _ => ?_)
              have hP : va_P D vwCl (cw g cI cZ sl mi n u67 cy ss (ds' - 1) fs) H := hP
              have hD : va_D A (cw g cI cZ sl mi n u67 cy ss (ds' - 1) fs) := hD
              refine k_iinc (k := 5) (lv' := [(3, .int (nI (d + 1))), (4, .int (nI (mm + ln))), (6, .int (nI k)), (0, .ref (g 3)), (1, .int (nI mi)), (2, .ref (g 1)), (5, .int (nI i))]) hx hb d rfl dX0_send_70 hl rfl (by decide) rfl (fun ls hl => ?_)
              refine lv_goto (tgt := 79) hx hb dX0_send_73 (by decide) ?_
              refine k_iinc (k := 6) (lv' := [(5, .int (nI (i + 1))), (3, .int (nI (d + 1))), (4, .int (nI (mm + ln))), (6, .int (nI k)), (0, .ref (g 3)), (1, .int (nI mi)), (2, .ref (g 1))]) hx hb i rfl dX0_send_79 hl rfl (by decide) rfl (fun ls hl => ?_)
              refine lv_goto (tgt := 8) hx hb dX0_send_82 (by decide) ?_
              exact ih8 (i + 1) (mm + ln) (d + 1) u67 (ds' - 1) _ _ _ (by omega) (by omega) (by omega) (by omega) (by omega) (by first | exact hY2 | exact dy_rm hk1 hY2 hr67.1) (by rw [← h3, hfu]; first | exact (dyn_none c18 hfi).symm | exact (dyn_long c18 hfi (by rw [hln]; omega)).symm | exact dy_take c18 hfi hln (by omega) hk1 hr67.1) (by first | exact h5 | exact fun a a1 a2 a3 => (hr67.2 a a1 a2 a3).trans (h5 a a1 a2 a3)) hP hD hS (lv_sub hl [4, 5, 6, 1, 2, 0] rfl)
  exact L8 ((61 - 1) + 1) 1 1 0 X ds _ _ _ (Nat.lt_succ_self _) (Nat.le_refl _) (by omega) ⟨Nat.le_refl _, by omega⟩ ⟨Nat.le_refl _, by omega⟩ hY rfl (fun _ _ _ _ => rfl) hP hD hS (lv_sub hl [3, 4, 5, 2, 1, 0] rfl)
