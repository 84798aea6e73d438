/-! the class's nodes -/
theorem ite_n {α : Type} {c : Prop} [Decidable c] {a b : α} (h : ¬ c) : b = if c then a else b := (if_neg h).symm
theorem ite_p {α : Type} {c : Prop} [Decidable c] {a b : α} (h : c) : a = if c then a else b := (if_pos h).symm
theorem ap_post {X u : Nat → Nat → Int32} {j : Nat} {mid odd q : Int32} (hq : q = if X 10 j ≠ 0 then X 9 j else 0)
    (h : (big mid ∧ u = sX (sX (sX X 9 j mid) 10 j 1) 1 j 4) ∨ (¬ big mid ∧ ((odd = 0 ∧ u = sX (sX (sX X 9 j mid) 10 j 1) 2 j (X 2 j + mid)) ∨
      (odd ≠ 0 ∧ u = if clp (X 4 j + (mid + q) / 4) ≠ X 4 j + (mid + q) / 4 then sX (sX (sX (sX (sX X 9 j mid) 10 j 1) 2 j (X 2 j + mid)) 4 j (clp (X 4 j + (mid + q) / 4))) 1 j 3 else sX (sX (sX (sX X 9 j mid) 10 j 1) 2 j (X 2 j + mid)) 4 j (clp (X 4 j + (mid + q) / 4)))))) :
    AP X u j mid odd ∧ (∀ i, i ≠ j → ∀ a, u a i = X a i) ∧ ∀ a, a ≠ 1 → a ≠ 2 → a ≠ 4 → a ≠ 9 → a ≠ 10 → u a = X a := by
  have hs : apSum mid (X 10 j) (X 9 j) = mid + q := by rw [hq]; rfl
  unfold AP zSt zEr zRa
  rw [hs]
  have six : ∀ {Y : Nat → Nat → Int32} {a b i : Nat} {v : Int32}, i ≠ j → sX Y b j v a i = Y a i := fun {Y a b i v} h => by rw [sX_app, if_neg (fun z => h z.2)]
  rcases h with ⟨hb, rfl⟩ | ⟨hb, ⟨ho, rfl⟩ | ⟨ho, hu⟩⟩
  · refine ⟨⟨?_, ?_, ?_, ?_, ?_⟩, fun i hi a => by rw [six hi, six hi, six hi], fun a h1 h2 h4 h9 h10 => by rw [sX_ne h1, sX_ne h10, sX_ne h9]⟩
    · rw [if_pos hb]; simp [sX_app]
    · rw [if_pos hb]; simp [sX_app]
    · rw [if_neg (fun z => z.1 hb)]; simp [sX_app]
    · simp [sX_app]
    · simp [sX_app]
  · refine ⟨⟨?_, ?_, ?_, ?_, ?_⟩, fun i hi a => by rw [six hi, six hi, six hi], fun a h1 h2 h4 h9 h10 => by rw [sX_ne h2, sX_ne h10, sX_ne h9]⟩
    · rw [if_neg hb, if_neg (fun z => z.1 ho)]; simp [sX_app]
    · rw [if_neg hb]; simp [sX_app]
    · rw [if_neg (fun z => z.2 ho)]; simp [sX_app]
    · simp [sX_app]
    · simp [sX_app]
  · by_cases hc : clp (X 4 j + (mid + q) / 4) ≠ X 4 j + (mid + q) / 4
    · rw [if_pos hc] at hu; subst hu
      refine ⟨⟨?_, ?_, ?_, ?_, ?_⟩, fun i hi a => by rw [six hi, six hi, six hi, six hi, six hi], fun a h1 h2 h4 h9 h10 => by rw [sX_ne h1, sX_ne h4, sX_ne h2, sX_ne h10, sX_ne h9]⟩
      · rw [if_neg hb, if_pos ⟨ho, hc⟩]; simp [sX_app]
      · rw [if_neg hb]; simp [sX_app]
      · rw [if_pos ⟨hb, ho⟩]; simp [sX_app]
      · simp [sX_app]
      · simp [sX_app]
    · rw [if_neg hc] at hu; subst hu
      refine ⟨⟨?_, ?_, ?_, ?_, ?_⟩, fun i hi a => by rw [six hi, six hi, six hi, six hi], fun a h1 h2 h4 h9 h10 => by rw [sX_ne h4, sX_ne h2, sX_ne h10, sX_ne h9]⟩
      · rw [if_neg hb, if_neg (fun z => hc z.2)]; simp [sX_app]
      · rw [if_neg hb]; simp [sX_app]
      · rw [if_pos ⟨hb, ho⟩]; simp [sX_app]
      · simp [sX_app]
      · simp [sX_app]
theorem co_keep {X X' : Nat → Nat → Int32} {n i : Nat} (h3 : ∀ j, 1 ≤ j → j < i → X 1 j = 2 → X' 8 j = mpv (X 1) (X 7) (X 2) n j) (h5 : ∀ a, a ≠ 8 → a ≠ 11 → X' a = X a) (c : ¬ X' 1 i = 2) : ∀ j, 1 ≤ j → j < i + 1 → X 1 j = 2 → X' 8 j = mpv (X 1) (X 7) (X 2) n j := by
  intro j a b z
  by_cases e : j = i
  · subst e; rw [h5 1 (by decide) (by decide)] at c; exact absurd z c
  · exact h3 j a (by omega) z
theorem co_set {X X' u : Nat → Nat → Int32} {n i : Nat} {r : Int32} (h3 : ∀ j, 1 ≤ j → j < i → X 1 j = 2 → X' 8 j = mpv (X 1) (X 7) (X 2) n j) (h5 : ∀ a, a ≠ 8 → a ≠ 11 → X' a = X a) (hr : r = mpv (X' 1) (X' 7) (X' 2) n i ∧ ∀ a, a ≠ 11 → u a = X' a) : ∀ j, 1 ≤ j → j < i + 1 → X 1 j = 2 → (sX u 8 i r) 8 j = mpv (X 1) (X 7) (X 2) n j := by
  intro j a b z
  rw [sX_app]
  by_cases e : j = i
  · subst e; rw [if_pos ⟨rfl, rfl⟩, hr.1, h5 1 (by decide) (by decide), h5 7 (by decide) (by decide), h5 2 (by decide) (by decide)]
  · rw [if_neg (fun z => e z.2), hr.2 8 (by decide)]; exact h3 j a (by omega) z
theorem co_set5 {X X' u : Nat → Nat → Int32} {n i : Nat} {r : Int32} (h5 : ∀ a, a ≠ 8 → a ≠ 11 → X' a = X a) (hr : r = mpv (X' 1) (X' 7) (X' 2) n i ∧ ∀ a, a ≠ 11 → u a = X' a) : ∀ a, a ≠ 8 → a ≠ 11 → (sX u 8 i r) a = X a := fun a h8 h11 => by rw [sX_ne h8, hr.2 a h11, h5 a h8 h11]
theorem cb_keep3 {X Z : Nat → Nat → Int32} {n i : Nat} {odd : Int32} (k3 : ∀ j, 1 ≤ j → j < i → CR X Z n j odd) (k4 : ∀ j, i ≤ j → ∀ a, a ≠ 8 → a ≠ 11 → Z a j = X a j) (c : ¬ Z 1 i = 2) : ∀ j, 1 ≤ j → j < i + 1 → CR X (sX Z 10 i 0) n j odd := by
  intro j a b
  by_cases e : j = i
  · subst e
    have q := fun a h8 h11 => k4 j (Nat.le_refl j) a h8 h11
    rw [q 1 (by decide) (by decide)] at c
    refine ⟨fun z => absurd z c, fun _ => ⟨?_, ?_, ?_, ?_, sX_at⟩⟩ <;> (rw [sX_ne (by decide)]; exact q _ (by decide) (by decide))
  · have h := k3 j a (by omega)
    unfold CR AP at h ⊢
    simpa [sX_app, e] using h
theorem cb_keep4 {X Z : Nat → Nat → Int32} {i : Nat} {v : Int32} (k4 : ∀ j, i ≤ j → ∀ a, a ≠ 8 → a ≠ 11 → Z a j = X a j) : ∀ j, i + 1 ≤ j → ∀ a, a ≠ 8 → a ≠ 11 → (sX Z 10 i v) a j = X a j := fun j h a h8 h11 => by rw [sX_app, if_neg (by omega)]; exact k4 j (by omega) a h8 h11
theorem cb_set3 {X Z u : Nat → Nat → Int32} {n i : Nat} {odd : Int32} (h1 : 1 ≤ i) (h2 : i ≤ n + 1) (k3 : ∀ j, 1 ≤ j → j < i → CR X Z n j odd) (k4 : ∀ j, i ≤ j → ∀ a, a ≠ 8 → a ≠ 11 → Z a j = X a j) (k6 : ∀ j, 1 ≤ j → j ≤ n → X 1 j = 2 → Z 8 j = mpv (X 1) (X 7) (X 2) n j) (c : Z 1 i = 2)
    (hr : AP Z u i (Z 8 i) odd ∧ (∀ j, j ≠ i → ∀ a, u a j = Z a j) ∧ ∀ a, a ≠ 1 → a ≠ 2 → a ≠ 4 → a ≠ 9 → a ≠ 10 → u a = Z a) (hi : i ≤ n := by omega) : ∀ j, 1 ≤ j → j < i + 1 → CR X u n j odd := by
  intro j a b
  by_cases e : j = i
  · subst e
    have q := fun a h8 h11 => k4 j (Nat.le_refl j) a h8 h11
    have c' := c
    rw [q 1 (by decide) (by decide)] at c'
    have h := hr.1
    unfold AP at h
    rw [k6 j a hi c', q 1 (by decide) (by decide), q 2 (by decide) (by decide), q 4 (by decide) (by decide), q 9 (by decide) (by decide), q 10 (by decide) (by decide)] at h
    exact ⟨fun _ => h, fun z => absurd c' z⟩
  · have h := k3 j a (by omega)
    unfold CR AP at h ⊢
    have q := hr.2.1 j e
    rw [q 1, q 2, q 4, q 9, q 10]
    exact h
theorem cb_set4 {X Z u : Nat → Nat → Int32} {i : Nat} {mid odd : Int32} (k4 : ∀ j, i ≤ j → ∀ a, a ≠ 8 → a ≠ 11 → Z a j = X a j) (hr : AP Z u i mid odd ∧ (∀ j, j ≠ i → ∀ a, u a j = Z a j) ∧ ∀ a, a ≠ 1 → a ≠ 2 → a ≠ 4 → a ≠ 9 → a ≠ 10 → u a = Z a) : ∀ j, i + 1 ≤ j → ∀ a, a ≠ 8 → a ≠ 11 → u a j = X a j := fun j h a h8 h11 => (hr.2.1 j (by omega) a).trans (k4 j (by omega) a h8 h11)
theorem cb_set6 {X Z u : Nat → Nat → Int32} {n i : Nat} {mid odd : Int32} (k6 : ∀ j, 1 ≤ j → j ≤ n → X 1 j = 2 → Z 8 j = mpv (X 1) (X 7) (X 2) n j) (hr : AP Z u i mid odd ∧ (∀ j, j ≠ i → ∀ a, u a j = Z a j) ∧ ∀ a, a ≠ 1 → a ≠ 2 → a ≠ 4 → a ≠ 9 → a ≠ 10 → u a = Z a) : ∀ j, 1 ≤ j → j ≤ n → X 1 j = 2 → u 8 j = mpv (X 1) (X 7) (X 2) n j := fun j a b z => by rw [hr.2.2 8 (by decide) (by decide) (by decide) (by decide) (by decide)]; exact k6 j a b z
theorem cb_set5 {X Z u : Nat → Nat → Int32} {i : Nat} {mid odd : Int32} (k5 : ∀ a, a ≠ 1 → a ≠ 2 → a ≠ 4 → a ≠ 8 → a ≠ 9 → a ≠ 10 → a ≠ 11 → Z a = X a) (hr : AP Z u i mid odd ∧ (∀ j, j ≠ i → ∀ a, u a j = Z a j) ∧ ∀ a, a ≠ 1 → a ≠ 2 → a ≠ 4 → a ≠ 9 → a ≠ 10 → u a = Z a) : ∀ a, a ≠ 1 → a ≠ 2 → a ≠ 4 → a ≠ 8 → a ≠ 9 → a ≠ 10 → a ≠ 11 → u a = X a := fun a h1 h2 h4 h8 h9 h10 h11 => (hr.2.2 a h1 h2 h4 h9 h10).trans (k5 a h1 h2 h4 h8 h9 h10 h11)
set_option maxHeartbeats 4000000 in
set_option maxRecDepth 100000 in
theorem c_X4_within {l : Launch} {D : va_G} {cI cZ cL : ClassId} {wz : va_W} (x a b : Int32) : KR l yX4_within (.code yX4_within cX4_within 3 (some .boolean)) 0 D (tyz cI cZ cL) [.int x, .int a, .int b] (wz) (fun r => r = if a ≤ x ∧ x ≤ b then 1 else 0) := by
  refine KR.ofz (own := RX4) (lvs := [(0, .int x), (1, .int a), (2, .int b)]) (by decide) rfl (Nat.le_of_ble_eq_true rfl) rfl ?_
  intro p e s m args below meth c Q C hK hN hP hD ret ls hl
  obtain ⟨hx, hb, hml, hown, hts, hr9, hlk9⟩ := id C
  refine lv_iload_n hx hb dX4_within_0 rfl (lv_at hl 0 rfl) ?_
  refine lv_iload_n hx hb dX4_within_1 rfl (lv_at hl 1 rfl) ?_
  refine lv_icmp_lt (tgt := 14) hx hb dX4_within_2 (by decide) (fun c2 => ?_) (fun c2 => ?_)
  · skip
    refine lv_iconst (v := 0) hx hb dX4_within_14 (by decide) ?_
    exact ret _ _ _ dX4_within_15 (Or.inl rfl) (by first | exact ite_n (fun h => absurd h.1 (i32_nlt c2)) | exact ite_n (fun h => absurd h.2 (i32_nlt c7)))
  · skip
    refine lv_iload_n hx hb dX4_within_5 rfl (lv_at hl 0 rfl) ?_
    refine lv_iload_n hx hb dX4_within_6 rfl (lv_at hl 2 rfl) ?_
    refine lv_icmp_gt (tgt := 14) hx hb dX4_within_7 (by decide) (fun c7 => ?_) (fun c7 => ?_)
    · skip
      refine lv_iconst (v := 0) hx hb dX4_within_14 (by decide) ?_
      exact ret _ _ _ dX4_within_15 (Or.inl rfl) (by first | exact ite_n (fun h => absurd h.1 (i32_nlt c2)) | exact ite_n (fun h => absurd h.2 (i32_nlt c7)))
    · skip
      refine lv_iconst (v := 1) hx hb dX4_within_10 (by decide) ?_
      refine lv_goto (tgt := 15) hx hb dX4_within_11 (by decide) ?_
      exact ret _ _ _ dX4_within_15 (Or.inr rfl) (by exact ite_p ⟨Int32.not_lt.mp c2, Int32.not_lt.mp c7⟩)
set_option maxHeartbeats 4000000 in
set_option maxRecDepth 100000 in
theorem c_X2_has {l : Launch} {D : va_G} {cI cZ cL : ClassId} {g : Nat → Nat} {sl mi n : Nat} {X : Nat → Nat → Int32} {cy ss ds fs : Nat} (hn : n ≤ 16) (x : Int32) : KR l yX2_has (.code yX2_has cX2_has 2 (some .boolean)) 0 D (tyz cI cZ cL) [.ref (g 1), .int x] (cw g cI cZ sl mi n X cy ss ds fs) (fun r => r = if inR x 1 n then 1 else 0) := by
  refine KR.ofz (own := RX2) (lvs := [(0, .ref (g 1)), (1, .int x)]) (by decide) rfl (Nat.le_of_ble_eq_true rfl) rfl ?_
  intro p e s m args below meth c Q C hK hN hP hD ret ls hl
  obtain ⟨hx, hb, hml, hown, hts, hr9, hlk9⟩ := id C
  refine lv_iload_n hx hb dX2_has_0 rfl (lv_at hl 1 rfl) ?_
  refine lv_iconst (v := 1) hx hb dX2_has_1 (by decide) ?_
  refine lv_icmp_lt (tgt := 17) hx hb dX2_has_2 (by decide) (fun c2 => ?_) (fun c2 => ?_)
  · skip
    refine lv_iconst (v := 0) hx hb dX2_has_17 (by decide) ?_
    exact ret _ _ _ dX2_has_18 (Or.inl rfl) (has_0 (by omega) (by first | exact Or.inl c2 | exact Or.inr c10))
  · skip
    refine lv_iload_n hx hb dX2_has_5 rfl (lv_at hl 1 rfl) ?_
    refine lv_aload_n hx hb dX2_has_6 rfl (lv_at hl 0 rfl) ?_
    refine va_get (D := D) (ci := 4) (v := .int (nI n)) (C := RX2) (T := TX2) (N := 12) hx hb hts inX2 hown hK hP 1 rfl rfl 0 (by decide) (hts _ wF_X2_7) (fun _ h9 => h9) rfl dX2_has_7 ?_
    refine lv_icmp_gt (tgt := 17) hx hb dX2_has_10 (by decide) (fun c10 => ?_) (fun c10 => ?_)
    · skip
      refine lv_iconst (v := 0) hx hb dX2_has_17 (by decide) ?_
      exact ret _ _ _ dX2_has_18 (Or.inl rfl) (has_0 (by omega) (by first | exact Or.inl c2 | exact Or.inr c10))
    · skip
      refine lv_iconst (v := 1) hx hb dX2_has_13 (by decide) ?_
      refine lv_goto (tgt := 18) hx hb dX2_has_14 (by decide) ?_
      exact ret _ _ _ dX2_has_18 (Or.inr rfl) (has_1 (by omega) c2 c10)
set_option maxHeartbeats 4000000 in
set_option maxRecDepth 100000 in
theorem c_X2_isActive {l : Launch} {D : va_G} {cI cZ cL : ClassId} {g : Nat → Nat} {sl mi n : Nat} {X : Nat → Nat → Int32} {cy ss ds fs : Nat} (hn : n ≤ 16) (j : Nat) (hj : j ≤ n) : KR l yX2_isActive (.code yX2_isActive cX2_isActive 2 (some .boolean)) 0 D (tyz cI cZ cL) [.ref (g 1), .int (nI j)] (cw g cI cZ sl mi n X cy ss ds fs) (fun r => r = if X 1 j = 2 then 1 else 0) := by
  refine KR.ofz (own := RX2) (lvs := [(0, .ref (g 1)), (1, .int (nI j))]) (by decide) rfl (Nat.le_of_ble_eq_true rfl) rfl ?_
  intro p e s m args below meth c Q C hK hN hP hD ret ls hl
  obtain ⟨hx, hb, hml, hown, hts, hr9, hlk9⟩ := id C
  refine lv_aload_n hx hb dX2_isActive_0 rfl (lv_at hl 0 rfl) ?_
  refine va_get (D := D) (ci := 4) (v := .ref (g 11)) (C := RX2) (T := TX2) (N := 12) hx hb hts inX2 hown hK hP 1 rfl rfl 1 (by decide) (hts _ wF_X2_13) (fun _ h9 => h9) rfl dX2_isActive_1 ?_
  refine lv_iload_n hx hb dX2_isActive_4 rfl (lv_at hl 1 rfl) ?_
  refine k_iald (D := D) (f := X 1) hx hb hK hP 5 0 rfl rfl j rfl (by omega) (by omega) dX2_isActive_5 ?_
  refine lv_iconst (v := 2) hx hb dX2_isActive_6 (by decide) ?_
  refine lv_icmp_ne (tgt := 14) hx hb dX2_isActive_7 (by decide) (fun c7 => ?_) (fun c7 => ?_)
  · skip
    refine lv_iconst (v := 0) hx hb dX2_isActive_14 (by decide) ?_
    exact ret _ _ _ dX2_isActive_15 (Or.inl rfl) (by exact ite_n c7)
  · skip
    refine lv_iconst (v := 1) hx hb dX2_isActive_10 (by decide) ?_
    refine lv_goto (tgt := 15) hx hb dX2_isActive_11 (by decide) ?_
    exact ret _ _ _ dX2_isActive_15 (Or.inr rfl) (by exact ite_p c7)
set_option maxHeartbeats 4000000 in
set_option maxRecDepth 100000 in
theorem c_X2_leastActive {l : Launch} {D : va_G} {cI cZ cL : ClassId} {g : Nat → Nat} {sl mi n : Nat} {X : Nat → Nat → Int32} {cy ss ds fs : Nat} (hn : n ≤ 16) : KR l yX2_leastActive (.code yX2_leastActive cX2_leastActive 2 (some .int)) 1 D (tyz cI cZ cL) [.ref (g 1)] (cw g cI cZ sl mi n X cy ss ds fs) (fun r => ∃ k : Nat, r = nI k ∧ isLA (X 1) n k) := by
  refine KR.of (own := RX2) (lvs := [(0, .ref (g 1))]) (by decide) rfl (Nat.le_of_ble_eq_true rfl) rfl ?_
  intro p e s m args below meth c Q C hK hN hP hD ret ls hl
  obtain ⟨hx, hb, hml, hown, hts, hr9, hlk9⟩ := id C
  refine lv_iconst (v := 1) hx hb dX2_leastActive_0 (by decide) ?_
  refine lv_istore_n (lv' := [(1, .int 1), (0, .ref (g 1))]) hx hb dX2_leastActive_1 rfl hl (by decide) rfl (fun ls hl => ?_)
  have L2 : ∀ (kf : Nat) (i : Nat) (ls : Array Slot), (n + 1 - i < kf) → (1 ≤ i) → (i ≤ n + 1) → (∀ j, 1 ≤ j → j < i → X 1 j ≠ 2) → (lv_has ls 2 [(0, .ref (g 1)), (1, .int (nI i))]) → W p l e (rmK 1) s m args below meth c s.heap [] 0 0 Q (F0 m 2 ls []) := by
    intro kf
    induction kf with
    | zero =>
      intro i ls hm
      exact absurd hm (Nat.not_lt_zero _)
    | succ kf ih2 =>
      intro i ls hm h1 h2 h3 hl
      refine lv_iload_n hx hb dX2_leastActive_2 rfl (lv_at hl 1 rfl) ?_
      refine lv_aload_n hx hb dX2_leastActive_3 rfl (lv_at hl 0 rfl) ?_
      refine va_get (D := D) (ci := 4) (v := .int (nI n)) (C := RX2) (T := TX2) (N := 12) hx hb hts inX2 hown hK hP 1 rfl rfl 0 (by decide) (hts _ wF_X2_7) (fun _ h9 => h9) rfl dX2_leastActive_4 ?_
      refine k_icmp_gt (tgt := 26) hx hb i n rfl rfl (by omega) (by omega) dX2_leastActive_7 (by decide) (fun c7 => ?_) (fun c7 => ?_)
      · skip
        refine lv_iconst (v := 0) hx hb dX2_leastActive_26 (by decide) ?_
        exact ret _ _ _ dX2_leastActive_27 ⟨0, rfl, Or.inl ⟨rfl, fun j a b => h3 j a (by omega)⟩⟩
      · skip
        refine lv_aload_n hx hb dX2_leastActive_10 rfl (lv_at hl 0 rfl) ?_
        refine lv_iload_n hx hb dX2_leastActive_11 rfl (lv_at hl 1 rfl) ?_
        refine k_callR (D := D) C hK hN hP hD (c_X2_isActive hn i (by omega)) hl cf_yX2_isActive wM_X2_48 1 4 rfl rfl rfl rfl (Nat.le_of_ble_eq_true rfl) ⟨by decide, by decide⟩ ⟨Nat.le_of_ble_eq_true rfl, Nat.le_of_ble_eq_true rfl⟩ dX2_leastActive_12 (fun r12 hr12 => ?_)
        have hr12 : r12 = (if X 1 i = 2 then 1 else 0) := hr12
        subst hr12
        refine k_ifeq_P (P := (X 1 i = 2)) (tgt := 20) hx hb rfl dX2_leastActive_15 (by decide) (fun c15 => ?_) (fun c15 => ?_)
        · skip
          refine k_iinc (k := 1) (lv' := [(1, .int (nI (i + 1))), (0, .ref (g 1))]) hx hb i rfl dX2_leastActive_20 hl rfl (by decide) rfl (fun ls hl => ?_)
          refine lv_goto (tgt := 2) hx hb dX2_leastActive_23 (by decide) ?_
          exact ih2 (i + 1) _ (by omega) (by omega) (by omega) (by grind) (lv_sub hl [1, 0] rfl)
        · skip
          refine lv_iload_n hx hb dX2_leastActive_18 rfl (lv_at hl 1 rfl) ?_
          exact ret _ _ _ dX2_leastActive_19 ⟨i, rfl, Or.inr ⟨h1, by omega, c15, h3⟩⟩
  exact L2 ((n + 1 - 1) + 1) 1 _ (Nat.lt_succ_self _) (Nat.le_refl 1) (by omega) (fun j a b => absurd b (by omega)) (lv_sub hl [1, 0] rfl)
set_option maxHeartbeats 4000000 in
set_option maxRecDepth 100000 in
theorem c_X2_countCold {l : Launch} {D : va_G} {cI cZ cL : ClassId} {g : Nat → Nat} {sl mi n : Nat} {X : Nat → Nat → Int32} {cy ss ds fs : Nat} (hn : n ≤ 16) : KR l yX2_countCold (.code yX2_countCold cX2_countCold 3 (some .int)) 0 D (tyz cI cZ cL) [.ref (g 1)] (cw g cI cZ sl mi n X cy ss ds fs) (fun r => r = nI (nCo (X 5) (n + 1))) := by
  refine KR.of (own := RX2) (lvs := [(0, .ref (g 1))]) (by decide) rfl (Nat.le_of_ble_eq_true rfl) rfl ?_
  intro p e s m args below meth c Q C hK hN hP hD ret ls hl
  obtain ⟨hx, hb, hml, hown, hts, hr9, hlk9⟩ := id C
  refine lv_iconst (v := 0) hx hb dX2_countCold_0 (by decide) ?_
  refine lv_istore_n (lv' := [(1, .int 0), (0, .ref (g 1))]) hx hb dX2_countCold_1 rfl hl (by decide) rfl (fun ls hl => ?_)
  refine lv_iconst (v := 1) hx hb dX2_countCold_2 (by decide) ?_
  refine lv_istore_n (lv' := [(2, .int 1), (1, .int 0), (0, .ref (g 1))]) hx hb dX2_countCold_3 rfl hl (by decide) rfl (fun ls hl => ?_)
  have L4 : ∀ (kf : Nat) (i : Nat) (f : Nat) (ls : Array Slot), (n + 1 - i < kf) → (1 ≤ i) → (i ≤ n + 1) → (f = nCo (X 5) i) → (lv_has ls 3 [(0, .ref (g 1)), (1, .int (nI f)), (2, .int (nI i))]) → W p l e (rmK 0) s m args below meth c s.heap [] 0 0 Q (F0 m 4 ls []) := by
    intro kf
    induction kf with
    | zero =>
      intro i f ls hm
      exact absurd hm (Nat.not_lt_zero _)
    | succ kf ih4 =>
      intro i f ls hm h1 h2 h3 hl
      refine lv_iload_n hx hb dX2_countCold_4 rfl (lv_at hl 2 rfl) ?_
      refine lv_aload_n hx hb dX2_countCold_5 rfl (lv_at hl 0 rfl) ?_
      refine va_get (D := D) (ci := 4) (v := .int (nI n)) (C := RX2) (T := TX2) (N := 12) hx hb hts inX2 hown hK hP 1 rfl rfl 0 (by decide) (hts _ wF_X2_7) (fun _ h9 => h9) rfl dX2_countCold_6 ?_
      refine k_icmp_gt (tgt := 30) hx hb i n rfl rfl (by omega) (by omega) dX2_countCold_9 (by decide) (fun c9 => ?_) (fun c9 => ?_)
      · skip
        refine lv_iload_n hx hb dX2_countCold_30 rfl (lv_at hl 1 rfl) ?_
        exact ret _ _ _ dX2_countCold_31 (by rw [h3, show i = n + 1 by omega])
      · skip
        refine lv_aload_n hx hb dX2_countCold_12 rfl (lv_at hl 0 rfl) ?_
        refine va_get (D := D) (ci := 4) (v := .ref (g 15)) (C := RX2) (T := TX2) (N := 12) hx hb hts inX2 hown hK hP 1 rfl rfl 5 (by decide) (hts _ wF_X2_26) (fun _ h9 => h9) rfl dX2_countCold_13 ?_
        refine lv_iload_n hx hb dX2_countCold_16 rfl (lv_at hl 2 rfl) ?_
        refine k_zald (D := D) (f := X 5) hx hb hK hP 9 1 rfl rfl i rfl (by omega) (by omega) dX2_countCold_17 ?_
        refine lv_if_eq (tgt := 24) hx hb dX2_countCold_18 (by decide) (fun c18 => ?_) (fun c18 => ?_)
        · skip
          refine k_iinc (k := 2) (lv' := [(2, .int (nI (i + 1))), (0, .ref (g 1)), (1, .int (nI f))]) hx hb i rfl dX2_countCold_24 hl rfl (by decide) rfl (fun ls hl => ?_)
          refine lv_goto (tgt := 4) hx hb dX2_countCold_27 (by decide) ?_
          exact ih4 (i + 1) f _ (by omega) (by omega) (by omega) (by subst h3; first | exact (cnt_t h1 (decide_eq_true c18)).symm | exact (cnt_f (decide_eq_false (fun z => z c18))).symm) (lv_sub hl [1, 2, 0] rfl)
        · skip
          refine k_iinc (k := 1) (lv' := [(1, .int (nI (f + 1))), (0, .ref (g 1)), (2, .int (nI i))]) hx hb f rfl dX2_countCold_21 hl rfl (by decide) rfl (fun ls hl => ?_)
          refine k_iinc (k := 2) (lv' := [(2, .int (nI (i + 1))), (1, .int (nI (f + 1))), (0, .ref (g 1))]) hx hb i rfl dX2_countCold_24 hl rfl (by decide) rfl (fun ls hl => ?_)
          refine lv_goto (tgt := 4) hx hb dX2_countCold_27 (by decide) ?_
          exact ih4 (i + 1) (f + 1) _ (by omega) (by omega) (by omega) (by subst h3; first | exact (cnt_t h1 (decide_eq_true c18)).symm | exact (cnt_f (decide_eq_false (fun z => z c18))).symm) (lv_sub hl [2, 1, 0] rfl)
  exact L4 ((n + 1 - 1) + 1) 1 0 _ (Nat.lt_succ_self _) (Nat.le_refl 1) (by omega) (cnt_1 _).symm (lv_sub hl [2, 1, 0] rfl)
set_option maxHeartbeats 4000000 in
set_option maxRecDepth 100000 in
theorem c_X2_isStarter {l : Launch} {D : va_G} {cI cZ cL : ClassId} {g : Nat → Nat} {sl mi n : Nat} {X : Nat → Nat → Int32} {cy ss ds fs : Nat} (hn : n ≤ 16) (j : Nat) (hj : j ≤ n) : KR l yX2_isStarter (.code yX2_isStarter cX2_isStarter 2 (some .boolean)) 0 D (tyz cI cZ cL) [.ref (g 1), .int (nI j)] (cw g cI cZ sl mi n X cy ss ds fs) (fun r => r = if isSt (X 1) (X 5) j then 1 else 0) := by
  refine KR.ofz (own := RX2) (lvs := [(0, .ref (g 1)), (1, .int (nI j))]) (by decide) rfl (Nat.le_of_ble_eq_true rfl) rfl ?_
  intro p e s m args below meth c Q C hK hN hP hD ret ls hl
  obtain ⟨hx, hb, hml, hown, hts, hr9, hlk9⟩ := id C
  refine lv_aload_n hx hb dX2_isStarter_0 rfl (lv_at hl 0 rfl) ?_
  refine va_get (D := D) (ci := 4) (v := .ref (g 15)) (C := RX2) (T := TX2) (N := 12) hx hb hts inX2 hown hK hP 1 rfl rfl 5 (by decide) (hts _ wF_X2_26) (fun _ h9 => h9) rfl dX2_isStarter_1 ?_
  refine lv_iload_n hx hb dX2_isStarter_4 rfl (lv_at hl 1 rfl) ?_
  refine k_zald (D := D) (f := X 5) hx hb hK hP 9 1 rfl rfl j rfl (by omega) (by omega) dX2_isStarter_5 ?_
  refine lv_if_eq (tgt := 32) hx hb dX2_isStarter_6 (by decide) (fun c6 => ?_) (fun c6 => ?_)
  · skip
    refine lv_iconst (v := 0) hx hb dX2_isStarter_32 (by decide) ?_
    exact ret _ _ _ dX2_isStarter_33 (Or.inl rfl) (by first | exact ite_n (fun h : isSt (X 1) (X 5) j => h.1 c6) | exact ite_n (fun h : isSt (X 1) (X 5) j => h.2.elim c15 c25))
  · skip
    refine lv_aload_n hx hb dX2_isStarter_9 rfl (lv_at hl 0 rfl) ?_
    refine va_get (D := D) (ci := 4) (v := .ref (g 11)) (C := RX2) (T := TX2) (N := 12) hx hb hts inX2 hown hK hP 1 rfl rfl 1 (by decide) (hts _ wF_X2_13) (fun _ h9 => h9) rfl dX2_isStarter_10 ?_
    refine lv_iload_n hx hb dX2_isStarter_13 rfl (lv_at hl 1 rfl) ?_
    refine k_iald (D := D) (f := X 1) hx hb hK hP 5 0 rfl rfl j rfl (by omega) (by omega) dX2_isStarter_14 ?_
    refine lv_if_eq (tgt := 28) hx hb dX2_isStarter_15 (by decide) (fun c15 => ?_) (fun c15 => ?_)
    · skip
      refine lv_iconst (v := 1) hx hb dX2_isStarter_28 (by decide) ?_
      refine lv_goto (tgt := 33) hx hb dX2_isStarter_29 (by decide) ?_
      exact ret _ _ _ dX2_isStarter_33 (Or.inr rfl) (by first | exact ite_p (⟨c6, Or.inl c15⟩ : isSt (X 1) (X 5) j) | exact ite_p (⟨c6, Or.inr c25⟩ : isSt (X 1) (X 5) j))
    · skip
      refine lv_aload_n hx hb dX2_isStarter_18 rfl (lv_at hl 0 rfl) ?_
      refine va_get (D := D) (ci := 4) (v := .ref (g 11)) (C := RX2) (T := TX2) (N := 12) hx hb hts inX2 hown hK hP 1 rfl rfl 1 (by decide) (hts _ wF_X2_13) (fun _ h9 => h9) rfl dX2_isStarter_19 ?_
      refine lv_iload_n hx hb dX2_isStarter_22 rfl (lv_at hl 1 rfl) ?_
      refine k_iald (D := D) (f := X 1) hx hb hK hP 5 0 rfl rfl j rfl (by omega) (by omega) dX2_isStarter_23 ?_
      refine lv_iconst (v := 1) hx hb dX2_isStarter_24 (by decide) ?_
      refine lv_icmp_ne (tgt := 32) hx hb dX2_isStarter_25 (by decide) (fun c25 => ?_) (fun c25 => ?_)
      · skip
        refine lv_iconst (v := 0) hx hb dX2_isStarter_32 (by decide) ?_
        exact ret _ _ _ dX2_isStarter_33 (Or.inl rfl) (by first | exact ite_n (fun h : isSt (X 1) (X 5) j => h.1 c6) | exact ite_n (fun h : isSt (X 1) (X 5) j => h.2.elim c15 c25))
      · skip
        refine lv_iconst (v := 1) hx hb dX2_isStarter_28 (by decide) ?_
        refine lv_goto (tgt := 33) hx hb dX2_isStarter_29 (by decide) ?_
        exact ret _ _ _ dX2_isStarter_33 (Or.inr rfl) (by first | exact ite_p (⟨c6, Or.inl c15⟩ : isSt (X 1) (X 5) j) | exact ite_p (⟨c6, Or.inr c25⟩ : isSt (X 1) (X 5) j))
set_option maxHeartbeats 4000000 in
set_option maxRecDepth 100000 in
theorem c_X2_countStarters {l : Launch} {D : va_G} {cI cZ cL : ClassId} {g : Nat → Nat} {sl mi n : Nat} {X : Nat → Nat → Int32} {cy ss ds fs : Nat} (hn : n ≤ 16) : KR l yX2_countStarters (.code yX2_countStarters cX2_countStarters 3 (some .int)) 1 D (tyz cI cZ cL) [.ref (g 1)] (cw g cI cZ sl mi n X cy ss ds fs) (fun r => r = nI (nSt (X 1) (X 5) (n + 1))) := by
  refine KR.of (own := RX2) (lvs := [(0, .ref (g 1))]) (by decide) rfl (Nat.le_of_ble_eq_true rfl) rfl ?_
  intro p e s m args below meth c Q C hK hN hP hD ret ls hl
  obtain ⟨hx, hb, hml, hown, hts, hr9, hlk9⟩ := id C
  refine lv_iconst (v := 0) hx hb dX2_countStarters_0 (by decide) ?_
  refine lv_istore_n (lv' := [(1, .int 0), (0, .ref (g 1))]) hx hb dX2_countStarters_1 rfl hl (by decide) rfl (fun ls hl => ?_)
  refine lv_iconst (v := 1) hx hb dX2_countStarters_2 (by decide) ?_
  refine lv_istore_n (lv' := [(2, .int 1), (1, .int 0), (0, .ref (g 1))]) hx hb dX2_countStarters_3 rfl hl (by decide) rfl (fun ls hl => ?_)
  have L4 : ∀ (kf : Nat) (i : Nat) (f : Nat) (ls : Array Slot), (n + 1 - i < kf) → (1 ≤ i) → (i ≤ n + 1) → (f = nSt (X 1) (X 5) i) → (lv_has ls 3 [(0, .ref (g 1)), (1, .int (nI f)), (2, .int (nI i))]) → W p l e (rmK 1) s m args below meth c s.heap [] 0 0 Q (F0 m 4 ls []) := by
    intro kf
    induction kf with
    | zero =>
      intro i f ls hm
      exact absurd hm (Nat.not_lt_zero _)
    | succ kf ih4 =>
      intro i f ls hm h1 h2 h3 hl
      refine lv_iload_n hx hb dX2_countStarters_4 rfl (lv_at hl 2 rfl) ?_
      refine lv_aload_n hx hb dX2_countStarters_5 rfl (lv_at hl 0 rfl) ?_
      refine va_get (D := D) (ci := 4) (v := .int (nI n)) (C := RX2) (T := TX2) (N := 12) hx hb hts inX2 hown hK hP 1 rfl rfl 0 (by decide) (hts _ wF_X2_7) (fun _ h9 => h9) rfl dX2_countStarters_6 ?_
      refine k_icmp_gt (tgt := 29) hx hb i n rfl rfl (by omega) (by omega) dX2_countStarters_9 (by decide) (fun c9 => ?_) (fun c9 => ?_)
      · skip
        refine lv_iload_n hx hb dX2_countStarters_29 rfl (lv_at hl 1 rfl) ?_
        exact ret _ _ _ dX2_countStarters_30 (by rw [h3, show i = n + 1 by omega])
      · skip
        refine lv_aload_n hx hb dX2_countStarters_12 rfl (lv_at hl 0 rfl) ?_
        refine lv_iload_n hx hb dX2_countStarters_13 rfl (lv_at hl 2 rfl) ?_
        refine k_callR (D := D) C hK hN hP hD (c_X2_isStarter hn i (by omega)) hl cf_yX2_isStarter wM_X2_80 1 4 rfl rfl rfl rfl (Nat.le_of_ble_eq_true rfl) ⟨by decide, by decide⟩ ⟨Nat.le_of_ble_eq_true rfl, Nat.le_of_ble_eq_true rfl⟩ dX2_countStarters_14 (fun r14 hr14 => ?_)
        have hr14 : r14 = (if isSt (X 1) (X 5) i then 1 else 0) := hr14
        subst hr14
        refine k_ifeq_P (P := (isSt (X 1) (X 5) i)) (tgt := 23) hx hb rfl dX2_countStarters_17 (by decide) (fun c17 => ?_) (fun c17 => ?_)
        · skip
          refine k_iinc (k := 2) (lv' := [(2, .int (nI (i + 1))), (0, .ref (g 1)), (1, .int (nI f))]) hx hb i rfl dX2_countStarters_23 hl rfl (by decide) rfl (fun ls hl => ?_)
          refine lv_goto (tgt := 4) hx hb dX2_countStarters_26 (by decide) ?_
          exact ih4 (i + 1) f _ (by omega) (by omega) (by omega) (by subst h3; first | exact (cnt_t h1 (decide_eq_true c17)).symm | exact (cnt_f (decide_eq_false c17)).symm) (lv_sub hl [1, 2, 0] rfl)
        · skip
          refine k_iinc (k := 1) (lv' := [(1, .int (nI (f + 1))), (0, .ref (g 1)), (2, .int (nI i))]) hx hb f rfl dX2_countStarters_20 hl rfl (by decide) rfl (fun ls hl => ?_)
          refine k_iinc (k := 2) (lv' := [(2, .int (nI (i + 1))), (1, .int (nI (f + 1))), (0, .ref (g 1))]) hx hb i rfl dX2_countStarters_23 hl rfl (by decide) rfl (fun ls hl => ?_)
          refine lv_goto (tgt := 4) hx hb dX2_countStarters_26 (by decide) ?_
          exact ih4 (i + 1) (f + 1) _ (by omega) (by omega) (by omega) (by subst h3; first | exact (cnt_t h1 (decide_eq_true c17)).symm | exact (cnt_f (decide_eq_false c17)).symm) (lv_sub hl [2, 1, 0] rfl)
  exact L4 ((n + 1 - 1) + 1) 1 0 _ (Nat.lt_succ_self _) (Nat.le_refl 1) (by omega) (cnt_1 _).symm (lv_sub hl [2, 1, 0] rfl)
set_option maxHeartbeats 4000000 in
set_option maxRecDepth 100000 in
theorem c_X2_tellCold {l : Launch} {D : va_G} {cI cZ cL : ClassId} {g : Nat → Nat} {sl mi n : Nat} {X : Nat → Nat → Int32} {cy ss ds fs : Nat} (hn : n ≤ 16) (j : Nat) (hj : j ≤ n) (on : Int32) (ho : on = 0 ∨ on = 1) : KV l yX2_tellCold (.code yX2_tellCold cX2_tellCold 3 none) 0 D (tyz cI cZ cL) [.ref (g 1), .int (nI j), .int on] (cw g cI cZ sl mi n X cy ss ds fs) (fun u => u = if on ≠ 0 ∧ (X 1 j = 3 ∨ X 1 j = 4) then sX (sX (sX (sX X 5 j on) 1 j 0) 2 j 0) 4 j 0 else sX X 5 j on) (fun u : Nat → Nat → Int32 => cw g cI cZ sl mi n u cy ss ds fs) := by
  refine KN.of (own := RX2) (lvs := [(0, .ref (g 1)), (1, .int (nI j)), (2, .int on)]) (by decide) rfl (Nat.le_of_ble_eq_true rfl) rfl ?_
  intro p e s m args below meth c Q C hK hN A hA hP hD hS hin ret ls hl
  obtain ⟨hx, hb, hml, hown, hts, hr9, hlk9⟩ := id C
  refine lv_aload_n hx hb dX2_tellCold_0 rfl (lv_at hl 0 rfl) ?_
  refine va_get (D := D) (ci := 4) (v := .ref (g 15)) (C := RX2) (T := TX2) (N := 12) hx hb hts inX2 hown hK hP 1 rfl rfl 5 (by decide) (hts _ wF_X2_26) (fun _ h9 => h9) rfl dX2_tellCold_1 ?_
  refine lv_iload_n hx hb dX2_tellCold_4 rfl (lv_at hl 1 rfl) ?_
  refine lv_iload_n hx hb dX2_tellCold_5 rfl (lv_at hl 2 rfl) ?_
  refine k_zast (D := D) (f := X 5) (ws' := cw g cI cZ sl mi n (sX X 5 j on) cy ss ds fs) hx hb hK hP hD hS 9 1 rfl rfl j rfl (by omega) (by omega) (by rcases ho with rfl | rfl <;> rfl) rfl dX2_tellCold_6 (fun H locs hP hD hS => ?_)
  refine lv_iload_n hx hb dX2_tellCold_7 rfl (lv_at hl 2 rfl) ?_
  refine lv_if_eq (tgt := 52) hx hb dX2_tellCold_8 (by decide) (fun c8 => ?_) (fun c8 => ?_)
  · skip
    exact ret (sX X 5 j on) _ _ _ _ dX2_tellCold_52 hP hD hS (by first | exact ite_n (fun h => h.1 c8) | exact ite_n (fun h => h.2.elim c18 c28) | exact ite_p ⟨c8, Or.inl c18⟩ | exact ite_p ⟨c8, Or.inr c28⟩)
  · skip
    refine lv_aload_n hx hb dX2_tellCold_11 rfl (lv_at hl 0 rfl) ?_
    refine va_get (D := D) (ci := 4) (v := .ref (g 11)) (C := RX2) (T := TX2) (N := 12) hx hb hts inX2 hown hK hP 1 rfl rfl 1 (by decide) (hts _ wF_X2_13) (fun _ h9 => h9) rfl dX2_tellCold_12 ?_
    refine lv_iload_n hx hb dX2_tellCold_15 rfl (lv_at hl 1 rfl) ?_
    refine k_iald (D := D) (f := X 1) hx hb hK hP 5 0 rfl rfl j rfl (by omega) (by omega) dX2_tellCold_16 ?_
    refine lv_iconst (v := 3) hx hb dX2_tellCold_17 (by decide) ?_
    refine lv_icmp_eq (tgt := 31) hx hb dX2_tellCold_18 (by decide) (fun c18 => ?_) (fun c18 => ?_)
    · skip
      refine lv_aload_n hx hb dX2_tellCold_31 rfl (lv_at hl 0 rfl) ?_
      refine va_get (D := D) (ci := 4) (v := .ref (g 11)) (C := RX2) (T := TX2) (N := 12) hx hb hts inX2 hown hK hP 1 rfl rfl 1 (by decide) (hts _ wF_X2_13) (fun _ h9 => h9) rfl dX2_tellCold_32 ?_
      refine lv_iload_n hx hb dX2_tellCold_35 rfl (lv_at hl 1 rfl) ?_
      refine lv_iconst (v := 0) hx hb dX2_tellCold_36 (by decide) ?_
      refine k_iast (D := D) (f := X 1) (ws' := cw g cI cZ sl mi n (sX (sX X 5 j on) 1 j 0) cy ss ds fs) hx hb hK hP hD hS 5 0 rfl rfl j rfl (by omega) (by omega) rfl dX2_tellCold_37 (fun H locs hP hD hS => ?_)
      refine lv_aload_n hx hb dX2_tellCold_38 rfl (lv_at hl 0 rfl) ?_
      refine va_get (D := D) (ci := 4) (v := .ref (g 12)) (C := RX2) (T := TX2) (N := 12) hx hb hts inX2 hown hK hP 1 rfl rfl 2 (by decide) (hts _ wF_X2_17) (fun _ h9 => h9) rfl dX2_tellCold_39 ?_
      refine lv_iload_n hx hb dX2_tellCold_42 rfl (lv_at hl 1 rfl) ?_
      refine lv_iconst (v := 0) hx hb dX2_tellCold_43 (by decide) ?_
      refine k_iast (D := D) (f := X 2) (ws' := cw g cI cZ sl mi n (sX (sX (sX X 5 j on) 1 j 0) 2 j 0) cy ss ds fs) hx hb hK hP hD hS 6 0 rfl rfl j rfl (by omega) (by omega) rfl dX2_tellCold_44 (fun H locs hP hD hS => ?_)
      refine lv_aload_n hx hb dX2_tellCold_45 rfl (lv_at hl 0 rfl) ?_
      refine va_get (D := D) (ci := 4) (v := .ref (g 14)) (C := RX2) (T := TX2) (N := 12) hx hb hts inX2 hown hK hP 1 rfl rfl 4 (by decide) (hts _ wF_X2_23) (fun _ h9 => h9) rfl dX2_tellCold_46 ?_
      refine lv_iload_n hx hb dX2_tellCold_49 rfl (lv_at hl 1 rfl) ?_
      refine lv_iconst (v := 0) hx hb dX2_tellCold_50 (by decide) ?_
      refine k_iast (D := D) (f := X 4) (ws' := cw g cI cZ sl mi n (sX (sX (sX (sX X 5 j on) 1 j 0) 2 j 0) 4 j 0) cy ss ds fs) hx hb hK hP hD hS 8 0 rfl rfl j rfl (by omega) (by omega) rfl dX2_tellCold_51 (fun H locs hP hD hS => ?_)
      exact ret (sX (sX (sX (sX X 5 j on) 1 j 0) 2 j 0) 4 j 0) _ _ _ _ dX2_tellCold_52 hP hD hS (by first | exact ite_n (fun h => h.1 c8) | exact ite_n (fun h => h.2.elim c18 c28) | exact ite_p ⟨c8, Or.inl c18⟩ | exact ite_p ⟨c8, Or.inr c28⟩)
    · skip
      refine lv_aload_n hx hb dX2_tellCold_21 rfl (lv_at hl 0 rfl) ?_
      refine va_get (D := D) (ci := 4) (v := .ref (g 11)) (C := RX2) (T := TX2) (N := 12) hx hb hts inX2 hown hK hP 1 rfl rfl 1 (by decide) (hts _ wF_X2_13) (fun _ h9 => h9) rfl dX2_tellCold_22 ?_
      refine lv_iload_n hx hb dX2_tellCold_25 rfl (lv_at hl 1 rfl) ?_
      refine k_iald (D := D) (f := X 1) hx hb hK hP 5 0 rfl rfl j rfl (by omega) (by omega) dX2_tellCold_26 ?_
      refine lv_iconst (v := 4) hx hb dX2_tellCold_27 (by decide) ?_
      refine lv_icmp_ne (tgt := 52) hx hb dX2_tellCold_28 (by decide) (fun c28 => ?_) (fun c28 => ?_)
      · skip
        exact ret (sX X 5 j on) _ _ _ _ dX2_tellCold_52 hP hD hS (by first | exact ite_n (fun h => h.1 c8) | exact ite_n (fun h => h.2.elim c18 c28) | exact ite_p ⟨c8, Or.inl c18⟩ | exact ite_p ⟨c8, Or.inr c28⟩)
      · skip
        refine lv_aload_n hx hb dX2_tellCold_31 rfl (lv_at hl 0 rfl) ?_
        refine va_get (D := D) (ci := 4) (v := .ref (g 11)) (C := RX2) (T := TX2) (N := 12) hx hb hts inX2 hown hK hP 1 rfl rfl 1 (by decide) (hts _ wF_X2_13) (fun _ h9 => h9) rfl dX2_tellCold_32 ?_
        refine lv_iload_n hx hb dX2_tellCold_35 rfl (lv_at hl 1 rfl) ?_
        refine lv_iconst (v := 0) hx hb dX2_tellCold_36 (by decide) ?_
        refine k_iast (D := D) (f := X 1) (ws' := cw g cI cZ sl mi n (sX (sX X 5 j on) 1 j 0) cy ss ds fs) hx hb hK hP hD hS 5 0 rfl rfl j rfl (by omega) (by omega) rfl dX2_tellCold_37 (fun H locs hP hD hS => ?_)
        refine lv_aload_n hx hb dX2_tellCold_38 rfl (lv_at hl 0 rfl) ?_
        refine va_get (D := D) (ci := 4) (v := .ref (g 12)) (C := RX2) (T := TX2) (N := 12) hx hb hts inX2 hown hK hP 1 rfl rfl 2 (by decide) (hts _ wF_X2_17) (fun _ h9 => h9) rfl dX2_tellCold_39 ?_
        refine lv_iload_n hx hb dX2_tellCold_42 rfl (lv_at hl 1 rfl) ?_
        refine lv_iconst (v := 0) hx hb dX2_tellCold_43 (by decide) ?_
        refine k_iast (D := D) (f := X 2) (ws' := cw g cI cZ sl mi n (sX (sX (sX X 5 j on) 1 j 0) 2 j 0) cy ss ds fs) hx hb hK hP hD hS 6 0 rfl rfl j rfl (by omega) (by omega) rfl dX2_tellCold_44 (fun H locs hP hD hS => ?_)
        refine lv_aload_n hx hb dX2_tellCold_45 rfl (lv_at hl 0 rfl) ?_
        refine va_get (D := D) (ci := 4) (v := .ref (g 14)) (C := RX2) (T := TX2) (N := 12) hx hb hts inX2 hown hK hP 1 rfl rfl 4 (by decide) (hts _ wF_X2_23) (fun _ h9 => h9) rfl dX2_tellCold_46 ?_
        refine lv_iload_n hx hb dX2_tellCold_49 rfl (lv_at hl 1 rfl) ?_
        refine lv_iconst (v := 0) hx hb dX2_tellCold_50 (by decide) ?_
        refine k_iast (D := D) (f := X 4) (ws' := cw g cI cZ sl mi n (sX (sX (sX (sX X 5 j on) 1 j 0) 2 j 0) 4 j 0) cy ss ds fs) hx hb hK hP hD hS 8 0 rfl rfl j rfl (by omega) (by omega) rfl dX2_tellCold_51 (fun H locs hP hD hS => ?_)
        exact ret (sX (sX (sX (sX X 5 j on) 1 j 0) 2 j 0) 4 j 0) _ _ _ _ dX2_tellCold_52 hP hD hS (by first | exact ite_n (fun h => h.1 c8) | exact ite_n (fun h => h.2.elim c18 c28) | exact ite_p ⟨c8, Or.inl c18⟩ | exact ite_p ⟨c8, Or.inr c28⟩)
set_option maxHeartbeats 4000000 in
set_option maxRecDepth 100000 in
theorem c_X2_forgetHeard {l : Launch} {D : va_G} {cI cZ cL : ClassId} {g : Nat → Nat} {sl mi n : Nat} {X : Nat → Nat → Int32} {cy ss ds fs : Nat} (hn : n ≤ 16) : KV l yX2_forgetHeard (.code yX2_forgetHeard cX2_forgetHeard 2 none) 0 D (tyz cI cZ cL) [.ref (g 1)] (cw g cI cZ sl mi n X cy ss ds fs) (fun u => (∀ j, 1 ≤ j → j ≤ n → u 7 j = 0) ∧ ∀ a, a ≠ 7 → u a = X a) (fun u : Nat → Nat → Int32 => cw g cI cZ sl mi n u cy ss ds fs) := by
  refine KN.of (own := RX2) (lvs := [(0, .ref (g 1))]) (by decide) rfl (Nat.le_of_ble_eq_true rfl) rfl ?_
  intro p e s m args below meth c Q C hK hN A hA hP hD hS hin ret ls hl
  obtain ⟨hx, hb, hml, hown, hts, hr9, hlk9⟩ := id C
  refine lv_iconst (v := 1) hx hb dX2_forgetHeard_0 (by decide) ?_
  refine lv_istore_n (lv' := [(1, .int 1), (0, .ref (g 1))]) hx hb dX2_forgetHeard_1 rfl hl (by decide) rfl (fun ls hl => ?_)
  have L2 : ∀ (kf : Nat) (i : Nat) (X' : Nat → Nat → Int32) (H : Heap) (locs : List Loc) (ls : Array Slot), (n + 1 - i < kf) → (1 ≤ i) → (i ≤ n + 1) → (∀ j, 1 ≤ j → j < i → X' 7 j = 0) → (∀ a, a ≠ 7 → X' a = X a) → (va_P D vwCl (cw g cI cZ sl mi n X' cy ss ds fs) H) → (va_D A (cw g cI cZ sl mi n X' cy ss ds fs)) → (va_S A s.heap H locs) → (lv_has ls 2 [(0, .ref (g 1)), (1, .int (nI i))]) → W p l e (rmK 0) s m args below meth c H locs 0 0 Q (F0 m 2 ls []) := by
    intro kf
    induction kf with
    | zero =>
      intro i X' H locs ls hm
      exact absurd hm (Nat.not_lt_zero _)
    | succ kf ih2 =>
      intro i X' H locs ls hm h1 h2 h3 h5 hP hD hS hl
      refine lv_iload_n hx hb dX2_forgetHeard_2 rfl (lv_at hl 1 rfl) ?_
      refine lv_aload_n hx hb dX2_forgetHeard_3 rfl (lv_at hl 0 rfl) ?_
      refine va_get (D := D) (ci := 4) (v := .int (nI n)) (C := RX2) (T := TX2) (N := 12) hx hb hts inX2 hown hK hP 1 rfl rfl 0 (by decide) (hts _ wF_X2_7) (fun _ h9 => h9) rfl dX2_forgetHeard_4 ?_
      refine k_icmp_gt (tgt := 23) hx hb i n rfl rfl (by omega) (by omega) dX2_forgetHeard_7 (by decide) (fun c7 => ?_) (fun c7 => ?_)
      · skip
        exact ret X' _ _ _ _ dX2_forgetHeard_23 hP hD hS ⟨fun j a b => h3 j a (by omega), h5⟩
      · skip
        refine lv_aload_n hx hb dX2_forgetHeard_10 rfl (lv_at hl 0 rfl) ?_
        refine va_get (D := D) (ci := 4) (v := .ref (g 17)) (C := RX2) (T := TX2) (N := 12) hx hb hts inX2 hown hK hP 1 rfl rfl 7 (by decide) (hts _ wF_X2_33) (fun _ h9 => h9) rfl dX2_forgetHeard_11 ?_
        refine lv_iload_n hx hb dX2_forgetHeard_14 rfl (lv_at hl 1 rfl) ?_
        refine lv_iconst (v := 0) hx hb dX2_forgetHeard_15 (by decide) ?_
        refine k_zast (D := D) (f := X' 7) (ws' := cw g cI cZ sl mi n (sX X' 7 i 0) cy ss ds fs) hx hb hK hP hD hS 11 1 rfl rfl i rfl (by omega) (by omega) rfl rfl dX2_forgetHeard_16 (fun H locs hP hD hS => ?_)
        refine k_iinc (k := 1) (lv' := [(1, .int (nI (i + 1))), (0, .ref (g 1))]) hx hb i rfl dX2_forgetHeard_17 hl rfl (by decide) rfl (fun ls hl => ?_)
        refine lv_goto (tgt := 2) hx hb dX2_forgetHeard_20 (by decide) ?_
        exact ih2 (i + 1) (sX X' 7 i 0) _ _ _ (by omega) (by omega) (by omega) (by intro j a b; rw [sX_app]; grind) (fun a ha => by rw [sX_ne ha]; exact h5 a ha) hP hD hS (lv_sub hl [1, 0] rfl)
  exact L2 ((n + 1 - 1) + 1) 1 X _ _ _ (Nat.lt_succ_self _) (Nat.le_refl 1) (by omega) (fun j a b => absurd b (by omega)) (fun _ _ => rfl) hP hD hS (lv_sub hl [1, 0] rfl)
set_option maxHeartbeats 4000000 in
set_option maxRecDepth 100000 in
theorem c_X2_startCold {l : Launch} {D : va_G} {cI cZ cL : ClassId} {g : Nat → Nat} {sl mi n : Nat} {X : Nat → Nat → Int32} {cy ss ds fs : Nat} (hn : n ≤ 16) : KV l yX2_startCold (.code yX2_startCold cX2_startCold 2 none) 1 D (tyz cI cZ cL) [.ref (g 1)] (cw g cI cZ sl mi n X cy ss ds fs) (fun u => (∀ j, 1 ≤ j → j ≤ n → u 1 j = if isSt (X 1) (X 5) j then 2 else X 1 j) ∧ ∀ a, a ≠ 1 → u a = X a) (fun u : Nat → Nat → Int32 => cw g cI cZ sl mi n u cy ss ds fs) := by
  refine KN.of (own := RX2) (lvs := [(0, .ref (g 1))]) (by decide) rfl (Nat.le_of_ble_eq_true rfl) rfl ?_
  intro p e s m args below meth c Q C hK hN A hA hP hD hS hin ret ls hl
  obtain ⟨hx, hb, hml, hown, hts, hr9, hlk9⟩ := id C
  refine lv_iconst (v := 1) hx hb dX2_startCold_0 (by decide) ?_
  refine lv_istore_n (lv' := [(1, .int 1), (0, .ref (g 1))]) hx hb dX2_startCold_1 rfl hl (by decide) rfl (fun ls hl => ?_)
  have L2 : ∀ (kf : Nat) (i : Nat) (X' : Nat → Nat → Int32) (H : Heap) (locs : List Loc) (ls : Array Slot), (n + 1 - i < kf) → (1 ≤ i) → (i ≤ n + 1) → (∀ j, 1 ≤ j → j < i → X' 1 j = if isSt (X 1) (X 5) j then 2 else X 1 j) → (∀ j, i ≤ j → X' 1 j = X 1 j) → (∀ a, a ≠ 1 → X' a = X a) → (va_P D vwCl (cw g cI cZ sl mi n X' cy ss ds fs) H) → (va_D A (cw g cI cZ sl mi n X' cy ss ds fs)) → (va_S A s.heap H locs) → (lv_has ls 2 [(0, .ref (g 1)), (1, .int (nI i))]) → W p l e (rmK 1) s m args below meth c H locs 0 0 Q (F0 m 2 ls []) := by
    intro kf
    induction kf with
    | zero =>
      intro i X' H locs ls hm
      exact absurd hm (Nat.not_lt_zero _)
    | succ kf ih2 =>
      intro i X' H locs ls hm h1 h2 h3 h4 h5 hP hD hS hl
      refine lv_iload_n hx hb dX2_startCold_2 rfl (lv_at hl 1 rfl) ?_
      refine lv_aload_n hx hb dX2_startCold_3 rfl (lv_at hl 0 rfl) ?_
      refine va_get (D := D) (ci := 4) (v := .int (nI n)) (C := RX2) (T := TX2) (N := 12) hx hb hts inX2 hown hK hP 1 rfl rfl 0 (by decide) (hts _ wF_X2_7) (fun _ h9 => h9) rfl dX2_startCold_4 ?_
      refine k_icmp_gt (tgt := 31) hx hb i n rfl rfl (by omega) (by omega) dX2_startCold_7 (by decide) (fun c7 => ?_) (fun c7 => ?_)
      · skip
        exact ret X' _ _ _ _ dX2_startCold_31 hP hD hS ⟨fun j a b => h3 j a (by omega), h5⟩
      · skip
        refine lv_aload_n hx hb dX2_startCold_10 rfl (lv_at hl 0 rfl) ?_
        refine lv_iload_n hx hb dX2_startCold_11 rfl (lv_at hl 1 rfl) ?_
        refine k_callR (D := D) C hK hN hP hD (c_X2_isStarter hn i (by omega)) hl cf_yX2_isStarter wM_X2_80 1 4 rfl rfl rfl rfl (Nat.le_of_ble_eq_true rfl) ⟨by decide, by decide⟩ ⟨Nat.le_of_ble_eq_true rfl, Nat.le_of_ble_eq_true rfl⟩ dX2_startCold_12 (fun r12 hr12 => ?_)
        have hr12 : r12 = (if isSt (X' 1) (X' 5) i then 1 else 0) := hr12
        subst hr12
        refine k_ifeq_P (P := (isSt (X' 1) (X' 5) i)) (tgt := 25) hx hb rfl dX2_startCold_15 (by decide) (fun c15 => ?_) (fun c15 => ?_)
        · skip
          have hs : ¬ isSt (X 1) (X 5) i := by rw [← h5 5 (by decide)]; exact fun z => c15 ⟨z.1, by rw [h4 i (Nat.le_refl i)]; exact z.2⟩
          refine k_iinc (k := 1) (lv' := [(1, .int (nI (i + 1))), (0, .ref (g 1))]) hx hb i rfl dX2_startCold_25 hl rfl (by decide) rfl (fun ls hl => ?_)
          refine lv_goto (tgt := 2) hx hb dX2_startCold_28 (by decide) ?_
          exact ih2 (i + 1) X' _ _ _ (by omega) (by omega) (by omega) (by intro j a b; (try rw [sX_app]); grind) (by intro j a; (try rw [sX_app]); grind) (by first | exact h5 | exact fun a ha => by rw [sX_ne ha]; exact h5 a ha) hP hD hS (lv_sub hl [1, 0] rfl)
        · skip
          have hs : isSt (X 1) (X 5) i := by rw [← h5 5 (by decide)]; exact ⟨c15.1, by rw [← h4 i (Nat.le_refl i)]; exact c15.2⟩
          refine lv_aload_n hx hb dX2_startCold_18 rfl (lv_at hl 0 rfl) ?_
          refine va_get (D := D) (ci := 4) (v := .ref (g 11)) (C := RX2) (T := TX2) (N := 12) hx hb hts inX2 hown hK hP 1 rfl rfl 1 (by decide) (hts _ wF_X2_13) (fun _ h9 => h9) rfl dX2_startCold_19 ?_
          refine lv_iload_n hx hb dX2_startCold_22 rfl (lv_at hl 1 rfl) ?_
          refine lv_iconst (v := 2) hx hb dX2_startCold_23 (by decide) ?_
          refine k_iast (D := D) (f := X' 1) (ws' := cw g cI cZ sl mi n (sX X' 1 i 2) cy ss ds fs) hx hb hK hP hD hS 5 0 rfl rfl i rfl (by omega) (by omega) rfl dX2_startCold_24 (fun H locs hP hD hS => ?_)
          refine k_iinc (k := 1) (lv' := [(1, .int (nI (i + 1))), (0, .ref (g 1))]) hx hb i rfl dX2_startCold_25 hl rfl (by decide) rfl (fun ls hl => ?_)
          refine lv_goto (tgt := 2) hx hb dX2_startCold_28 (by decide) ?_
          exact ih2 (i + 1) (sX X' 1 i 2) _ _ _ (by omega) (by omega) (by omega) (by intro j a b; (try rw [sX_app]); grind) (by intro j a; (try rw [sX_app]); grind) (by first | exact h5 | exact fun a ha => by rw [sX_ne ha]; exact h5 a ha) hP hD hS (lv_sub hl [1, 0] rfl)
  exact L2 ((n + 1 - 1) + 1) 1 X _ _ _ (Nat.lt_succ_self _) (Nat.le_refl 1) (by omega) (fun j a b => absurd b (by omega)) (fun _ _ => rfl) (fun _ _ => rfl) hP hD hS (lv_sub hl [1, 0] rfl)
set_option maxHeartbeats 4000000 in
set_option maxRecDepth 100000 in
theorem c_X2_listen {l : Launch} {D : va_G} {cI cZ cL : ClassId} {g : Nat → Nat} {sl mi n : Nat} {X : Nat → Nat → Int32} {cy ss ds fs : Nat} (hn : n ≤ 16) (j : Nat) (hj : j ≤ n) (ld : Nat) (hld : ld ≤ n) : KV l yX2_listen (.code yX2_listen cX2_listen 3 none) 0 D (tyz cI cZ cL) [.ref (g 1), .int (nI j), .int (nI ld)] (cw g cI cZ sl mi n X cy ss ds fs) (fun u => u = if 2 ≤ X 6 j + 1 then sX (sX (sX X 6 j (X 6 j + 1)) 1 j 2) 2 j (X 2 ld) else sX X 6 j (X 6 j + 1)) (fun u : Nat → Nat → Int32 => cw g cI cZ sl mi n u cy ss ds fs) := by
  refine KN.of (own := RX2) (lvs := [(0, .ref (g 1)), (1, .int (nI j)), (2, .int (nI ld))]) (by decide) rfl (Nat.le_of_ble_eq_true rfl) rfl ?_
  intro p e s m args below meth c Q C hK hN A hA hP hD hS hin ret ls hl
  obtain ⟨hx, hb, hml, hown, hts, hr9, hlk9⟩ := id C
  refine lv_aload_n hx hb dX2_listen_0 rfl (lv_at hl 0 rfl) ?_
  refine va_get (D := D) (ci := 4) (v := .ref (g 16)) (C := RX2) (T := TX2) (N := 12) hx hb hts inX2 hown hK hP 1 rfl rfl 6 (by decide) (hts _ wF_X2_30) (fun _ h9 => h9) rfl dX2_listen_1 ?_
  refine lv_iload_n hx hb dX2_listen_4 rfl (lv_at hl 1 rfl) ?_
  refine lv_dup2_11 hx hb dX2_listen_5 rfl rfl ?_
  refine k_iald (D := D) (f := X 6) hx hb hK hP 10 0 rfl rfl j rfl (by omega) (by omega) dX2_listen_6 ?_
  refine lv_iconst (v := 1) hx hb dX2_listen_7 (by decide) ?_
  refine lv_iadd hx hb dX2_listen_8 ?_
  refine k_iast (D := D) (f := X 6) (ws' := cw g cI cZ sl mi n (sX X 6 j ((X 6 j) + 1)) cy ss ds fs) hx hb hK hP hD hS 10 0 rfl rfl j rfl (by omega) (by omega) rfl dX2_listen_9 (fun H locs hP hD hS => ?_)
  refine lv_aload_n hx hb dX2_listen_10 rfl (lv_at hl 0 rfl) ?_
  refine va_get (D := D) (ci := 4) (v := .ref (g 16)) (C := RX2) (T := TX2) (N := 12) hx hb hts inX2 hown hK hP 1 rfl rfl 6 (by decide) (hts _ wF_X2_30) (fun _ h9 => h9) rfl dX2_listen_11 ?_
  refine lv_iload_n hx hb dX2_listen_14 rfl (lv_at hl 1 rfl) ?_
  refine k_iald (D := D) (f := (sX X 6 j ((X 6 j) + 1)) 6) hx hb hK hP 10 0 rfl rfl j rfl (by omega) (by omega) dX2_listen_15 ?_
  refine k_int (y := (X 6 j + 1)) sX_at ?_
  refine lv_iconst (v := 2) hx hb dX2_listen_16 (by decide) ?_
  refine lv_icmp_lt (tgt := 39) hx hb dX2_listen_17 (by decide) (fun c17 => ?_) (fun c17 => ?_)
  · skip
    exact ret (sX X 6 j ((X 6 j) + 1)) _ _ _ _ dX2_listen_39 hP hD hS (by first | exact ite_n (i32_nlt c17) | exact ite_p (Int32.not_lt.mp c17))
  · skip
    refine lv_aload_n hx hb dX2_listen_20 rfl (lv_at hl 0 rfl) ?_
    refine va_get (D := D) (ci := 4) (v := .ref (g 11)) (C := RX2) (T := TX2) (N := 12) hx hb hts inX2 hown hK hP 1 rfl rfl 1 (by decide) (hts _ wF_X2_13) (fun _ h9 => h9) rfl dX2_listen_21 ?_
    refine lv_iload_n hx hb dX2_listen_24 rfl (lv_at hl 1 rfl) ?_
    refine lv_iconst (v := 2) hx hb dX2_listen_25 (by decide) ?_
    refine k_iast (D := D) (f := X 1) (ws' := cw g cI cZ sl mi n (sX (sX X 6 j ((X 6 j) + 1)) 1 j 2) cy ss ds fs) hx hb hK hP hD hS 5 0 rfl rfl j rfl (by omega) (by omega) rfl dX2_listen_26 (fun H locs hP hD hS => ?_)
    refine lv_aload_n hx hb dX2_listen_27 rfl (lv_at hl 0 rfl) ?_
    refine va_get (D := D) (ci := 4) (v := .ref (g 12)) (C := RX2) (T := TX2) (N := 12) hx hb hts inX2 hown hK hP 1 rfl rfl 2 (by decide) (hts _ wF_X2_17) (fun _ h9 => h9) rfl dX2_listen_28 ?_
    refine lv_iload_n hx hb dX2_listen_31 rfl (lv_at hl 1 rfl) ?_
    refine lv_aload_n hx hb dX2_listen_32 rfl (lv_at hl 0 rfl) ?_
    refine va_get (D := D) (ci := 4) (v := .ref (g 12)) (C := RX2) (T := TX2) (N := 12) hx hb hts inX2 hown hK hP 1 rfl rfl 2 (by decide) (hts _ wF_X2_17) (fun _ h9 => h9) rfl dX2_listen_33 ?_
    refine lv_iload_n hx hb dX2_listen_36 rfl (lv_at hl 2 rfl) ?_
    refine k_iald (D := D) (f := X 2) hx hb hK hP 6 0 rfl rfl ld rfl (by omega) (by omega) dX2_listen_37 ?_
    refine k_iast (D := D) (f := X 2) (ws' := cw g cI cZ sl mi n (sX (sX (sX X 6 j ((X 6 j) + 1)) 1 j 2) 2 j (X 2 ld)) cy ss ds fs) hx hb hK hP hD hS 6 0 rfl rfl j rfl (by omega) (by omega) rfl dX2_listen_38 (fun H locs hP hD hS => ?_)
    exact ret (sX (sX (sX X 6 j ((X 6 j) + 1)) 1 j 2) 2 j (X 2 ld)) _ _ _ _ dX2_listen_39 hP hD hS (by first | exact ite_n (i32_nlt c17) | exact ite_p (Int32.not_lt.mp c17))
