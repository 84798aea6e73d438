/-! the calls, held against each other -/
theorem le_m1 {a e : Int32} (he : isEv e) : a ≤ e - 1 ↔ a < e := by
  rw [Int32.le_iff_toInt_le, Int32.lt_iff_toInt_lt]
  rcases he with rfl | rfl | rfl | rfl | rfl | rfl | rfl
  · have h1 : ((1 : Int32) - 1).toInt = 0 := by decide
    have h2 : (1 : Int32).toInt = 1 := by decide
    rw [h1, h2]; omega
  · have h1 : ((2 : Int32) - 1).toInt = 1 := by decide
    have h2 : (2 : Int32).toInt = 2 := by decide
    rw [h1, h2]; omega
  · have h1 : ((4 : Int32) - 1).toInt = 3 := by decide
    have h2 : (4 : Int32).toInt = 4 := by decide
    rw [h1, h2]; omega
  · have h1 : ((8 : Int32) - 1).toInt = 7 := by decide
    have h2 : (8 : Int32).toInt = 8 := by decide
    rw [h1, h2]; omega
  · have h1 : ((16 : Int32) - 1).toInt = 15 := by decide
    have h2 : (16 : Int32).toInt = 16 := by decide
    rw [h1, h2]; omega
  · have h1 : ((32 : Int32) - 1).toInt = 31 := by decide
    have h2 : (32 : Int32).toInt = 32 := by decide
    rw [h1, h2]; omega
  · have h1 : ((64 : Int32) - 1).toInt = 63 := by decide
    have h2 : (64 : Int32).toInt = 64 := by decide
    rw [h1, h2]; omega
theorem k2_iff {ch ba ev : Int32} : ((1 ≤ ch ∧ ch ≤ 3) ∧ isEv ev ∧ 0 ≤ ba ∧ ba ≤ ev - 1) ↔ ((1 ≤ ch ∧ ch ≤ 3) ∧ isEv ev ∧ 0 ≤ ba ∧ ba < ev) := by
  constructor
  · rintro ⟨a, b, c, d⟩; exact ⟨a, b, c, (le_m1 b).mp d⟩
  · rintro ⟨a, b, c, d⟩; exact ⟨a, b, c, (le_m1 b).mpr d⟩
theorem cl_iff {sl n i : Nat} {X Y : NN} {q ch ba ev : Int32} (hF : FR sl n X Y i) (hev : isEv ev) (hba : 0 ≤ ba) : Cl (X 13) (X 14) (X 15) (X 16) q ch ba ev i ↔ ClR (Y 17) (Y 18) (Y 19) (Y 20) q ch ba ev i := by
  obtain ⟨⟨e12, e13, e14, e15, e16⟩, -, -, he, h0, -⟩ := hF
  unfold Cl ClR
  rw [← e13, ← e14, ← e15, ← e16, les_eq, mask_rem' hba (les_ev he hev), mask_rem' h0 (les_ev he hev)]
theorem ch_3 {ch : Int32} (h : 1 ≤ ch ∧ ch ≤ 3) : ch = 1 ∨ ch = 2 ∨ ch = 3 := by
  have := (inR_iff (x := ch) (a := 1) (b := 3) (by decide) (by decide)).mp h
  obtain ⟨j, h1, h2, rfl⟩ := inR_of this
  have : j = 1 ∨ j = 2 ∨ j = 3 := by omega
  rcases this with rfl | rfl | rfl
  · exact Or.inl rfl
  · exact Or.inr (Or.inl rfl)
  · exact Or.inr (Or.inr rfl)
section CALLS
variable {sl n cy ss ds fs : Nat} {X Y : NN}
/-- only arrays that a node's row does not speak of have changed -/
theorem Rel_nodes {X1 Y1 : NN} (h : ∀ j, 1 ≤ j → j ≤ n → RN X Y cy j) (hx : ∀ a, (a = 1 ∨ a = 2 ∨ a = 3 ∨ a = 4 ∨ a = 5 ∨ a = 6 ∨ a = 9 ∨ a = 10) → X1 a = X a) (hy : ∀ a, (a = 4 ∨ a = 5 ∨ a = 6 ∨ a = 7 ∨ a = 8 ∨ a = 9 ∨ a = 10 ∨ a = 11) → Y1 a = Y a) : ∀ j, 1 ≤ j → j ≤ n → RN X1 Y1 cy j :=
  fun j a b => RN_congr (fun c hc => by rw [hx c hc]) (fun c hc => by rw [hy c hc]) (h j a b)
theorem dl_inv {a b c a' b' c' : Nat} (h : dl X a b c ds = dl Y a' b' c' ds) : ∀ k, k < ds → X a k = Y a' k ∧ X b k = Y b' k ∧ X c k = Y c' k := by
  intro k hk
  have h1 : (dl X a b c ds)[k]? = some (X a k, X b k, X c k) := by simp [dl, hk]
  have h2 : (dl Y a' b' c' ds)[k]? = some (Y a' k, Y b' k, Y c' k) := by simp [dl, hk]
  rw [h, h2] at h1
  have := Option.some.inj h1
  exact ⟨(congrArg Prod.fst this).symm, (congrArg (fun q : T3 => q.2.1) this).symm, (congrArg (fun q : T3 => q.2.2) this).symm⟩
theorem frame_call (hR : Rel sl n X Y cy ss ds fs) {x q ch ba ev r r' : Int32} {u u' : NN × Nat}
    (h : (¬ (inR x 1 n ∧ inR q 0 (sl - 1)) ∧ r = -1 ∧ u = (X, ss)) ∨ ((inR x 1 n ∧ inR q 0 (sl - 1)) ∧ ¬ ((1 ≤ ch ∧ ch ≤ 3) ∧ isEv ev ∧ 0 ≤ ba ∧ ba ≤ ev - 1) ∧ r = -2 ∧ u = (X, ss)) ∨ ((inR x 1 n ∧ inR q 0 (sl - 1)) ∧ ((1 ≤ ch ∧ ch ≤ 3) ∧ isEv ev ∧ 0 ≤ ba ∧ ba ≤ ev - 1) ∧ (∃ i, i < ss ∧ Cl (X 13) (X 14) (X 15) (X 16) q ch ba ev i) ∧ r = -3 ∧ u = (X, ss)) ∨ ((inR x 1 n ∧ inR q 0 (sl - 1)) ∧ ((1 ≤ ch ∧ ch ≤ 3) ∧ isEv ev ∧ 0 ≤ ba ∧ ba ≤ ev - 1) ∧ (∀ i, i < ss → ¬ Cl (X 13) (X 14) (X 15) (X 16) q ch ba ev i) ∧ 100 ≤ ss ∧ r = -4 ∧ u = (X, ss)) ∨ ((inR x 1 n ∧ inR q 0 (sl - 1)) ∧ ((1 ≤ ch ∧ ch ≤ 3) ∧ isEv ev ∧ 0 ≤ ba ∧ ba ≤ ev - 1) ∧ (∀ i, i < ss → ¬ Cl (X 13) (X 14) (X 15) (X 16) q ch ba ev i) ∧ ss < 100 ∧ r = nI (ss + 1) ∧ u = (sX (sX (sX (sX (sX X 12 ss x) 13 ss q) 14 ss ch) 15 ss ba) 16 ss ev, ss + 1)))
    (h' : (¬ (inR x 1 n ∧ inR q 0 (sl - 1)) ∧ r' = -1 ∧ u' = (Y, ss)) ∨ ((inR x 1 n ∧ inR q 0 (sl - 1)) ∧ ¬ ((1 ≤ ch ∧ ch ≤ 3) ∧ isEv ev ∧ 0 ≤ ba ∧ ba < ev) ∧ r' = -2 ∧ u' = (Y, ss)) ∨ ((inR x 1 n ∧ inR q 0 (sl - 1)) ∧ ((1 ≤ ch ∧ ch ≤ 3) ∧ isEv ev ∧ 0 ≤ ba ∧ ba < ev) ∧ (∃ i, i < ss ∧ ClR (Y 17) (Y 18) (Y 19) (Y 20) q ch ba ev i) ∧ r' = -3 ∧ u' = (Y, ss)) ∨ ((inR x 1 n ∧ inR q 0 (sl - 1)) ∧ ((1 ≤ ch ∧ ch ≤ 3) ∧ isEv ev ∧ 0 ≤ ba ∧ ba < ev) ∧ (∀ i, i < ss → ¬ ClR (Y 17) (Y 18) (Y 19) (Y 20) q ch ba ev i) ∧ 100 ≤ ss ∧ r' = -4 ∧ u' = (Y, ss)) ∨ ((inR x 1 n ∧ inR q 0 (sl - 1)) ∧ ((1 ≤ ch ∧ ch ≤ 3) ∧ isEv ev ∧ 0 ≤ ba ∧ ba < ev) ∧ (∀ i, i < ss → ¬ ClR (Y 17) (Y 18) (Y 19) (Y 20) q ch ba ev i) ∧ ss < 100 ∧ r' = nI (ss + 1) ∧ u' = (sX (sX (sX (sX (sX Y 16 ss x) 17 ss q) 18 ss ch) 19 ss ba) 20 ss ev, ss + 1)))
    (hs1 : 1 ≤ sl) : r = r' ∧ u'.2 = u.2 ∧ Rel sl n u.1 u'.1 cy u.2 ds fs := by
  rw [← k2_iff] at h'
  obtain ⟨hN, hF, hC, hD, hf, hss, hds⟩ := id hR
  by_cases A : inR x 1 n ∧ inR q 0 (sl - 1)
  · have h := h.resolve_left (fun z => z.1 A)
    have h' := h'.resolve_left (fun z => z.1 A)
    by_cases B : (1 ≤ ch ∧ ch ≤ 3) ∧ isEv ev ∧ 0 ≤ ba ∧ ba ≤ ev - 1
    · have h := h.resolve_left (fun z => z.2.1 B)
      have h' := h'.resolve_left (fun z => z.2.1 B)
      have ci : ∀ i, i < ss → (Cl (X 13) (X 14) (X 15) (X 16) q ch ba ev i ↔ ClR (Y 17) (Y 18) (Y 19) (Y 20) q ch ba ev i) := fun i hi => cl_iff (hF i hi) B.2.1 B.2.2.1
      by_cases E : ∃ i, i < ss ∧ Cl (X 13) (X 14) (X 15) (X 16) q ch ba ev i
      · obtain ⟨i, hi, hc⟩ := E
        have E' : ClR (Y 17) (Y 18) (Y 19) (Y 20) q ch ba ev i := (ci i hi).mp hc
        rcases h with ⟨-, -, -, rfl, rfl⟩ | ⟨-, -, z, -⟩ | ⟨-, -, z, -⟩
        · rcases h' with ⟨-, -, -, rfl, rfl⟩ | ⟨-, -, z, -⟩ | ⟨-, -, z, -⟩
          · exact ⟨rfl, rfl, hR⟩
          · exact absurd E' (z i hi)
          · exact absurd E' (z i hi)
        · exact absurd hc (z i hi)
        · exact absurd hc (z i hi)
      · have h := h.resolve_left (fun z => E z.2.2.1)
        have h' := h'.resolve_left (fun z => E (by obtain ⟨i, a, b⟩ := z.2.2.1; exact ⟨i, a, (ci i a).mpr b⟩))
        rcases h with ⟨-, -, -, a1, rfl, rfl⟩ | ⟨-, -, hno, a1, rfl, rfl⟩
        · rcases h' with ⟨-, -, -, a2, rfl, rfl⟩ | ⟨-, -, -, a2, rfl, rfl⟩
          · exact ⟨rfl, rfl, hR⟩
          · omega
        · rcases h' with ⟨-, -, -, a2, rfl, rfl⟩ | ⟨-, -, -, a2, rfl, rfl⟩
          · omega
          · refine ⟨rfl, rfl, ?_, ?_, ?_, ?_, ?_, by show ss + 1 ≤ 100; omega, hds⟩
            · exact Rel_nodes hN (fun a ha => by show sX (sX (sX (sX (sX X 12 ss x) 13 ss q) 14 ss ch) 15 ss ba) 16 ss ev a = X a; rw [sX_ne (by omega), sX_ne (by omega), sX_ne (by omega), sX_ne (by omega), sX_ne (by omega)]) (fun a ha => by show sX (sX (sX (sX (sX Y 16 ss x) 17 ss q) 18 ss ch) 19 ss ba) 20 ss ev a = Y a; rw [sX_ne (by omega), sX_ne (by omega), sX_ne (by omega), sX_ne (by omega), sX_ne (by omega)])
            · intro i hi
              have hi : i < ss + 1 := hi
              by_cases e : i = ss
              · subst e
                obtain ⟨k, k1, k2, rfl⟩ := inR_of A.2
                refine ⟨?_, ?_, ⟨k, Nat.lt_of_le_of_lt k2 (Nat.sub_lt hs1 Nat.one_pos), ?_⟩, ?_, ?_, ?_, ?_⟩
                · simp [sX_app]
                · simp only [sX_app]; simp; exact A.1
                · simp [sX_app]
                · simp only [sX_app]; simp; exact B.2.1
                · simp only [sX_app]; simp; exact B.2.2.1
                · simp only [sX_app]; simp; exact (le_m1 B.2.1).mp B.2.2.2
                · simp only [sX_app]; simp; exact ch_3 B.1
              · exact FR_congr (fun a _ => by show sX (sX (sX (sX (sX X 12 ss x) 13 ss q) 14 ss ch) 15 ss ba) 16 ss ev a i = X a i; rw [six e, six e, six e, six e, six e]) (fun a _ => by show sX (sX (sX (sX (sX Y 16 ss x) 17 ss q) 18 ss ch) 19 ss ba) 20 ss ev a i = Y a i; rw [six e, six e, six e, six e, six e]) (hF i (by omega))
            · intro i j hij hj
              have hj : j < ss + 1 := hj
              have ei : i ≠ ss := by omega
              show ¬ Cl (sX (sX (sX (sX (sX X 12 ss x) 13 ss q) 14 ss ch) 15 ss ba) 16 ss ev 13) (sX (sX (sX (sX (sX X 12 ss x) 13 ss q) 14 ss ch) 15 ss ba) 16 ss ev 14) (sX (sX (sX (sX (sX X 12 ss x) 13 ss q) 14 ss ch) 15 ss ba) 16 ss ev 15) (sX (sX (sX (sX (sX X 12 ss x) 13 ss q) 14 ss ch) 15 ss ba) 16 ss ev 16) (sX (sX (sX (sX (sX X 12 ss x) 13 ss q) 14 ss ch) 15 ss ba) 16 ss ev 13 j) (sX (sX (sX (sX (sX X 12 ss x) 13 ss q) 14 ss ch) 15 ss ba) 16 ss ev 14 j) (sX (sX (sX (sX (sX X 12 ss x) 13 ss q) 14 ss ch) 15 ss ba) 16 ss ev 15 j) (sX (sX (sX (sX (sX X 12 ss x) 13 ss q) 14 ss ch) 15 ss ba) 16 ss ev 16 j) i
              have g : ∀ a, sX (sX (sX (sX (sX X 12 ss x) 13 ss q) 14 ss ch) 15 ss ba) 16 ss ev a i = X a i := fun a => by rw [six ei, six ei, six ei, six ei, six ei]
              unfold Cl
              rw [g 13, g 14, g 15, g 16]
              by_cases e : j = ss
              · subst e
                have z := hno i (by omega)
                simp only [sX_app]
                simp
                unfold Cl at z
                simpa using z
              · have g2 : ∀ a, sX (sX (sX (sX (sX X 12 ss x) 13 ss q) 14 ss ch) 15 ss ba) 16 ss ev a j = X a j := fun a => by rw [six e, six e, six e, six e, six e]
                rw [g2 13, g2 14, g2 15, g2 16]
                exact hC i j hij (by omega)
            · exact hD
            · exact hf
    · rcases h with ⟨-, -, rfl, rfl⟩ | ⟨-, z, -⟩ | ⟨-, z, -⟩ | ⟨-, z, -⟩
      · rcases h' with ⟨-, -, rfl, rfl⟩ | ⟨-, z, -⟩ | ⟨-, z, -⟩ | ⟨-, z, -⟩
        · exact ⟨rfl, rfl, hR⟩
        · exact absurd z B
        · exact absurd z B
        · exact absurd z B
      · exact absurd z B
      · exact absurd z B
      · exact absurd z B
  · rcases h with ⟨-, rfl, rfl⟩ | ⟨z, -⟩ | ⟨z, -⟩ | ⟨z, -⟩ | ⟨z, -⟩
    · rcases h' with ⟨-, rfl, rfl⟩ | ⟨z, -⟩ | ⟨z, -⟩ | ⟨z, -⟩ | ⟨z, -⟩
      · exact ⟨rfl, rfl, hR⟩
      all_goals exact absurd z A
    all_goals exact absurd z A
theorem dynamic_call (hR : Rel sl n X Y cy ss ds fs) {x di ln r r' : Int32} {u u' : NN × Nat}
    (h : (¬ inR x 1 n ∧ r = -1 ∧ u = (X, ds)) ∨ (inR x 1 n ∧ ¬ ((1 ≤ di ∧ di ≤ 60) ∧ 1 ≤ ln ∧ ln ≤ 60) ∧ r = -2 ∧ u = (X, ds)) ∨ (inR x 1 n ∧ ((1 ≤ di ∧ di ≤ 60) ∧ 1 ≤ ln ∧ ln ≤ 60) ∧ 100 ≤ ds ∧ r = -4 ∧ u = (X, ds)) ∨ (inR x 1 n ∧ ((1 ≤ di ∧ di ≤ 60) ∧ 1 ≤ ln ∧ ln ≤ 60) ∧ ds < 100 ∧ r = nI (ds + 1) ∧ u = (sX (sX (sX X 17 ds x) 18 ds di) 19 ds ln, ds + 1)))
    (h' : (¬ inR x 1 n ∧ r' = -1 ∧ u' = (Y, ds)) ∨ (inR x 1 n ∧ ¬ ((1 ≤ di ∧ di ≤ 60) ∧ 1 ≤ ln ∧ ln ≤ 60) ∧ r' = -2 ∧ u' = (Y, ds)) ∨ (inR x 1 n ∧ ((1 ≤ di ∧ di ≤ 60) ∧ 1 ≤ ln ∧ ln ≤ 60) ∧ 100 ≤ ds ∧ r' = -4 ∧ u' = (Y, ds)) ∨ (inR x 1 n ∧ ((1 ≤ di ∧ di ≤ 60) ∧ 1 ≤ ln ∧ ln ≤ 60) ∧ ds < 100 ∧ r' = nI (ds + 1) ∧ u' = (sX (sX (sX Y 22 ds x) 23 ds di) 24 ds ln, ds + 1))) : r = r' ∧ u'.2 = u.2 ∧ Rel sl n u.1 u'.1 cy ss u.2 fs := by
  obtain ⟨hN, hF, hC, ⟨hL, hD, hD'⟩, hf, hss, hds⟩ := id hR
  rcases h with ⟨A, rfl, rfl⟩ | ⟨A, B, rfl, rfl⟩ | ⟨A, B, E, rfl, rfl⟩ | ⟨A, B, E, rfl, rfl⟩ <;> rcases h' with ⟨A', rfl, rfl⟩ | ⟨A', B', rfl, rfl⟩ | ⟨A', B', E', rfl, rfl⟩ | ⟨A', B', E', rfl, rfl⟩
  all_goals first | contradiction | omega | exact ⟨rfl, rfl, hR⟩ | skip
  have gx : ∀ a k, k ≠ ds → sX (sX (sX X 17 ds x) 18 ds di) 19 ds ln a k = X a k := fun a k hk => by rw [six hk, six hk, six hk]
  have gy : ∀ a k, k ≠ ds → sX (sX (sX Y 22 ds x) 23 ds di) 24 ds ln a k = Y a k := fun a k hk => by rw [six hk, six hk, six hk]
  have lnR : inR ln 1 60 := (inR_iff (x := ln) (a := 1) (b := 60) (by decide) (by decide)).mp B.2
  refine ⟨rfl, rfl, ?_, ?_, hC, ⟨?_, ?_, ?_⟩, hf, hss, by show ds + 1 ≤ 100; omega⟩
  · exact Rel_nodes hN (fun a ha => by show sX (sX (sX X 17 ds x) 18 ds di) 19 ds ln a = X a; rw [sX_ne (by omega), sX_ne (by omega), sX_ne (by omega)]) (fun a ha => by show sX (sX (sX Y 22 ds x) 23 ds di) 24 ds ln a = Y a; rw [sX_ne (by omega), sX_ne (by omega), sX_ne (by omega)])
  · intro i hi
    exact FR_congr (fun a ha => by show sX (sX (sX X 17 ds x) 18 ds di) 19 ds ln a i = X a i; rw [sX_ne (by omega), sX_ne (by omega), sX_ne (by omega)]) (fun a ha => by show sX (sX (sX Y 22 ds x) 23 ds di) 24 ds ln a i = Y a i; rw [sX_ne (by omega), sX_ne (by omega), sX_ne (by omega)]) (hF i hi)
  · refine dl_congr (fun k hk => ?_)
    have hk : k < ds + 1 := hk
    by_cases e : k = ds
    · subst e; simp [sX_app]
    · show sX (sX (sX X 17 ds x) 18 ds di) 19 ds ln 17 k = sX (sX (sX Y 22 ds x) 23 ds di) 24 ds ln 22 k ∧ sX (sX (sX X 17 ds x) 18 ds di) 19 ds ln 18 k = sX (sX (sX Y 22 ds x) 23 ds di) 24 ds ln 23 k ∧ sX (sX (sX X 17 ds x) 18 ds di) 19 ds ln 19 k = sX (sX (sX Y 22 ds x) 23 ds di) 24 ds ln 24 k
      rw [gx 17 k e, gx 18 k e, gx 19 k e, gy 22 k e, gy 23 k e, gy 24 k e]
      exact dl_inv hL k (by omega)
  · intro k hk
    have hk : k < ds + 1 := hk
    show inR (sX (sX (sX X 17 ds x) 18 ds di) 19 ds ln 17 k) 1 n ∧ inR (sX (sX (sX X 17 ds x) 18 ds di) 19 ds ln 19 k) 1 60
    by_cases e : k = ds
    · subst e; simp only [sX_app]; simp; exact ⟨A, lnR⟩
    · rw [gx 17 k e, gx 19 k e]; exact hD k (by omega)
  · intro k hk
    have hk : k < ds + 1 := hk
    show inR (sX (sX (sX Y 22 ds x) 23 ds di) 24 ds ln 22 k) 1 n ∧ inR (sX (sX (sX Y 22 ds x) 23 ds di) 24 ds ln 24 k) 1 60
    by_cases e : k = ds
    · subst e; simp only [sX_app]; simp; exact ⟨A, lnR⟩
    · rw [gy 22 k e, gy 24 k e]; exact hD' k (by omega)
end CALLS
