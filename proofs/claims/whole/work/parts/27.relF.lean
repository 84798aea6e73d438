/-! close, place and a new object, held against each other -/
theorem dst_toInt {x y : Int32} {B : Nat} (hx : bd x B) (hy : bd y B) (hB : B < 1073741824) : (dst x y).toInt = if 0 < x.toInt - y.toInt then x.toInt - y.toInt else y.toInt - x.toInt := by
  unfold bd at hx hy
  have e : (x.toInt64 - y.toInt64).toInt = x.toInt - y.toInt := by
    rw [Int64.toInt_sub, Int32.toInt_toInt64, Int32.toInt_toInt64]
    exact Int.bmod_eq_of_le (by omega) (by omega)
  have e2 : (-(x.toInt64 - y.toInt64)).toInt = y.toInt - x.toInt := by
    rw [Int64.toInt_neg, e]
    rw [Int.bmod_eq_of_le (by omega) (by omega)]
    omega
  unfold dst
  by_cases h : 0 < x.toInt64 - y.toInt64
  · have h' : 0 < x.toInt - y.toInt := by
      have := Int64.lt_iff_toInt_lt.mp h
      rw [e] at this
      simpa using this
    rw [if_pos h, if_pos h', e]
  · have h' : ¬ 0 < x.toInt - y.toInt := fun z => h (Int64.lt_iff_toInt_lt.mpr (by rw [e]; simpa using z))
    rw [if_neg h, if_neg h', e2]
theorem dsr_toInt {x y : Int32} {B : Nat} (hx : bd x B) (hy : bd y B) (hB : B < 1073741824) : (dsr x y).toInt = if 0 < x.toInt - y.toInt then x.toInt - y.toInt else y.toInt - x.toInt := by
  unfold bd at hx hy
  unfold dsr
  by_cases h : y < x
  · have h' := Int32.lt_iff_toInt_lt.mp h
    rw [if_pos h, if_pos (by omega), sub_toInt (by omega) (by omega)]
  · have h' : ¬ y.toInt < x.toInt := fun z => h (Int32.lt_iff_toInt_lt.mpr z)
    rw [if_neg h, if_neg (by omega), sub_toInt (by omega) (by omega)]
theorem dst_dsr {x y b : Int32} {B : Nat} (hx : bd x B) (hy : bd y B) (hB : B < 1073741824) : dst x y ≤ b.toInt64 ↔ dsr y x ≤ b := by
  rw [Int64.le_iff_toInt_le, Int32.le_iff_toInt_le, dst_toInt hx hy hB, dsr_toInt hy hx hB, Int32.toInt_toInt64]
  split <;> split <;> omega
section CALLS
variable {sl n cy ss ds fs : Nat} {X Y : NN}
theorem close_call (hR : Rel sl n X Y cy ss ds fs) (hcy : cy < 1000000) {b r r' : Int32}
    (h : (r = 1 ∧ ∀ a c, 1 ≤ a → a < c → c ≤ n → (X 1 a = 2 → X 1 c = 2 → dst (X 2 a) (X 2 c) ≤ b.toInt64)) ∨ (r = 0 ∧ ∃ a c, 1 ≤ a ∧ a < c ∧ c ≤ n ∧ X 1 a = 2 ∧ X 1 c = 2 ∧ ¬ dst (X 2 a) (X 2 c) ≤ b.toInt64))
    (h' : (r' = 1 ∧ ∀ a c, 1 ≤ a → a ≤ n → 1 ≤ c → c < a → (Y 4 a = 2 → Y 4 c = 2 → dsr (Y 6 a) (Y 6 c) ≤ b)) ∨ (r' = 0 ∧ ∃ a c, 1 ≤ a ∧ a ≤ n ∧ 1 ≤ c ∧ c < a ∧ Y 4 a = 2 ∧ Y 4 c = 2 ∧ ¬ dsr (Y 6 a) (Y 6 c) ≤ b)) : r = r' := by
  have key : ∀ a c, 1 ≤ a → a < c → c ≤ n → (dst (X 2 a) (X 2 c) ≤ b.toInt64 ↔ dsr (Y 6 c) (Y 6 a) ≤ b) := fun a c h1 h2 h3 => by
    have ra := hR.1 a h1 (by omega)
    have rc := hR.1 c (by omega) h3
    rw [← ra.1.2.1, ← rc.1.2.1]
    exact dst_dsr ra.2.2.2.2.2.2.2 rc.2.2.2.2.2.2.2 (by omega)
  rcases h with ⟨rfl, h⟩ | ⟨rfl, a, c, h1, h2, h3, h4, h5, h6⟩ <;> rcases h' with ⟨rfl, h'⟩ | ⟨rfl, a', c', k1, k2, k3, k4, k5, k6, k7⟩
  · rfl
  · exfalso
    have ra := hR.1 a' k1 k2
    have rc := hR.1 c' k3 (by omega)
    exact k7 ((key c' a' k3 k4 k2).mp (h c' a' k3 k4 k2 (rc.1.1.trans k6) (ra.1.1.trans k5)))
  · exfalso
    have ra := hR.1 a h1 (by omega)
    have rc := hR.1 c (by omega) h3
    exact h6 ((key a c h1 h2 h3).mpr (h' c a (by omega) h3 h1 h2 (rc.1.1.symm.trans h5) (ra.1.1.symm.trans h4)))
  · rfl
theorem mm_ev {a b : Int32} (ha : isEv a) (hb : isEv b) : (a - 1) &&& ((if a < b then a else b) - 1) = (if a < b then a else b) - 1 ∧ (b - 1) &&& ((if a < b then a else b) - 1) = (if a < b then a else b) - 1 := by
  rcases ha with rfl | rfl | rfl | rfl | rfl | rfl | rfl <;> rcases hb with rfl | rfl | rfl | rfl | rfl | rfl | rfl <;> decide
theorem ch_and {a b c : Int32} (ha : a = 1 ∨ a = 2 ∨ a = 3) (hb : b = 1 ∨ b = 2 ∨ b = 3) (hc : c = 1 ∨ c = 2) (h1 : a &&& c ≠ 0) (h2 : b &&& c ≠ 0) : a &&& b ≠ 0 := by
  rcases ha with rfl | rfl | rfl <;> rcases hb with rfl | rfl | rfl <;> rcases hc with rfl | rfl <;> first | decide | exact absurd h1 (by decide) | exact absurd h2 (by decide)
theorem mc_uniq (hR : Rel sl n X Y cy ss ds fs) {q cv c : Int32} (hc : c = 1 ∨ c = 2) : ∀ i k, i < ss → k < ss → ((X 13 i = q ∧ X 14 i &&& c ≠ 0) ∧ cv &&& (X 16 i - 1) = X 15 i) → ((X 13 k = q ∧ X 14 k &&& c ≠ 0) ∧ cv &&& (X 16 k - 1) = X 15 k) → i = k := by
  have key : ∀ i k, i < k → k < ss → ((X 13 i = q ∧ X 14 i &&& c ≠ 0) ∧ cv &&& (X 16 i - 1) = X 15 i) → ¬ ((X 13 k = q ∧ X 14 k &&& c ≠ 0) ∧ cv &&& (X 16 k - 1) = X 15 k) := by
    rintro i k hik hk ⟨⟨a1, a2⟩, a3⟩ ⟨⟨b1, b2⟩, b3⟩
    obtain ⟨-, -, -, he, -, -, hci⟩ := hR.2.1 i (by omega)
    obtain ⟨-, -, -, he', -, -, hck⟩ := hR.2.1 k hk
    refine hR.2.2.1 i k hik hk ⟨⟨a1.trans b1.symm, ch_and hci hck hc a2 b2⟩, ?_⟩
    obtain ⟨m1, m2⟩ := mm_ev he he'
    rw [← a3, ← b3, Int32.and_assoc, Int32.and_assoc, m1, m2]
  intro i k hi hk h1 h2
  rcases Nat.lt_trichotomy i k with z | z | z
  · exact absurd h2 (key i k z hk h1)
  · exact z
  · exact absurd h1 (key k i z hi h2)
theorem mc_iff (hR : Rel sl n X Y cy ss ds fs) {q cv c : Int32} (h0 : 0 ≤ cv) {i : Nat} (hi : i < ss) : ((X 13 i = q ∧ X 14 i &&& c ≠ 0) ∧ cv &&& (X 16 i - 1) = X 15 i) ↔ ((Y 17 i = q ∧ rmd cv (Y 20 i) = Y 19 i) ∧ Y 18 i &&& c ≠ 0) := by
  obtain ⟨⟨e12, e13, e14, e15, e16⟩, -, -, he, -⟩ := hR.2.1 i hi
  rw [← e13, ← e14, ← e15, ← e16, mask_rem' h0 he]
  constructor
  · rintro ⟨⟨a, b⟩, d⟩; exact ⟨⟨a, d⟩, b⟩
  · rintro ⟨⟨a, d⟩, b⟩; exact ⟨⟨a, b⟩, d⟩
theorem o_eq (hR : Rel sl n X Y cy ss ds fs) {q cv c o o' : Int32} (hc : c = 1 ∨ c = 2) (h0 : 0 ≤ cv) (h : (∃ i, i < ss ∧ ((X 13 i = q ∧ X 14 i &&& c ≠ 0) ∧ cv &&& (X 16 i - 1) = X 15 i) ∧ o = X 12 i) ∨ (o = 0 ∧ ∀ i, i < ss → ¬ ((X 13 i = q ∧ X 14 i &&& c ≠ 0) ∧ cv &&& (X 16 i - 1) = X 15 i)))
    (h' : (o' = 0 ∧ ∀ k, k < ss → ¬ ((Y 17 k = q ∧ rmd cv (Y 20 k) = Y 19 k) ∧ Y 18 k &&& c ≠ 0)) ∨ ∃ k, k < ss ∧ ((Y 17 k = q ∧ rmd cv (Y 20 k) = Y 19 k) ∧ Y 18 k &&& c ≠ 0) ∧ o' = Y 16 k) : o = o' ∧ (o = 0 ∨ 0 < o) := by
  rcases h with ⟨i, h1, h2, rfl⟩ | ⟨rfl, h⟩ <;> rcases h' with ⟨rfl, h'⟩ | ⟨k, k1, k2, rfl⟩
  · exact absurd ((mc_iff hR h0 h1).mp h2) (h' i h1)
  · have e := mc_uniq hR hc i k h1 k1 h2 ((mc_iff hR h0 k1).mpr k2)
    subst e
    obtain ⟨⟨e12, -⟩, hi, -⟩ := hR.2.1 i h1
    refine ⟨e12, Or.inr ?_⟩
    have := hi.1
    rw [Int32.lt_iff_toInt_lt]
    have z : (0 : Int32).toInt = 0 := by decide
    rw [z]
    omega
  · exact ⟨rfl, Or.inl rfl⟩
  · exact absurd ((mc_iff hR h0 k1).mpr k2) (h k k1)
theorem place_call (hR : Rel sl n X Y cy ss ds fs) {q cv r r' : Int32} {f f' : Nat → Int64} {u' : Nat} (h : PlPost X sl ss q cv r f f')
    (h' : (¬ (inR q 0 (sl - 1) ∧ inR cv 0 63) ∧ u' = 1) ∨ ((inR q 0 (sl - 1) ∧ inR cv 0 63) ∧ u' = 0 ∧ ∃ o1 o2 : Int32, ((o1 = 0 ∧ ∀ k, k < ss → ¬ ((Y 17 k = q ∧ rmd cv (Y 20 k) = Y 19 k) ∧ Y 18 k &&& 1 ≠ 0)) ∨ ∃ k, k < ss ∧ ((Y 17 k = q ∧ rmd cv (Y 20 k) = Y 19 k) ∧ Y 18 k &&& 1 ≠ 0) ∧ o1 = Y 16 k) ∧ ((o2 = 0 ∧ ∀ k, k < ss → ¬ ((Y 17 k = q ∧ rmd cv (Y 20 k) = Y 19 k) ∧ Y 18 k &&& 2 ≠ 0)) ∨ ∃ k, k < ss ∧ ((Y 17 k = q ∧ rmd cv (Y 20 k) = Y 19 k) ∧ Y 18 k &&& 2 ≠ 0) ∧ o2 = Y 16 k) ∧ r' = if 0 < o1 then o1 else o2)) : nI u' = r ∧ (r = 0 ∨ r = 1) ∧ (r = 0 → f' 0 = r'.toInt64) := by
  rcases h with ⟨rfl, A, rfl⟩ | ⟨rfl, v, ⟨A, o1, o2, h1, h2, hv⟩, hf⟩ <;> rcases h' with ⟨A', rfl⟩ | ⟨A', rfl, p1, p2, k1, k2, hr'⟩
  · exact ⟨rfl, Or.inr rfl, fun z => absurd z (by decide)⟩
  · exact absurd A' A
  · exact absurd A A'
  · refine ⟨rfl, Or.inl rfl, fun _ => ?_⟩
    have h0 : 0 ≤ cv := by
      rw [Int32.le_iff_toInt_le]
      have := A.2.1
      simpa using this
    obtain ⟨a1, a2⟩ := o_eq hR (Or.inl rfl) h0 h1 k1
    have ev : v = r' := by
      rw [hv, hr', ← a1]
      rcases a2 with z | z
      · rw [if_pos z, if_neg (by rw [z]; decide)]
        exact (o_eq hR (Or.inr rfl) h0 (h2 z) k2).1
      · rw [if_neg (fun y => absurd z (by rw [y]; decide)), if_pos z]
    rw [hf, ev]
theorem init_rel {w : Nat → Int32} (hw : ∀ j, j < 17 → w j = (-2)) (hn : n ≤ 16) : Rel sl n (fun _ _ => 0) (fun a => if a = 10 then w else fun _ => 0) 0 0 0 0 := by
  refine ⟨?_, fun i hi => absurd hi (by omega), fun i j _ hj => absurd hj (by omega), ⟨rfl, fun i hi => absurd hi (by omega), fun i hi => absurd hi (by omega)⟩, ⟨fun q _ => ⟨rfl, Or.inl rfl⟩, ?_⟩, by omega, by omega⟩
  · intro j a b
    refine ⟨⟨rfl, rfl, rfl, rfl, rfl, rfl⟩, Or.inl rfl, fun _ => ⟨rfl, Or.inl rfl⟩, ?_, Or.inl (hw j (by omega)), (by decide : (-200 : Int32) ≤ 0 ∧ (0 : Int32) ≤ 200), (by decide : (-100 : Int32) ≤ 0 ∧ (0 : Int32) ≤ 100), bd_0⟩
    constructor
    · intro z; exact absurd rfl z
    · intro z
      have : w j = nI 0 - 1 := z
      rw [hw j (by omega)] at this
      exact absurd this (by decide)
  · exact (flc_0 (fun _ _ => rfl)).symm
theorem Rel_FrI (hR : Rel sl n X Y cy ss ds fs) : FrI (X 12) (X 13) n sl ss := fun i hi => ⟨(hR.2.1 i hi).2.1, (hR.2.1 i hi).2.2.1⟩
theorem Rel_FrI' (hR : Rel sl n X Y cy ss ds fs) : FrI (Y 16) (Y 17) n sl ss := fun i hi => by
  obtain ⟨⟨e12, e13, -⟩, h1, h2, -⟩ := hR.2.1 i hi
  rw [← e12, ← e13]
  exact ⟨h1, h2⟩
theorem Rel_ev (hR : Rel sl n X Y cy ss ds fs) : ∀ i, i < ss → isEv (Y 20 i) := fun i hi => by
  obtain ⟨⟨-, -, -, -, e16⟩, -, -, h, -⟩ := hR.2.1 i hi
  rw [← e16]
  exact h
theorem Rel_ra (hR : Rel sl n X Y cy ss ds fs) : ∀ j, 1 ≤ j → j ≤ n → (-100) ≤ Y 8 j ∧ Y 8 j ≤ 100 := fun j a b => by
  obtain ⟨⟨-, -, -, e4, -⟩, -, -, -, -, -, b4, -⟩ := hR.1 j a b
  rw [← e4]
  exact b4
end CALLS
