/-! the class and the reference, held against each other: numbers and congruences -/
abbrev NN : Type := Nat → Nat → Int32
def bd (x : Int32) (B : Nat) : Prop := -(B : Int) ≤ x.toInt ∧ x.toInt ≤ (B : Int)
theorem add_toInt {x y : Int32} (h1 : -2147483648 ≤ x.toInt + y.toInt) (h2 : x.toInt + y.toInt < 2147483648) : (x + y).toInt = x.toInt + y.toInt := by
  rw [Int32.toInt_add]
  exact Int.bmod_eq_of_le (by simpa using h1) (by simpa using h2)
theorem sub_toInt {x y : Int32} (h1 : -2147483648 ≤ x.toInt - y.toInt) (h2 : x.toInt - y.toInt < 2147483648) : (x - y).toInt = x.toInt - y.toInt := by
  rw [Int32.toInt_sub]
  exact Int.bmod_eq_of_le (by simpa using h1) (by simpa using h2)
theorem bd_add {x y : Int32} {A B : Nat} (hx : bd x A) (hy : bd y B) (h : A + B < 2147483648) : bd (x + y) (A + B) := by
  unfold bd at *
  rw [add_toInt (by omega) (by omega)]
  omega
theorem bd_mono {x : Int32} {A B : Nat} (hx : bd x A) (h : A ≤ B) : bd x B := by unfold bd at *; omega
theorem bd_0 {B : Nat} : bd 0 B := by unfold bd; simp
theorem bd_mid {x : Int32} (h : ¬ big x) : bd x 500 := by
  have a := Int32.le_iff_toInt_le.mp (Int32.not_lt.mp (fun z => h (Or.inl z)))
  have b := Int32.le_iff_toInt_le.mp (Int32.not_lt.mp (fun z => h (Or.inr z)))
  have e1 : (500 : Int32).toInt = 500 := by decide
  have e2 : (-500 : Int32).toInt = -500 := by decide
  rw [e1] at a
  rw [e2] at b
  unfold bd
  omega
theorem bd_100 {x : Int32} (h : (-100) ≤ x ∧ x ≤ 100) : bd x 100 := by
  have a := Int32.le_iff_toInt_le.mp h.1
  have b := Int32.le_iff_toInt_le.mp h.2
  have e1 : (100 : Int32).toInt = 100 := by decide
  have e2 : (-100 : Int32).toInt = -100 := by decide
  rw [e1] at b
  rw [e2] at a
  unfold bd
  omega
theorem bd_200 {x : Int32} (h : (-200) ≤ x ∧ x ≤ 200) : bd x 200 := by
  have a := Int32.le_iff_toInt_le.mp h.1
  have b := Int32.le_iff_toInt_le.mp h.2
  have e1 : (200 : Int32).toInt = 200 := by decide
  have e2 : (-200 : Int32).toInt = -200 := by decide
  rw [e1] at b
  rw [e2] at a
  unfold bd
  omega
/-- a mask and a remainder by a power of two -/
theorem mask_rem {k : Nat} {ev : Int32} (hk : k < 2147483648) (h : isEv ev) : nI k &&& (ev - 1) = rmd (nI k) ev := by
  have key : ∀ t : Nat, t ≤ 6 → ev = nI (2 ^ t) → nI k &&& (ev - 1) = rmd (nI k) ev := by
    intro t ht e
    subst e
    have hp : (2 : Nat) ^ t ≤ 64 := by
      have := Nat.pow_le_pow_right (n := 2) (by omega) ht
      simpa using this
    have hp0 : 0 < (2 : Nat) ^ t := Nat.pow_pos (by omega)
    have e1 : nI (2 ^ t) - 1 = nI (2 ^ t - 1) := pk_sub (b := 1) hp0
    unfold rmd
    rw [e1, pk_rem hk hp0 (by omega), pk_andN (by omega) t (pk_tn (by omega))]
  rcases h with h | h | h | h | h | h | h
  · exact key 0 (by omega) h
  · exact key 1 (by omega) h
  · exact key 2 (by omega) h
  · exact key 3 (by omega) h
  · exact key 4 (by omega) h
  · exact key 5 (by omega) h
  · exact key 6 (by omega) h
theorem nI_of0 {x : Int32} (h : 0 ≤ x) : ∃ k : Nat, k < 2147483648 ∧ x = nI k := nI_of (Int32.not_lt.mpr h)
theorem mask_rem' {x ev : Int32} (hx : 0 ≤ x) (h : isEv ev) : x &&& (ev - 1) = rmd x ev := by
  obtain ⟨k, hk, rfl⟩ := nI_of0 hx
  exact mask_rem hk h
theorem mask_2 {k : Nat} (hk : k < 2147483648) : (nI k &&& 1 = 1 ↔ rmd (nI k) 2 = 1) := by
  have := mask_rem (ev := 2) hk (Or.inr (Or.inl rfl))
  rw [show (2 : Int32) - 1 = 1 by decide] at this
  rw [this]
theorem les_eq (a b : Int32) : (if a < b then a else b) = (if a ≤ b then a else b) := by
  by_cases h : a < b
  · rw [if_pos h, if_pos (Int32.le_of_lt h)]
  · rw [if_neg h]
    by_cases h2 : a ≤ b
    · rw [if_pos h2]; exact Int32.le_antisymm (Int32.not_lt.mp h) h2
    · rw [if_neg h2]
theorem les_ev {a b : Int32} (ha : isEv a) (hb : isEv b) : isEv (if a ≤ b then a else b) := by split <;> assumption
/-- congruences -/
theorem insF_dep {k : Nat} {a b : Nat → Int32} {d : Int32} (h : a = b) : insF k a d = insF k b d := by rw [h]
theorem dc_congr {st he st' he' : Nat → Int32} {i n : Nat} (h : ∀ k, 1 ≤ k → k ≤ n → st k = st' k ∧ (he k ≠ 0 ↔ he' k ≠ 0)) : ∀ k, k ≤ n + 1 → dc st he i k = dc st' he' i k := by
  intro k hk
  unfold dc
  rw [cnt_congr (g := fun j => decide (dvP st' he' i j)) (fun j a b => ?_)]
  obtain ⟨h1, h2⟩ := h j a (by omega)
  have e : dvP st he i j ↔ dvP st' he' i j := by
    unfold dvP
    rw [h1, h2]
  simp only [e]
theorem de_congr {st he er st' he' er' : Nat → Int32} {i n : Nat} (hi : 1 ≤ i ∧ i ≤ n) (h : ∀ k, 1 ≤ k → k ≤ n → st k = st' k ∧ (he k ≠ 0 ↔ he' k ≠ 0) ∧ er k = er' k) : ∀ k, k ≤ n + 1 → de st he er i k = de st' he' er' i k := by
  intro k
  induction k with
  | zero => intro _; rfl
  | succ k ih =>
    intro hk
    by_cases h1 : 1 ≤ k
    · obtain ⟨q1, q2, q3⟩ := h k h1 (by omega)
      have e : dvP st he i k ↔ dvP st' he' i k := by unfold dvP; rw [q1, q2]
      by_cases hd : dvP st he i k
      · rw [de_t h1 hd, de_t h1 (e.mp hd), ih (by omega), dc_congr (fun k a b => ⟨(h k a b).1, (h k a b).2.1⟩) k (by omega), q3, (h i hi.1 hi.2).2.2]
      · rw [de_f hd, de_f (fun z => hd (e.mpr z)), ih (by omega)]
    · have : k = 0 := by omega
      subst this
      unfold de
      simp
      exact ih (by omega)
theorem mpv_congr {st he er st' he' er' : Nat → Int32} {i n : Nat} (hi : 1 ≤ i ∧ i ≤ n) (h : ∀ k, 1 ≤ k → k ≤ n → st k = st' k ∧ (he k ≠ 0 ↔ he' k ≠ 0) ∧ er k = er' k) : mpv st he er n i = mpv st' he' er' n i := by
  unfold mpv
  rw [dc_congr (fun k a b => ⟨(h k a b).1, (h k a b).2.1⟩) (n + 1) (Nat.le_refl _), de_congr hi h (n + 1) (Nat.le_refl _)]
theorem fidx_congr {p p' : T3 → Bool} : ∀ {L : List T3}, (∀ q ∈ L, p q = p' q) → L.findIdx? p = L.findIdx? p' := by
  intro L
  induction L with
  | nil => intro _; rfl
  | cons a L ih =>
    intro h
    rw [List.findIdx?_cons, List.findIdx?_cons, h a List.mem_cons_self, ih (fun q hq => h q (List.mem_cons_of_mem _ hq))]
theorem dyn_congr {p p' : Nat → T3 → Bool} {mi : Nat} : ∀ (f id : Nat) (L : List T3) (m d : Nat), (∀ q ∈ L, ∀ id, p id q = p' id q) → dyn p mi f id L m d = dyn p' mi f id L m d := by
  intro f
  induction f with
  | zero => intro id L m d _; rfl
  | succ f ih =>
    intro id L m d h
    have e : L.findIdx? (p id) = L.findIdx? (p' id) := fidx_congr (fun q hq => h q hq id)
    by_cases hm : m ≤ mi
    · cases hf : L.findIdx? (p' id) with
      | none => rw [dyn_none hm (e.trans hf), dyn_none hm hf]; exact ih _ _ _ _ h
      | some k =>
        by_cases hl : m + dlen L k - 1 ≤ mi
        · rw [dyn_take hm (e.trans hf) hl, dyn_take hm hf hl]
          exact ih _ _ _ _ (fun q hq => h q (List.mem_of_mem_eraseIdx hq))
        · rw [dyn_long hm (e.trans hf) hl, dyn_long hm hf hl]; exact ih _ _ _ _ h
    · rw [dyn_out (by omega), dyn_out (by omega)]
theorem flc_congr {f g : Nat → Int32} {k : Nat} (h : ∀ q, q < k → f q = g q) : flc f k = flc g k := by
  induction k with
  | zero => rfl
  | succ k ih => unfold flc; rw [ih (fun q hq => h q (by omega)), h k (by omega)]
theorem flc_0 {f : Nat → Int32} {k : Nat} (h : ∀ q, q < k → f q = 0) : flc f k = 0 := by
  induction k with
  | zero => rfl
  | succ k ih => unfold flc; rw [ih (fun q hq => h q (by omega)), h k (by omega)]; decide
