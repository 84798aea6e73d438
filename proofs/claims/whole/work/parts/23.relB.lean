/-! a node in the class and in the reference -/
def RN (X Y : NN) (cy j : Nat) : Prop :=
  (X 1 j = Y 4 j ∧ X 2 j = Y 6 j ∧ X 3 j = Y 7 j ∧ X 4 j = Y 8 j ∧ X 5 j = Y 5 j ∧ X 9 j = Y 9 j) ∧
  (X 1 j = 0 ∨ X 1 j = 1 ∨ X 1 j = 2 ∨ X 1 j = 3 ∨ X 1 j = 4) ∧
  (X 1 j = 1 → X 6 j = Y 11 j ∧ (X 6 j = 0 ∨ X 6 j = 1)) ∧
  (X 10 j ≠ 0 ↔ Y 10 j = nI cy - 1) ∧ (Y 10 j = -2 ∨ ∃ k : Nat, k < cy ∧ Y 10 j = nI k) ∧
  ((-200) ≤ X 3 j ∧ X 3 j ≤ 200) ∧ ((-100) ≤ X 4 j ∧ X 4 j ≤ 100) ∧ bd (X 2 j) (800 * cy)
theorem RN_congr {X Y X1 Y1 : NN} {cy j : Nat} (hx : ∀ a, (a = 1 ∨ a = 2 ∨ a = 3 ∨ a = 4 ∨ a = 5 ∨ a = 6 ∨ a = 9 ∨ a = 10) → X1 a j = X a j) (hy : ∀ a, (a = 4 ∨ a = 5 ∨ a = 6 ∨ a = 7 ∨ a = 8 ∨ a = 9 ∨ a = 10 ∨ a = 11) → Y1 a j = Y a j) (h : RN X Y cy j) : RN X1 Y1 cy j := by
  unfold RN at h ⊢
  rw [hx 1 (by decide), hx 2 (by decide), hx 3 (by decide), hx 4 (by decide), hx 5 (by decide), hx 6 (by decide), hx 9 (by decide), hx 10 (by decide), hy 4 (by decide), hy 5 (by decide), hy 6 (by decide), hy 7 (by decide), hy 8 (by decide), hy 9 (by decide), hy 10 (by decide), hy 11 (by decide)]
  exact h
theorem st_lt {x : Int32} (h : x = 0 ∨ x = 1 ∨ x = 2 ∨ x = 3 ∨ x = 4) : (x = 0 ∨ x = 1) ↔ x < 2 := by
  rcases h with rfl | rfl | rfl | rfl | rfl <;> decide
theorem st_gt {x : Int32} (h : x = 0 ∨ x = 1 ∨ x = 2 ∨ x = 3 ∨ x = 4) : (x = 3 ∨ x = 4) ↔ ¬ x ≤ 2 := by
  rcases h with rfl | rfl | rfl | rfl | rfl <;> decide
theorem nSt_nSr {X Y : NN} {n cy : Nat} (hR : ∀ j, 1 ≤ j → j ≤ n → RN X Y cy j) : nSt (X 1) (X 5) (n + 1) = nSr (Y 4) (Y 5) (n + 1) := by
  unfold nSt nSr
  refine cnt_congr (fun j a b => ?_)
  obtain ⟨⟨e1, e2, e3, e4, e5, e9⟩, hst, -⟩ := hR j a (by omega)
  have e : isSt (X 1) (X 5) j ↔ (Y 5 j ≠ 0 ∧ Y 4 j < 2) := by
    unfold isSt
    rw [st_lt hst, e5, e1]
  simp only [e]
theorem su_rel {X Y X1 Y1 : NN} {n cy : Nat} (hR : ∀ j, 1 ≤ j → j ≤ n → RN X Y cy j) (hS : SU X X1 n) (hS' : SUR Y Y1 n) : ∀ j, 1 ≤ j → j ≤ n → RN X1 Y1 cy j := by
  intro j a b
  have RJ := hR j a b
  obtain ⟨k, hk, hs⟩ := hS
  obtain ⟨f, hf, hr, hkp⟩ := hS'
  have e : k = f := isLA_uniq (fun j a b => (hR j a b).1.1) hk hf
  subst e
  have q := hr j a b
  obtain ⟨⟨e1, e2, e3, e4, e5, e9⟩, hst, hw, h10, hy, b3, b4, b2⟩ := RJ
  rcases hs with ⟨hk0, hig, hkx⟩ | ⟨hk0, h2, hst2, hkx⟩ | ⟨hk0, h2, rfl⟩
  · obtain ⟨i1, i6, i2⟩ := hig j a b
    have kl : 1 ≤ k ∧ k ≤ n := by
      rcases hk with h | h
      · omega
      · exact ⟨h.1, h.2.1⟩
    have RK := hR k kl.1 kl.2
    obtain ⟨s4, s11, s6⟩ := q.2 (by omega)
    rw [← e1] at s4 s11 s6
    unfold RN
    rw [hkx 3 (by decide) (by decide) (by decide), hkx 4 (by decide) (by decide) (by decide), hkx 5 (by decide) (by decide) (by decide), hkx 9 (by decide) (by decide) (by decide), hkx 10 (by decide) (by decide) (by decide), hkp 5 (by decide) (by decide) (by decide), hkp 7 (by decide) (by decide) (by decide), hkp 8 (by decide) (by decide) (by decide), hkp 9 (by decide) (by decide) (by decide), hkp 10 (by decide) (by decide) (by decide)]
    by_cases z0 : X 1 j = 0
    · rw [if_pos z0] at i1 i6 s4 s11
      rw [if_neg (fun z => absurd (z0.symm.trans z.1) (by decide))] at i2 s6
      exact ⟨⟨i1.trans s4.symm, (i2.trans e2).trans s6.symm, e3, e4, e5, e9⟩, Or.inr (Or.inl i1), fun _ => ⟨i6.trans s11.symm, Or.inl i6⟩, h10, hy, b3, b4, by rw [i2]; exact b2⟩
    · rw [if_neg z0] at i1 i6 s4 s11
      by_cases z1 : X 1 j = 1
      · rw [if_pos z1] at i1 i6 s4 s11
        obtain ⟨w1, w2⟩ := hw z1
        rw [← w1] at s4 s11 s6
        rcases w2 with w | w
        · rw [w] at i1 i6 i2 s4 s11 s6
          rw [if_neg (by decide)] at i1 s4
          rw [if_neg (fun z => absurd z.2 (by decide))] at i2 s6
          exact ⟨⟨i1.trans s4.symm, (i2.trans e2).trans s6.symm, e3, e4, e5, e9⟩, Or.inr (Or.inl i1), fun _ => ⟨i6.trans s11.symm, Or.inr (i6.trans (by decide))⟩, h10, hy, b3, b4, by rw [i2]; exact b2⟩
        · rw [w] at i1 i6 i2 s4 s11 s6
          rw [if_pos (by decide)] at i1 s4
          rw [if_pos ⟨z1, by decide⟩] at i2 s6
          exact ⟨⟨i1.trans s4.symm, (i2.trans RK.1.2.1).trans s6.symm, e3, e4, e5, e9⟩, Or.inr (Or.inr (Or.inl i1)), fun z => absurd (i1.symm.trans z) (by decide), h10, hy, b3, b4, by rw [i2]; exact RK.2.2.2.2.2.2.2⟩
      · rw [if_neg z1] at i1 i6 s4 s11
        rw [if_neg (fun z => z1 z.1)] at i2 s6
        exact ⟨⟨i1.trans s4.symm, (i2.trans e2).trans s6.symm, e3, e4, e5, e9⟩, by rw [i1]; exact hst, fun z => absurd (i1.symm.trans z) z1, h10, hy, b3, b4, by rw [i2]; exact b2⟩
  · obtain ⟨s4, s6, s11⟩ := q.1 hk0
    have i1 := hst2 j a b
    rw [nSt_nSr hR] at h2
    unfold RN
    rw [hkx 2 (by decide), hkx 3 (by decide), hkx 4 (by decide), hkx 5 (by decide), hkx 6 (by decide), hkx 9 (by decide), hkx 10 (by decide), s6, s11, hkp 5 (by decide) (by decide) (by decide), hkp 7 (by decide) (by decide) (by decide), hkp 8 (by decide) (by decide) (by decide), hkp 9 (by decide) (by decide) (by decide), hkp 10 (by decide) (by decide) (by decide)]
    by_cases z : isSt (X 1) (X 5) j
    · rw [if_pos z] at i1
      rw [if_pos ⟨by omega, by rw [← e5]; exact z.1, by rw [← e1]; exact (st_lt hst).mp z.2⟩] at s4
      exact ⟨⟨i1.trans s4.symm, e2, e3, e4, e5, e9⟩, Or.inr (Or.inr (Or.inl i1)), fun z => absurd (i1.symm.trans z) (by decide), h10, hy, b3, b4, b2⟩
    · rw [if_neg z] at i1
      rw [if_neg (fun y => z ⟨by rw [e5]; exact y.2.1, (st_lt hst).mpr (by rw [e1]; exact y.2.2)⟩)] at s4
      rw [i1, s4]
      exact ⟨⟨e1, e2, e3, e4, e5, e9⟩, hst, hw, h10, hy, b3, b4, b2⟩
  · obtain ⟨s4, s6, s11⟩ := q.1 hk0
    rw [nSt_nSr hR] at h2
    rw [if_neg (fun y => absurd y.1 (by omega))] at s4
    unfold RN
    rw [s4, s6, s11, hkp 5 (by decide) (by decide) (by decide), hkp 7 (by decide) (by decide) (by decide), hkp 8 (by decide) (by decide) (by decide), hkp 9 (by decide) (by decide) (by decide), hkp 10 (by decide) (by decide) (by decide)]
    exact ⟨⟨e1, e2, e3, e4, e5, e9⟩, hst, hw, h10, hy, b3, b4, b2⟩
theorem nI_s1 {cy : Nat} : nI (cy + 1) - 1 = nI cy := pk_sub (a := cy + 1) (b := 1) (by omega)
theorem nI_m2 {k : Nat} (h : k < 2147483648) : nI k ≠ -2 := fun z => by
  have := congrArg Int32.toInt z
  rw [nI_toInt h] at this
  have e : (-2 : Int32).toInt = -2 := by decide
  rw [e] at this
  omega
theorem zSt_st {st ra mid sm odd : Int32} (h : st = 2) : zSt st ra mid sm odd = 2 ∨ zSt st ra mid sm odd = 3 ∨ zSt st ra mid sm odd = 4 := by
  unfold zSt
  by_cases a : big mid
  · rw [if_pos a]; exact Or.inr (Or.inr rfl)
  · rw [if_neg a]
    split
    · exact Or.inr (Or.inl rfl)
    · exact Or.inl h
theorem zEr_bd {er mid : Int32} {B : Nat} (h : bd er B) (hB : B + 500 < 2147483648) : bd (zEr er mid) (B + 500) := by
  unfold zEr
  by_cases a : big mid
  · rw [if_pos a]; exact bd_mono h (by omega)
  · rw [if_neg a]; exact bd_add h (bd_mid a) hB
/-- from the correction to the cycle's end -/
theorem co_rel {X3 Y3 X4 Y4 X5 Y5 : NN} {n cy : Nat} (hcy : cy < 1000000) (hR : ∀ j, 1 ≤ j → j ≤ n → RN X3 Y3 cy j) (hh : ∀ j, 1 ≤ j → j ≤ n → (X3 7 j ≠ 0 ↔ Y3 12 j ≠ 0))
    (hC : (∀ j, 1 ≤ j → j ≤ n → CR X3 X4 n j (if nI cy &&& 1 = 1 then 1 else 0)) ∧ ∀ a, a ≠ 1 → a ≠ 2 → a ≠ 4 → a ≠ 8 → a ≠ 9 → a ≠ 10 → a ≠ 11 → X4 a = X3 a)
    (hC' : (∀ j, 1 ≤ j → j ≤ n → CRR Y3 Y4 n cy j) ∧ ∀ a, a ≠ 4 → a ≠ 6 → a ≠ 8 → a ≠ 9 → a ≠ 10 → a ≠ 13 → a ≠ 14 → Y4 a = Y3 a)
    (hT : (∀ j, 1 ≤ j → j ≤ n → X5 2 j = if X4 1 j = 4 then X4 2 j else X4 2 j + (X4 3 j + X4 4 j)) ∧ ∀ a, a ≠ 2 → X5 a = X4 a)
    (hT' : (∀ j, 1 ≤ j → j ≤ n → Y5 6 j = Y4 6 j + (if Y4 4 j = 4 then 0 else Y4 7 j + Y4 8 j)) ∧ ∀ a, a ≠ 6 → Y5 a = Y4 a) : ∀ j, 1 ≤ j → j ≤ n → RN X5 Y5 (cy + 1) j := by
  intro j a b
  obtain ⟨⟨e1, e2, e3, e4, e5, e9⟩, hst, hw, h10, hy, b3, b4, b2⟩ := hR j a b
  have hm : mpv (X3 1) (X3 7) (X3 2) n j = mpv (Y3 4) (Y3 12) (Y3 6) n j := mpv_congr ⟨a, b⟩ (fun k h1 h2 => ⟨(hR k h1 h2).1.1, hh k h1 h2, (hR k h1 h2).1.2.1⟩)
  have hc := hC.1 j a b
  have hc' := hC'.1 j a b
  have k3 : X4 3 = X3 3 := hC.2 3 (by decide) (by decide) (by decide) (by decide) (by decide) (by decide) (by decide)
  have k5 : X4 5 = X3 5 := hC.2 5 (by decide) (by decide) (by decide) (by decide) (by decide) (by decide) (by decide)
  have k6 : X4 6 = X3 6 := hC.2 6 (by decide) (by decide) (by decide) (by decide) (by decide) (by decide) (by decide)
  have l5 : Y4 5 = Y3 5 := hC'.2 5 (by decide) (by decide) (by decide) (by decide) (by decide) (by decide) (by decide)
  have l7 : Y4 7 = Y3 7 := hC'.2 7 (by decide) (by decide) (by decide) (by decide) (by decide) (by decide) (by decide)
  have l11 : Y4 11 = Y3 11 := hC'.2 11 (by decide) (by decide) (by decide) (by decide) (by decide) (by decide) (by decide)
  -- after the correction
  have mid : (X4 1 j = Y4 4 j ∧ X4 2 j = Y4 6 j ∧ X4 4 j = Y4 8 j ∧ X4 9 j = Y4 9 j) ∧ (X4 1 j = 0 ∨ X4 1 j = 1 ∨ X4 1 j = 2 ∨ X4 1 j = 3 ∨ X4 1 j = 4) ∧ (X4 1 j = 1 → X4 6 j = Y4 11 j ∧ (X4 6 j = 0 ∨ X4 6 j = 1)) ∧ (X4 10 j ≠ 0 ↔ Y4 10 j = nI (cy + 1) - 1) ∧ (Y4 10 j = -2 ∨ ∃ k : Nat, k < cy + 1 ∧ Y4 10 j = nI k) ∧ ((-100) ≤ X4 4 j ∧ X4 4 j ≤ 100) ∧ bd (X4 2 j) (800 * cy + 500) := by
    rw [nI_s1, k6, l11]
    by_cases z : X3 1 j = 2
    · obtain ⟨a1, a2, a4, a9, a10⟩ := hc.1 z
      obtain ⟨c4, c6, c8, c9, c10⟩ := hc'.1 (e1 ▸ z)
      have hodd : (if nI cy &&& 1 = 1 then (1 : Int32) else 0) = (if rmd (nI cy) 2 = 1 then 1 else 0) := ite_c (mask_2 (by omega))
      have hsum : apSum (mpv (X3 1) (X3 7) (X3 2) n j) (X3 10 j) (X3 9 j) = mpv (Y3 4) (Y3 12) (Y3 6) n j + (if Y3 10 j = nI cy - 1 then Y3 9 j else 0) := by
        unfold apSum
        rw [hm, e9]
        by_cases y : X3 10 j ≠ 0
        · rw [if_pos y, if_pos (h10.mp y)]
        · rw [if_neg y, if_neg (fun w => y (h10.mpr w))]
      rw [hodd, hsum, hm] at a1 a4
      rw [hm] at a2 a9
      rw [← e1, ← e4] at c4
      rw [← e2] at c6
      rw [← e4] at c8
      refine ⟨⟨a1.trans c4.symm, a2.trans c6.symm, a4.trans c8.symm, a9.trans c9.symm⟩, ?_, ?_, ?_, ?_, ?_, ?_⟩
      · rw [a1]
        rcases zSt_st (ra := X3 4 j) (mid := mpv (Y3 4) (Y3 12) (Y3 6) n j) (sm := mpv (Y3 4) (Y3 12) (Y3 6) n j + (if Y3 10 j = nI cy - 1 then Y3 9 j else 0)) (odd := if rmd (nI cy) 2 = 1 then 1 else 0) z with h | h | h
        · exact Or.inr (Or.inr (Or.inl h))
        · exact Or.inr (Or.inr (Or.inr (Or.inl h)))
        · exact Or.inr (Or.inr (Or.inr (Or.inr h)))
      · intro w
        exfalso
        rw [a1] at w
        rcases zSt_st (ra := X3 4 j) (mid := mpv (Y3 4) (Y3 12) (Y3 6) n j) (sm := mpv (Y3 4) (Y3 12) (Y3 6) n j + (if Y3 10 j = nI cy - 1 then Y3 9 j else 0)) (odd := if rmd (nI cy) 2 = 1 then 1 else 0) z with h | h | h <;> exact absurd (h.symm.trans w) (by decide)
      · rw [a10, c10]; simp
      · exact Or.inr ⟨cy, by omega, c10⟩
      · rw [a4]; exact zRa_in b4
      · rw [a2]; exact zEr_bd b2 (by omega)
    · obtain ⟨a1, a2, a4, a9, a10⟩ := hc.2 z
      obtain ⟨c4, c6, c8, c9, c10⟩ := hc'.2 (e1 ▸ z)
      rw [a1, a2, a4, a9, a10, c4, c6, c8, c9, c10]
      refine ⟨⟨e1, e2, e4, e9⟩, hst, hw, ?_, ?_, b4, bd_mono b2 (by omega)⟩
      · constructor
        · intro h; exact absurd rfl h
        · intro h
          exfalso
          rcases hy with y | ⟨k, hk, y⟩
          · exact nI_m2 (by omega) (h.symm.trans y)
          · have := (nI_eq (by omega) (by omega)).mp (h.symm.trans y)
            omega
      · rcases hy with y | ⟨k, hk, y⟩
        · exact Or.inl y
        · exact Or.inr ⟨k, by omega, y⟩
  obtain ⟨⟨m1, m2, m4, m9⟩, mst, mw0, m10, my, mb4, mb2⟩ := mid
  have t := hT.1 j a b
  have t' := hT'.1 j a b
  unfold RN
  rw [hT.2 1 (by decide), hT.2 3 (by decide), hT.2 4 (by decide), hT.2 5 (by decide), hT.2 6 (by decide), hT.2 9 (by decide), hT.2 10 (by decide), hT'.2 4 (by decide), hT'.2 5 (by decide), hT'.2 7 (by decide), hT'.2 8 (by decide), hT'.2 9 (by decide), hT'.2 10 (by decide), hT'.2 11 (by decide), k3, k5, l5, l7]
  rw [k3] at t
  rw [l7, ← m1, ← m2, ← m4, ← e3] at t'
  refine ⟨⟨m1, ?_, e3, m4, e5, m9⟩, mst, mw0, m10, my, b3, mb4, ?_⟩
  · rw [t, t']
    by_cases z : X4 1 j = 4
    · rw [if_pos z, if_pos z]; simp
    · rw [if_neg z, if_neg z]
  · rw [t]
    by_cases z : X4 1 j = 4
    · rw [if_pos z]; exact bd_mono mb2 (by omega)
    · rw [if_neg z]
      exact bd_mono (bd_add mb2 (bd_add (bd_200 b3) (bd_100 mb4) (by omega)) (by omega)) (by omega)
