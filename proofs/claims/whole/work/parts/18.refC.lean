/-! the reference: correction and run -/
def APR (Y u : Nat → Nat → Int32) (cy j : Nat) (mid : Int32) : Prop := u 4 j = zSt (Y 4 j) (Y 8 j) mid (mid + (if Y 10 j = nI cy - 1 then Y 9 j else 0)) (if rmd (nI cy) 2 = 1 then 1 else 0) ∧ u 6 j = zEr (Y 6 j) mid ∧ u 8 j = zRa (Y 8 j) mid (mid + (if Y 10 j = nI cy - 1 then Y 9 j else 0)) (if rmd (nI cy) 2 = 1 then 1 else 0) ∧ u 9 j = mid ∧ u 10 j = nI cy
def CRR (Y u : Nat → Nat → Int32) (n cy j : Nat) : Prop := (Y 4 j = 2 → APR Y u cy j (mpv (Y 4) (Y 12) (Y 6) n j)) ∧ (Y 4 j ≠ 2 → u 4 j = Y 4 j ∧ u 6 j = Y 6 j ∧ u 8 j = Y 8 j ∧ u 9 j = Y 9 j ∧ u 10 j = Y 10 j)
theorem cy_keep {Y Y' : Nat → Nat → Int32} {n i : Nat} {v : Int32} (h3 : ∀ j, 1 ≤ j → j < i → Y 4 j = 2 → Y' 13 j = mpv (Y 4) (Y 12) (Y 6) n j) (h5 : ∀ a, a ≠ 13 → a ≠ 14 → Y' a = Y a) (c : ¬ Y' 4 i = 2) : ∀ j, 1 ≤ j → j < i + 1 → Y 4 j = 2 → (sX Y' 13 i v) 13 j = mpv (Y 4) (Y 12) (Y 6) n j := by
  intro j a b z
  by_cases e : j = i
  · subst e; rw [h5 4 (by decide) (by decide)] at c; exact absurd z c
  · rw [sX_app, if_neg (fun z => e z.2)]; exact h3 j a (by omega) z
theorem cy_set {Y Y' u : Nat → Nat → Int32} {n i : Nat} {r : Int32} (h3 : ∀ j, 1 ≤ j → j < i → Y 4 j = 2 → Y' 13 j = mpv (Y 4) (Y 12) (Y 6) n j) (h5 : ∀ a, a ≠ 13 → a ≠ 14 → Y' a = Y a) (hr : r = mpv (Y' 4) (Y' 12) (Y' 6) n i ∧ ∀ a, a ≠ 14 → u a = Y' a) : ∀ j, 1 ≤ j → j < i + 1 → Y 4 j = 2 → (sX u 13 i r) 13 j = mpv (Y 4) (Y 12) (Y 6) n j := by
  intro j a b z
  rw [sX_app]
  by_cases e : j = i
  · subst e; rw [if_pos ⟨rfl, rfl⟩, hr.1, h5 4 (by decide) (by decide), h5 12 (by decide) (by decide), h5 6 (by decide) (by decide)]
  · rw [if_neg (fun z => e z.2), hr.2 13 (by decide)]; exact h3 j a (by omega) z
/-- what a step of the second loop does at i -/
def STP (Z u : Nat → Nat → Int32) (cy i : Nat) : Prop := APR Z u cy i (Z 13 i) ∧ (∀ j, j ≠ i → ∀ a, u a j = Z a j) ∧ ∀ a, a ≠ 4 → a ≠ 6 → a ≠ 8 → a ≠ 9 → a ≠ 10 → u a = Z a
theorem six {Y : Nat → Nat → Int32} {a b i j : Nat} {v : Int32} (h : i ≠ j) : sX Y b j v a i = Y a i := by rw [sX_app, if_neg (fun z => h z.2)]
theorem st_halt {Z : Nat → Nat → Int32} {i cy : Nat} {be : Int32} (_ : be = if Z 10 i = nI cy - 1 then Z 9 i else 0) (hb : big (Z 13 i)) : STP Z (sX (sX (sX Z 9 i (Z 13 i)) 10 i (nI cy)) 4 i 4) cy i := by
  refine ⟨⟨?_, ?_, ?_, ?_, ?_⟩, fun j hj a => by rw [six hj, six hj, six hj], fun a a4 _ _ a9 a10 => by rw [sX_ne a4, sX_ne a10, sX_ne a9]⟩
  · unfold zSt; rw [if_pos hb]; simp [sX_app]
  · unfold zEr; rw [if_pos hb]; simp [sX_app]
  · unfold zRa; rw [if_neg (fun z => z.1 hb)]; simp [sX_app]
  · simp [sX_app]
  · simp [sX_app]
theorem clp_id {w : Int32} (h1 : w ≤ 100) (h2 : (-100) ≤ w) : clp w = w := by
  unfold clp
  have e : (if w < 100 then w else 100) = w := by
    split
    · rfl
    · rename_i z
      exact Int32.le_antisymm (Int32.not_lt.mp z) h1
  rw [e]
  split
  · rfl
  · rename_i z
    exact (Int32.le_antisymm (Int32.not_lt.mp z) h2).symm
theorem clp_hi {w : Int32} (h : 100 < w) : clp w = 100 := by
  unfold clp
  rw [if_neg (i32_nle (Int32.le_of_lt h)), if_pos (by decide)]
theorem clp_lo {w : Int32} (h : w < (-100)) : clp w = -100 := by
  unfold clp
  rw [if_pos (Int32.lt_trans h (by decide)), if_neg (i32_nle (Int32.le_of_lt h))]
theorem clp_in (w : Int32) : (-100) ≤ clp w ∧ clp w ≤ 100 := by
  by_cases h1 : 100 < w
  · rw [clp_hi h1]; decide
  · by_cases h2 : w < (-100)
    · rw [clp_lo h2]; decide
    · rw [clp_id (Int32.not_lt.mp h1) (Int32.not_lt.mp h2)]
      exact ⟨Int32.not_lt.mp h2, Int32.not_lt.mp h1⟩
theorem zRa_in {ra mid sm odd : Int32} (h : (-100) ≤ ra ∧ ra ≤ 100) : (-100) ≤ zRa ra mid sm odd ∧ zRa ra mid sm odd ≤ 100 := by
  unfold zRa
  by_cases z : ¬ big mid ∧ odd ≠ 0
  · rw [if_pos z]; exact clp_in _
  · rw [if_neg z]; exact h
theorem st_ok {Z Zr : Nat → Nat → Int32} {i cy : Nat} {be : Int32} (hbe : be = if Z 10 i = nI cy - 1 then Z 9 i else 0) (hnb : ¬ big (Z 13 i)) (hw1 : Zr 8 i = if rmd (nI cy) 2 = 1 then Z 8 i + (Z 13 i + be) / 4 else Z 8 i)
    (hw2 : ∀ a b, ¬ (a = 8 ∧ b = i) → Zr a b = (sX (sX (sX Z 9 i (Z 13 i)) 10 i (nI cy)) 6 i (Z 6 i + Z 13 i)) a b) (hw3 : ∀ a, a ≠ 8 → Zr a = (sX (sX (sX Z 9 i (Z 13 i)) 10 i (nI cy)) 6 i (Z 6 i + Z 13 i)) a) (c1 : Zr 8 i ≤ 100) (c2 : (-100) ≤ Zr 8 i) : STP Z Zr cy i := by
  refine ⟨⟨?_, ?_, ?_, ?_, ?_⟩, fun j hj a => by rw [hw2 a j (fun z => hj z.2), six hj, six hj, six hj], fun a _ a6 a8 a9 a10 => by rw [hw3 a a8, sX_ne a6, sX_ne a10, sX_ne a9]⟩
  · rw [hw3 4 (by decide), ← hbe]
    unfold zSt
    rw [if_neg hnb]
    by_cases ho : rmd (nI cy) 2 = 1
    · rw [if_pos ho] at hw1
      rw [← hw1, clp_id c1 c2, if_neg (fun z => z.2 rfl)]; simp [sX_app]
    · rw [if_neg ho, if_neg (fun z => z.1 rfl)]; simp [sX_app]
  · rw [hw3 6 (by decide)]; unfold zEr; rw [if_neg hnb]; simp [sX_app]
  · rw [← hbe]
    unfold zRa
    by_cases ho : rmd (nI cy) 2 = 1
    · rw [if_pos ho] at hw1
      rw [if_pos ho, if_pos ⟨hnb, by decide⟩, ← hw1, clp_id c1 c2]
    · rw [if_neg ho] at hw1
      rw [if_neg ho, if_neg (fun z => z.2 rfl), hw1]
  · rw [hw3 9 (by decide)]; simp [sX_app]
  · rw [hw3 10 (by decide)]; simp [sX_app]
theorem st_pass {Z Zr : Nat → Nat → Int32} {i cy : Nat} {be v8 : Int32} (hbe : be = if Z 10 i = nI cy - 1 then Z 9 i else 0) (hnb : ¬ big (Z 13 i)) (hw1 : Zr 8 i = if rmd (nI cy) 2 = 1 then Z 8 i + (Z 13 i + be) / 4 else Z 8 i)
    (hw2 : ∀ a b, ¬ (a = 8 ∧ b = i) → Zr a b = (sX (sX (sX Z 9 i (Z 13 i)) 10 i (nI cy)) 6 i (Z 6 i + Z 13 i)) a b) (hw3 : ∀ a, a ≠ 8 → Zr a = (sX (sX (sX Z 9 i (Z 13 i)) 10 i (nI cy)) 6 i (Z 6 i + Z 13 i)) a) (hq : 100 < Zr 8 i ∨ Zr 8 i < (-100)) (hrz : (-100) ≤ Z 8 i ∧ Z 8 i ≤ 100) (hv : v8 = if 0 < Zr 8 i then 100 else (-100)) : STP Z (sX (sX Zr 8 i v8) 4 i 3) cy i := by
  have ho : rmd (nI cy) 2 = 1 := by
    by_cases ho : rmd (nI cy) 2 = 1
    · exact ho
    · rw [if_neg ho] at hw1
      rw [hw1] at hq
      exact absurd hq (fun z => z.elim (i32_nle hrz.2) (i32_nle hrz.1))
  rw [if_pos ho] at hw1
  have hc : clp (Zr 8 i) = v8 := by
    rw [hv]
    rcases hq with h | h
    · rw [clp_hi h, if_pos (Int32.lt_trans (by decide) h)]
    · rw [clp_lo h, if_neg (i32_nle (Int32.le_of_lt (Int32.lt_trans h (by decide))))]
  have hne : clp (Zr 8 i) ≠ Zr 8 i := fun z => by
    have q := clp_in (Zr 8 i)
    rw [z] at q
    exact hq.elim (i32_nle q.2) (i32_nle q.1)
  refine ⟨⟨?_, ?_, ?_, ?_, ?_⟩, fun j hj a => by rw [six hj, six hj, hw2 a j (fun z => hj z.2), six hj, six hj, six hj], fun a a4 a6 a8 a9 a10 => by rw [sX_ne a4, sX_ne a8, hw3 a a8, sX_ne a6, sX_ne a10, sX_ne a9]⟩
  · rw [sX_at, ← hbe]; unfold zSt; rw [if_neg hnb, if_pos ho, ← hw1, if_pos ⟨by decide, hne⟩]
  · rw [sX_ne (by decide), sX_ne (by decide), hw3 6 (by decide)]; unfold zEr; rw [if_neg hnb]; simp [sX_app]
  · rw [sX_ne (by decide), sX_at, ← hbe]; unfold zRa; rw [if_pos ho, if_pos ⟨hnb, by decide⟩, ← hw1, hc]
  · rw [sX_ne (by decide), sX_ne (by decide), hw3 9 (by decide)]; simp [sX_app]
  · rw [sX_ne (by decide), sX_ne (by decide), hw3 10 (by decide)]; simp [sX_app]
theorem cs3 {Y Z u : Nat → Nat → Int32} {n i cy : Nat} (h1 : 1 ≤ i) (hi : i ≤ n) (k3 : ∀ j, 1 ≤ j → j < i → CRR Y Z n cy j) (k4 : ∀ j, i ≤ j → ∀ a, a ≠ 13 → a ≠ 14 → Z a j = Y a j) (k6 : ∀ j, 1 ≤ j → j ≤ n → Y 4 j = 2 → Z 13 j = mpv (Y 4) (Y 12) (Y 6) n j) (c : Z 4 i = 2) (hr : STP Z u cy i) : ∀ j, 1 ≤ j → j < i + 1 → CRR Y u n cy j := by
  intro j a b
  by_cases e : j = i
  · subst e
    have q := fun a h8 h11 => k4 j (Nat.le_refl j) a h8 h11
    have c' := c
    rw [q 4 (by decide) (by decide)] at c'
    have h := hr.1
    unfold APR at h
    rw [k6 j a hi c', q 4 (by decide) (by decide), q 6 (by decide) (by decide), q 8 (by decide) (by decide), q 9 (by decide) (by decide), q 10 (by decide) (by decide)] at h
    exact ⟨fun _ => h, fun z => absurd c' z⟩
  · have h := k3 j a (by omega)
    unfold CRR APR at h ⊢
    have q := hr.2.1 j e
    rw [q 4, q 6, q 8, q 9, q 10]
    exact h
theorem cs3k {Y Z : Nat → Nat → Int32} {n i cy : Nat} (k3 : ∀ j, 1 ≤ j → j < i → CRR Y Z n cy j) (k4 : ∀ j, i ≤ j → ∀ a, a ≠ 13 → a ≠ 14 → Z a j = Y a j) (c : ¬ Z 4 i = 2) : ∀ j, 1 ≤ j → j < i + 1 → CRR Y Z n cy j := by
  intro j a b
  by_cases e : j = i
  · subst e
    have q := fun a h8 h11 => k4 j (Nat.le_refl j) a h8 h11
    rw [q 4 (by decide) (by decide)] at c
    exact ⟨fun z => absurd z c, fun _ => ⟨q 4 (by decide) (by decide), q 6 (by decide) (by decide), q 8 (by decide) (by decide), q 9 (by decide) (by decide), q 10 (by decide) (by decide)⟩⟩
  · exact k3 j a (by omega)
theorem cs4 {Y Z u : Nat → Nat → Int32} {i cy : Nat} (k4 : ∀ j, i ≤ j → ∀ a, a ≠ 13 → a ≠ 14 → Z a j = Y a j) (hr : STP Z u cy i) : ∀ j, i + 1 ≤ j → ∀ a, a ≠ 13 → a ≠ 14 → u a j = Y a j := fun j h a h8 h11 => (hr.2.1 j (by omega) a).trans (k4 j (by omega) a h8 h11)
theorem cs6 {Y Z u : Nat → Nat → Int32} {n i cy : Nat} (k6 : ∀ j, 1 ≤ j → j ≤ n → Y 4 j = 2 → Z 13 j = mpv (Y 4) (Y 12) (Y 6) n j) (hr : STP Z u cy i) : ∀ j, 1 ≤ j → j ≤ n → Y 4 j = 2 → u 13 j = mpv (Y 4) (Y 12) (Y 6) n j := fun j a b z => by rw [hr.2.2 13 (by decide) (by decide) (by decide) (by decide) (by decide)]; exact k6 j a b z
theorem cs5 {Y Z u : Nat → Nat → Int32} {i cy : Nat} (k5 : ∀ a, a ≠ 4 → a ≠ 6 → a ≠ 8 → a ≠ 9 → a ≠ 10 → a ≠ 13 → a ≠ 14 → Z a = Y a) (hr : STP Z u cy i) : ∀ a, a ≠ 4 → a ≠ 6 → a ≠ 8 → a ≠ 9 → a ≠ 10 → a ≠ 13 → a ≠ 14 → u a = Y a := fun a h4 h6 h8 h9 h10 h13 h14 => (hr.2.2 a h4 h6 h8 h9 h10).trans (k5 a h4 h6 h8 h9 h10 h13 h14)
theorem er_step {Z5 u : Nat → Nat → Int32} {b : Nat} {q6 : Int32} (b3 : ∀ j, 1 ≤ j → j < b → Z5 6 j = u 6 j + (if u 4 j = 4 then 0 else u 7 j + u 8 j)) (b4 : Z5 6 b = u 6 b) (hq : q6 = if u 4 b = 4 then 0 else u 7 b + u 8 b) : ∀ j, 1 ≤ j → j < b + 1 → (sX Z5 6 b (Z5 6 b + q6)) 6 j = u 6 j + (if u 4 j = 4 then 0 else u 7 j + u 8 j) := by
  intro j a h
  rw [sX_app]
  by_cases e : j = b
  · subst e; rw [if_pos ⟨rfl, rfl⟩, b4, hq]
  · rw [if_neg (fun z => e z.2)]; exact b3 j a (by omega)
theorem slot500 {x : Int32} (a : ¬ x < 0) (b : x ≤ 500) : inR x 0 500 := by
  have a := Int32.le_iff_toInt_le.mp (Int32.not_lt.mp a)
  have b := Int32.le_iff_toInt_le.mp b
  exact ⟨by simpa using a, by simpa using b⟩
theorem SUR_keep {Y u : Nat → Nat → Int32} {n : Nat} (h : SUR Y u n) : ∀ a, a ≠ 4 → a ≠ 6 → a ≠ 11 → u a = Y a := by
  obtain ⟨f, -, -, h⟩ := h
  exact h
/-- a cycle of the reference -/
def RR (sl mi n fr : Nat) (Y : Nat → Nat → Int32) (wt cy : Nat) (r : Int32) (Y6 : Nat → Nat → Int32) (wt6 : Nat) : Prop :=
  ∃ (Y1 Y2 Y3 Y4 Y5 : Nat → Nat → Int32) (r1 : Int32) (d : Nat), SUR Y Y1 n ∧
    (r1 = nI (cnz (fun i => decide (Dn (fun i => decide (rmd (nI cy) (Y1 20 i) = Y1 19 i)) (Y1 4) (Y1 16) (Y1 17) (Y1 18) (Y1 25) i)) fr) ∧ (∀ j, 1 ≤ j → j ≤ n → (Y2 12 j ≠ 0 ↔ ∃ i, i < fr ∧ Dn (fun i => decide (rmd (nI cy) (Y1 20 i) = Y1 19 i)) (Y1 4) (Y1 16) (Y1 17) (Y1 18) (Y1 25) i ∧ (Y1 16 i).toNatClampNeg = j)) ∧ ∀ a, a ≠ 12 → Y2 a = Y1 a) ∧
    ((dl Y3 22 23 24 wt6, d) = dyn (pm (Y2 4)) mi 60 1 (dl Y2 22 23 24 wt) 1 0 ∧ wt6 ≤ wt ∧ DyI (Y3 22) (Y3 24) n wt6 ∧ ∀ a, a ≠ 22 → a ≠ 23 → a ≠ 24 → Y3 a = Y2 a) ∧
    ((∀ j, 1 ≤ j → j ≤ n → CRR Y3 Y4 n cy j) ∧ ∀ a, a ≠ 4 → a ≠ 6 → a ≠ 8 → a ≠ 9 → a ≠ 10 → a ≠ 13 → a ≠ 14 → Y4 a = Y3 a) ∧
    ((∀ j, 1 ≤ j → j ≤ n → Y5 6 j = Y4 6 j + (if Y4 4 j = 4 then 0 else Y4 7 j + Y4 8 j)) ∧ ∀ a, a ≠ 6 → Y5 a = Y4 a) ∧
    ((∀ q, q < sl → Y6 25 q = 0) ∧ ∀ a, a ≠ 25 → Y6 a = Y5 a) ∧ r = r1 + nI d
section RRS
variable {sl mi n fr : Nat} {Y : Nat → Nat → Int32} {wt cy : Nat} {r : Int32} {Y6 : Nat → Nat → Int32} {wt6 : Nat}
theorem RR_keep (h : RR sl mi n fr Y wt cy r Y6 wt6) : ∀ a, (a = 5 ∨ a = 7 ∨ a = 16 ∨ a = 17 ∨ a = 18 ∨ a = 19 ∨ a = 20) → Y6 a = Y a := by
  obtain ⟨X1, X2, X3, X4, X5, r1, d, h1, h2, h3, h4, h5, h6, -⟩ := h
  intro a ha
  rcases ha with rfl | rfl | rfl | rfl | rfl | rfl | rfl <;>
    rw [h6.2 _ (by decide), h5.2 _ (by decide), h4.2 _ (by decide) (by decide) (by decide) (by decide) (by decide) (by decide) (by decide), h3.2.2.2 _ (by decide) (by decide) (by decide), h2.2.2 _ (by decide), SUR_keep h1 _ (by decide) (by decide) (by decide)]
theorem RR_wt (h : RR sl mi n fr Y wt cy r Y6 wt6) : wt6 ≤ wt := by
  obtain ⟨X1, X2, X3, X4, X5, r1, d, h1, h2, h3, h4, h5, h6, -⟩ := h
  exact h3.2.1
theorem RR_dy (h : RR sl mi n fr Y wt cy r Y6 wt6) : DyI (Y6 22) (Y6 24) n wt6 := by
  obtain ⟨X1, X2, X3, X4, X5, r1, d, h1, h2, h3, h4, h5, h6, -⟩ := h
  rw [h6.2 _ (by decide), h5.2 _ (by decide), h4.2 _ (by decide) (by decide) (by decide) (by decide) (by decide) (by decide) (by decide), h6.2 _ (by decide), h5.2 _ (by decide), h4.2 _ (by decide) (by decide) (by decide) (by decide) (by decide) (by decide) (by decide)]
  exact h3.2.2.1
theorem RR_ra (hR : ∀ j, 1 ≤ j → j ≤ n → (-100) ≤ Y 8 j ∧ Y 8 j ≤ 100) (h : RR sl mi n fr Y wt cy r Y6 wt6) : ∀ j, 1 ≤ j → j ≤ n → (-100) ≤ Y6 8 j ∧ Y6 8 j ≤ 100 := by
  obtain ⟨X1, X2, X3, X4, X5, r1, d, h1, h2, h3, h4, h5, h6, -⟩ := h
  intro j a b
  rw [h6.2 _ (by decide), h5.2 _ (by decide)]
  have e : X3 8 = Y 8 := by rw [h3.2.2.2 _ (by decide) (by decide) (by decide), h2.2.2 _ (by decide), SUR_keep h1 _ (by decide) (by decide) (by decide)]
  have q := h4.1 j a b
  by_cases z : X3 4 j = 2
  · have q := (q.1 z).2.2.1
    rw [q]
    exact zRa_in (by rw [e]; exact hR j a b)
  · have q := (q.2 z).2.2.1
    rw [q, e]; exact hR j a b
end RRS
def RSR (sl mi n fr : Nat) : Nat → (Nat → Nat → Int32) × Nat × Nat → Int32 → (Nat → Nat → Int32) × Nat × Nat → Prop
  | 0, S, r, S2 => r = 0 ∧ S2 = S
  | k + 1, S, r, S2 => ∃ (S1 : (Nat → Nat → Int32) × Nat × Nat) (r1 r2 : Int32) (X2 : Nat → Nat → Int32) (d2 : Nat), RSR sl mi n fr k S r1 S1 ∧ RR sl mi n fr S1.1 S1.2.1 S1.2.2 r2 X2 d2 ∧ r = r1 + r2 ∧ S2 = (X2, d2, S1.2.2 + 1)
theorem RSR_step {sl mi n fr k : Nat} {S : (Nat → Nat → Int32) × Nat × Nat} {r1 r2 r3 : Int32} {X X2 : Nat → Nat → Int32} {wt cy d2 : Nat} (h : RSR sl mi n fr k S r1 (X, wt, cy)) (h2 : RR sl mi n fr X wt cy (r2 + r3) X2 d2) : RSR sl mi n fr (k + 1) S (r1 + r2 + r3) (X2, d2, cy + 1) := ⟨(X, wt, cy), r1, r2 + r3, X2, d2, h, h2, Int32.add_assoc r1 r2 r3, rfl⟩
set_option maxHeartbeats 4000000 in
set_option maxRecDepth 100000 in
theorem c_X5_correct {l : Launch} {D : va_G} {cI cZ cL : ClassId} {h : Nat → Nat} {sl mi n : Nat} {Y : Nat → Nat → Int32} {th fr wt cy : Nat} (hn : n ≤ 16) (hRa : ∀ j, 1 ≤ j → j ≤ n → (-100) ≤ Y 8 j ∧ Y 8 j ≤ 100) : KV l yX5_correct (.code yX5_correct cX5_correct 3 none) 1 D (tyz cI cZ cL) [.ref (h 0)] (mw h cI cZ sl mi n Y th fr wt cy) (fun u => (∀ j, 1 ≤ j → j ≤ n → CRR Y u n cy j) ∧ ∀ a, a ≠ 4 → a ≠ 6 → a ≠ 8 → a ≠ 9 → a ≠ 10 → a ≠ 13 → a ≠ 14 → u a = Y a) (fun u : Nat → Nat → Int32 => mw h cI cZ sl mi n u th fr wt cy) := by
  refine KN.of (own := RX5) (lvs := [(0, .ref (h 0))]) (by decide) rfl (Nat.le_of_ble_eq_true rfl) rfl ?_
  intro p e s m args below meth c Q C hK hN A hA hP hD hS hin ret ls hl
  obtain ⟨hx, hb, hml, hown, hts, hr9, hlk9⟩ := id C
  refine lv_iconst (v := 1) hx hb dX5_correct_0 (by decide) ?_
  refine lv_istore_n (lv' := [(1, .int 1), (0, .ref (h 0))]) hx hb dX5_correct_1 rfl hl (by decide) rfl (fun ls hl => ?_)
  have L2 : ∀ (kf : Nat) (i : Nat) (Y' : Nat → Nat → Int32) (H : Heap) (locs : List Loc) (ls : Array Slot), (n + 1 - i < kf) → (1 ≤ i) → (i ≤ n + 1) → (∀ j, 1 ≤ j → j < i → Y 4 j = 2 → Y' 13 j = mpv (Y 4) (Y 12) (Y 6) n j) → (∀ a, a ≠ 13 → a ≠ 14 → Y' a = Y a) → (va_P D vwCl (mw h cI cZ sl mi n Y' th fr wt cy) H) → (va_D A (mw h cI cZ sl mi n Y' th fr wt cy)) → (va_S A s.heap H locs) → (lv_has ls 3 [(0, .ref (h 0)), (1, .int (nI i))]) → W p l e (rmK 1) s m args below meth c H locs 0 0 Q (F0 m 2 ls []) := by
    intro kf
    induction kf with
    | zero =>
      intro i Y' H locs ls hm
      exact absurd hm (Nat.not_lt_zero _)
    | succ kf ih2 =>
      intro i Y' H locs ls hm h1 h2 h3 h5 hP hD hS hl
      refine lv_iload_n hx hb dX5_correct_2 rfl (lv_at hl 1 rfl) ?_
      refine lv_aload_n hx hb dX5_correct_3 rfl (lv_at hl 0 rfl) ?_
      refine va_get (D := D) (ci := 7) (v := .int (nI n)) (C := RX5) (T := TX5) (N := 27) hx hb hts inX5 hown hK hP 0 rfl rfl 1 (by decide) (hts _ wF_X5_71) (fun _ h9 => h9) rfl dX5_correct_4 ?_
      refine k_icmp_gt (tgt := 41) hx hb i n rfl rfl (by omega) (by omega) dX5_correct_7 (by decide) (fun c7 => ?_) (fun c7 => ?_)
      · skip
        refine lv_iconst (v := 1) hx hb dX5_correct_41 (by decide) ?_
        refine lv_istore_n (lv' := [(1, .int 1), (0, .ref (h 0))]) hx hb dX5_correct_42 rfl hl (by decide) rfl (fun ls hl => ?_)
        have L43 : ∀ (kf : Nat) (i : Nat) (Z : Nat → Nat → Int32) (H : Heap) (locs : List Loc) (ls : Array Slot), (n + 1 - i < kf) → (1 ≤ i) → (i ≤ n + 1) → (∀ j, 1 ≤ j → j < i → CRR Y Z n cy j) → (∀ j, i ≤ j → ∀ a, a ≠ 13 → a ≠ 14 → Z a j = Y a j) → (∀ j, 1 ≤ j → j ≤ n → Y 4 j = 2 → Z 13 j = mpv (Y 4) (Y 12) (Y 6) n j) → (∀ a, a ≠ 4 → a ≠ 6 → a ≠ 8 → a ≠ 9 → a ≠ 10 → a ≠ 13 → a ≠ 14 → Z a = Y a) → (va_P D vwCl (mw h cI cZ sl mi n Z th fr wt cy) H) → (va_D A (mw h cI cZ sl mi n Z th fr wt cy)) → (va_S A s.heap H locs) → (lv_has ls 3 [(0, .ref (h 0)), (1, .int (nI i))]) → W p l e (rmK 1) s m args below meth c H locs 0 0 Q (F0 m 43 ls []) := by
          intro kf
          induction kf with
          | zero =>
            intro i Z H locs ls hm
            exact absurd hm (Nat.not_lt_zero _)
          | succ kf ih43 =>
            intro i Z H locs ls hm h1 h2 k3 k4 k6 k5 hP hD hS hl
            have hz8 : i ≤ n → (-100) ≤ Z 8 i ∧ Z 8 i ≤ 100 := fun z => by rw [k4 i (Nat.le_refl i) 8 (by decide) (by decide)]; exact hRa i h1 z
            refine lv_iload_n hx hb dX5_correct_43 rfl (lv_at hl 1 rfl) ?_
            refine lv_aload_n hx hb dX5_correct_44 rfl (lv_at hl 0 rfl) ?_
            refine va_get (D := D) (ci := 7) (v := .int (nI n)) (C := RX5) (T := TX5) (N := 27) hx hb hts inX5 hown hK hP 0 rfl rfl 1 (by decide) (hts _ wF_X5_71) (fun _ h9 => h9) rfl dX5_correct_45 ?_
            refine k_icmp_gt (tgt := 244) hx hb i n rfl rfl (by omega) (by omega) dX5_correct_48 (by decide) (fun c48 => ?_) (fun c48 => ?_)
            · skip
              exact ret Z _ _ _ _ dX5_correct_244 hP hD hS ⟨fun j a b => k3 j a (by omega), k5⟩
            · skip
              refine lv_aload_n hx hb dX5_correct_51 rfl (lv_at hl 0 rfl) ?_
              refine va_get (D := D) (ci := 7) (v := .ref (h 4)) (C := RX5) (T := TX5) (N := 27) hx hb hts inX5 hown hK hP 0 rfl rfl 4 (by decide) (hts _ wF_X5_7) (fun _ h9 => h9) rfl dX5_correct_52 ?_
              refine lv_iload_n hx hb dX5_correct_55 rfl (lv_at hl 1 rfl) ?_
              refine k_iald (D := D) (f := Z 4) hx hb hK hP 1 0 rfl rfl i rfl (by omega) (by omega) dX5_correct_56 ?_
              refine lv_iconst (v := 2) hx hb dX5_correct_57 (by decide) ?_
              refine lv_icmp_ne (tgt := 238) hx hb dX5_correct_58 (by decide) (fun c58 => ?_) (fun c58 => ?_)
              · skip
                refine k_iinc (k := 1) (lv' := [(1, .int (nI (i + 1))), (0, .ref (h 0))]) hx hb i rfl dX5_correct_238 hl rfl (by decide) rfl (fun ls hl => ?_)
                refine lv_goto (tgt := 43) hx hb dX5_correct_241 (by decide) ?_
                exact ih43 (i + 1) Z _ _ _ (by omega) (by omega) (by omega) (by first | exact cs3 h1 (by omega) k3 k4 k6 c58 hst | exact cs3k k3 k4 c58) (by first | exact cs4 k4 hst | exact fun j q => k4 j (by omega)) (by first | exact cs6 k6 hst | exact k6) (by first | exact cs5 k5 hst | exact k5) hP hD hS (lv_sub hl [1, 0] rfl)
              · skip
                have L86 : ∀ (be : Int32) (ls : Array Slot), (be = if Z 10 i = nI cy - 1 then Z 9 i else 0) → (lv_has ls 3 [(0, .ref (h 0)), (1, .int (nI i))]) → W p l e (rmK 1) s m args below meth c H locs 0 0 Q (F0 m 86 ls [.int be]) := by
                  intro be ls hbe hl
                  refine lv_istore_n (lv' := [(2, .int be), (0, .ref (h 0)), (1, .int (nI i))]) hx hb dX5_correct_86 rfl hl (by decide) rfl (fun ls hl => ?_)
                  refine lv_aload_n hx hb dX5_correct_87 rfl (lv_at hl 1 rfl) ?_
                  refine va_get (D := D) (ci := 7) (v := .ref (h 9)) (C := RX5) (T := TX5) (N := 27) hx hb hts inX5 hown hK hP 0 rfl rfl 9 (by decide) (hts _ wF_X5_26) (fun _ h9 => h9) rfl dX5_correct_88 ?_
                  refine lv_iload_n hx hb dX5_correct_91 rfl (lv_at hl 2 rfl) ?_
                  refine lv_aload_n hx hb dX5_correct_92 rfl (lv_at hl 1 rfl) ?_
                  refine va_get (D := D) (ci := 7) (v := .ref (h 13)) (C := RX5) (T := TX5) (N := 27) hx hb hts inX5 hown hK hP 0 rfl rfl 13 (by decide) (hts _ wF_X5_38) (fun _ h9 => h9) rfl dX5_correct_93 ?_
                  refine lv_iload_n hx hb dX5_correct_96 rfl (lv_at hl 2 rfl) ?_
                  refine k_iald (D := D) (f := Z 13) hx hb hK hP 10 0 rfl rfl i rfl (by omega) (by omega) dX5_correct_97 ?_
                  refine k_iast (D := D) (f := Z 9) (ws' := mw h cI cZ sl mi n (sX Z 9 i (Z 13 i)) th fr wt cy) hx hb hK hP hD hS 6 0 rfl rfl i rfl (by omega) (by omega) rfl dX5_correct_98 (fun H locs hP hD hS => ?_)
                  refine lv_aload_n hx hb dX5_correct_99 rfl (lv_at hl 1 rfl) ?_
                  refine va_get (D := D) (ci := 7) (v := .ref (h 10)) (C := RX5) (T := TX5) (N := 27) hx hb hts inX5 hown hK hP 0 rfl rfl 10 (by decide) (hts _ wF_X5_29) (fun _ h9 => h9) rfl dX5_correct_100 ?_
                  refine lv_iload_n hx hb dX5_correct_103 rfl (lv_at hl 2 rfl) ?_
                  refine lv_aload_n hx hb dX5_correct_104 rfl (lv_at hl 1 rfl) ?_
                  refine va_get (D := D) (ci := 7) (v := .int (nI cy)) (C := RX5) (T := TX5) (N := 27) hx hb hts inX5 hown hK hP 0 rfl rfl 26 (by decide) (hts _ wF_X5_97) (fun _ h9 => h9) rfl dX5_correct_105 ?_
                  refine k_iast (D := D) (f := Z 10) (ws' := mw h cI cZ sl mi n (sX (sX Z 9 i (Z 13 i)) 10 i (nI cy)) th fr wt cy) hx hb hK hP hD hS 7 0 rfl rfl i rfl (by omega) (by omega) rfl dX5_correct_108 (fun H locs hP hD hS => ?_)
                  refine lv_aload_n hx hb dX5_correct_109 rfl (lv_at hl 1 rfl) ?_
                  refine va_get (D := D) (ci := 7) (v := .ref (h 13)) (C := RX5) (T := TX5) (N := 27) hx hb hts inX5 hown hK hP 0 rfl rfl 13 (by decide) (hts _ wF_X5_38) (fun _ h9 => h9) rfl dX5_correct_110 ?_
                  refine lv_iload_n hx hb dX5_correct_113 rfl (lv_at hl 2 rfl) ?_
                  refine k_iald (D := D) (f := Z 13) hx hb hK hP 10 0 rfl rfl i rfl (by omega) (by omega) dX5_correct_114 ?_
                  refine lv_sipush (v := 500) hx hb dX5_correct_115 (by decide) ?_
                  refine lv_icmp_gt (tgt := 133) hx hb dX5_correct_118 (by decide) (fun c118 => ?_) (fun c118 => ?_)
                  · skip
                    refine lv_aload_n hx hb dX5_correct_133 rfl (lv_at hl 1 rfl) ?_
                    refine va_get (D := D) (ci := 7) (v := .ref (h 4)) (C := RX5) (T := TX5) (N := 27) hx hb hts inX5 hown hK hP 0 rfl rfl 4 (by decide) (hts _ wF_X5_7) (fun _ h9 => h9) rfl dX5_correct_134 ?_
                    refine lv_iload_n hx hb dX5_correct_137 rfl (lv_at hl 2 rfl) ?_
                    refine lv_iconst (v := 4) hx hb dX5_correct_138 (by decide) ?_
                    refine k_iast (D := D) (f := Z 4) (ws' := mw h cI cZ sl mi n (sX (sX (sX Z 9 i (Z 13 i)) 10 i (nI cy)) 4 i 4) th fr wt cy) hx hb hK hP hD hS 1 0 rfl rfl i rfl (by omega) (by omega) rfl dX5_correct_139 (fun H locs hP hD hS => ?_)
                    refine lv_goto (tgt := 238) hx hb dX5_correct_140 (by decide) ?_
                    have hst := st_halt (Z := Z) (i := i) (cy := cy) hbe (by first | exact Or.inl c118 | exact Or.inr (Int32.not_le.mp c130))
                    refine k_iinc (k := 2) (lv' := [(1, .int (nI (i + 1))), (2, .int be), (0, .ref (h 0))]) hx hb i rfl dX5_correct_238 hl rfl (by decide) rfl (fun ls hl => ?_)
                    refine lv_goto (tgt := 43) hx hb dX5_correct_241 (by decide) ?_
                    exact ih43 (i + 1) (sX (sX (sX Z 9 i (Z 13 i)) 10 i (nI cy)) 4 i 4) _ _ _ (by omega) (by omega) (by omega) (by first | exact cs3 h1 (by omega) k3 k4 k6 c58 hst | exact cs3k k3 k4 c58) (by first | exact cs4 k4 hst | exact fun j q => k4 j (by omega)) (by first | exact cs6 k6 hst | exact k6) (by first | exact cs5 k5 hst | exact k5) hP hD hS (lv_sub hl [2, 0] rfl)
                  · skip
                    refine lv_aload_n hx hb dX5_correct_121 rfl (lv_at hl 1 rfl) ?_
                    refine va_get (D := D) (ci := 7) (v := .ref (h 13)) (C := RX5) (T := TX5) (N := 27) hx hb hts inX5 hown hK hP 0 rfl rfl 13 (by decide) (hts _ wF_X5_38) (fun _ h9 => h9) rfl dX5_correct_122 ?_
                    refine lv_iload_n hx hb dX5_correct_125 rfl (lv_at hl 2 rfl) ?_
                    refine k_iald (D := D) (f := Z 13) hx hb hK hP 10 0 rfl rfl i rfl (by omega) (by omega) dX5_correct_126 ?_
                    refine lv_sipush (v := (-500)) hx hb dX5_correct_127 (by decide) ?_
                    refine lv_icmp_ge (tgt := 143) hx hb dX5_correct_130 (by decide) (fun c130 => ?_) (fun c130 => ?_)
                    · skip
                      have hnb : ¬ big (Z 13 i) := fun z => z.elim c118 (i32_nle c130)
                      refine lv_aload_n hx hb dX5_correct_143 rfl (lv_at hl 1 rfl) ?_
                      refine va_get (D := D) (ci := 7) (v := .ref (h 6)) (C := RX5) (T := TX5) (N := 27) hx hb hts inX5 hown hK hP 0 rfl rfl 6 (by decide) (hts _ wF_X5_17) (fun _ h9 => h9) rfl dX5_correct_144 ?_
                      refine lv_iload_n hx hb dX5_correct_147 rfl (lv_at hl 2 rfl) ?_
                      refine lv_dup2_11 hx hb dX5_correct_148 rfl rfl ?_
                      refine k_iald (D := D) (f := Z 6) hx hb hK hP 3 0 rfl rfl i rfl (by omega) (by omega) dX5_correct_149 ?_
                      refine lv_aload_n hx hb dX5_correct_150 rfl (lv_at hl 1 rfl) ?_
                      refine va_get (D := D) (ci := 7) (v := .ref (h 13)) (C := RX5) (T := TX5) (N := 27) hx hb hts inX5 hown hK hP 0 rfl rfl 13 (by decide) (hts _ wF_X5_38) (fun _ h9 => h9) rfl dX5_correct_151 ?_
                      refine lv_iload_n hx hb dX5_correct_154 rfl (lv_at hl 2 rfl) ?_
                      refine k_iald (D := D) (f := Z 13) hx hb hK hP 10 0 rfl rfl i rfl (by omega) (by omega) dX5_correct_155 ?_
                      refine lv_iadd hx hb dX5_correct_156 ?_
                      refine k_iast (D := D) (f := Z 6) (ws' := mw h cI cZ sl mi n (sX (sX (sX Z 9 i (Z 13 i)) 10 i (nI cy)) 6 i ((Z 6 i) + (Z 13 i))) th fr wt cy) hx hb hK hP hD hS 3 0 rfl rfl i rfl (by omega) (by omega) rfl dX5_correct_157 (fun H locs hP hD hS => ?_)
                      have L187 : ∀ (Zr : Nat → Nat → Int32) (H : Heap) (locs : List Loc) (ls : Array Slot), (Zr 8 i = if rmd (nI cy) 2 = 1 then Z 8 i + (Z 13 i + be) / 4 else Z 8 i) → (∀ a b, ¬ (a = 8 ∧ b = i) → Zr a b = (sX (sX (sX Z 9 i (Z 13 i)) 10 i (nI cy)) 6 i (Z 6 i + Z 13 i)) a b) → (∀ a, a ≠ 8 → Zr a = (sX (sX (sX Z 9 i (Z 13 i)) 10 i (nI cy)) 6 i (Z 6 i + Z 13 i)) a) → (va_P D vwCl (mw h cI cZ sl mi n Zr th fr wt cy) H) → (va_D A (mw h cI cZ sl mi n Zr th fr wt cy)) → (va_S A s.heap H locs) → (lv_has ls 3 [(0, .ref (h 0)), (1, .int (nI i)), (2, .int be)]) → W p l e (rmK 1) s m args below meth c H locs 0 0 Q (F0 m 187 ls []) := by
                        intro Zr H locs ls hw1 hw2 hw3 hP hD hS hl
                        refine lv_aload_n hx hb dX5_correct_187 rfl (lv_at hl 0 rfl) ?_
                        refine va_get (D := D) (ci := 7) (v := .ref (h 8)) (C := RX5) (T := TX5) (N := 27) hx hb hts inX5 hown hK hP 0 rfl rfl 8 (by decide) (hts _ wF_X5_23) (fun _ h9 => h9) rfl dX5_correct_188 ?_
                        refine lv_iload_n hx hb dX5_correct_191 rfl (lv_at hl 1 rfl) ?_
                        refine k_iald (D := D) (f := Zr 8) hx hb hK hP 5 0 rfl rfl i rfl (by omega) (by omega) dX5_correct_192 ?_
                        refine lv_bipush (v := 100) hx hb dX5_correct_193 (by decide) ?_
                        refine lv_icmp_gt (tgt := 209) hx hb dX5_correct_195 (by decide) (fun c195 => ?_) (fun c195 => ?_)
                        · skip
                          have hq8 : 100 < Zr 8 i ∨ Zr 8 i < (-100) := Or.inl c195
                          have hrz := hz8 (by omega)
                          have L230 : ∀ (v8 : Int32) (ls : Array Slot), (v8 = if 0 < Zr 8 i then 100 else (-100)) → (lv_has ls 3 [(0, .ref (h 0)), (1, .int (nI i)), (2, .int be)]) → W p l e (rmK 1) s m args below meth c H locs 0 0 Q (F0 m 230 ls [.int v8, .int (nI i), .ref (h 8)]) := by
                            intro v8 ls hv8 hl
                            refine k_iast (D := D) (f := Zr 8) (ws' := mw h cI cZ sl mi n (sX Zr 8 i v8) th fr wt cy) hx hb hK hP hD hS 5 0 rfl rfl i rfl (by omega) (by omega) rfl dX5_correct_230 (fun H locs hP hD hS => ?_)
                            refine lv_aload_n hx hb dX5_correct_231 rfl (lv_at hl 0 rfl) ?_
                            refine va_get (D := D) (ci := 7) (v := .ref (h 4)) (C := RX5) (T := TX5) (N := 27) hx hb hts inX5 hown hK hP 0 rfl rfl 4 (by decide) (hts _ wF_X5_7) (fun _ h9 => h9) rfl dX5_correct_232 ?_
                            refine lv_iload_n hx hb dX5_correct_235 rfl (lv_at hl 1 rfl) ?_
                            refine lv_iconst (v := 3) hx hb dX5_correct_236 (by decide) ?_
                            refine k_iast (D := D) (f := Zr 4) (ws' := mw h cI cZ sl mi n (sX (sX Zr 8 i v8) 4 i 3) th fr wt cy) hx hb hK hP hD hS 1 0 rfl rfl i rfl (by omega) (by omega) rfl dX5_correct_237 (fun H locs hP hD hS => ?_)
                            have hst := st_pass hbe hnb hw1 hw2 hw3 hq8 hrz hv8
                            refine k_iinc (k := 1) (lv' := [(1, .int (nI (i + 1))), (0, .ref (h 0)), (2, .int be)]) hx hb i rfl dX5_correct_238 hl rfl (by decide) rfl (fun ls hl => ?_)
                            refine lv_goto (tgt := 43) hx hb dX5_correct_241 (by decide) ?_
                            exact ih43 (i + 1) (sX (sX Zr 8 i v8) 4 i 3) _ _ _ (by omega) (by omega) (by omega) (by first | exact cs3 h1 (by omega) k3 k4 k6 c58 hst | exact cs3k k3 k4 c58) (by first | exact cs4 k4 hst | exact fun j q => k4 j (by omega)) (by first | exact cs6 k6 hst | exact k6) (by first | exact cs5 k5 hst | exact k5) hP hD hS (lv_sub hl [1, 0] rfl)
                          refine lv_aload_n hx hb dX5_correct_209 rfl (lv_at hl 0 rfl) ?_
                          refine va_get (D := D) (ci := 7) (v := .ref (h 8)) (C := RX5) (T := TX5) (N := 27) hx hb hts inX5 hown hK hP 0 rfl rfl 8 (by decide) (hts _ wF_X5_23) (fun _ h9 => h9) rfl dX5_correct_210 ?_
                          refine lv_iload_n hx hb dX5_correct_213 rfl (lv_at hl 1 rfl) ?_
                          refine lv_aload_n hx hb dX5_correct_214 rfl (lv_at hl 0 rfl) ?_
                          refine va_get (D := D) (ci := 7) (v := .ref (h 8)) (C := RX5) (T := TX5) (N := 27) hx hb hts inX5 hown hK hP 0 rfl rfl 8 (by decide) (hts _ wF_X5_23) (fun _ h9 => h9) rfl dX5_correct_215 ?_
                          refine lv_iload_n hx hb dX5_correct_218 rfl (lv_at hl 1 rfl) ?_
                          refine k_iald (D := D) (f := Zr 8) hx hb hK hP 5 0 rfl rfl i rfl (by omega) (by omega) dX5_correct_219 ?_
                          refine lv_if_le (tgt := 228) hx hb dX5_correct_220 (by decide) (fun c220 => ?_) (fun c220 => ?_)
                          · skip
                            refine lv_bipush (v := (-100)) hx hb dX5_correct_228 (by decide) ?_
                            exact L230 (-100) _ (by first | exact ite_n (i32_nle c220) | exact ite_p (Int32.not_le.mp c220)) (lv_sub hl [0, 1, 2] rfl)
                          · skip
                            refine lv_bipush (v := 100) hx hb dX5_correct_223 (by decide) ?_
                            refine lv_goto (tgt := 230) hx hb dX5_correct_225 (by decide) ?_
                            exact L230 100 _ (by first | exact ite_n (i32_nle c220) | exact ite_p (Int32.not_le.mp c220)) (lv_sub hl [0, 1, 2] rfl)
                        · skip
                          refine lv_aload_n hx hb dX5_correct_198 rfl (lv_at hl 0 rfl) ?_
                          refine va_get (D := D) (ci := 7) (v := .ref (h 8)) (C := RX5) (T := TX5) (N := 27) hx hb hts inX5 hown hK hP 0 rfl rfl 8 (by decide) (hts _ wF_X5_23) (fun _ h9 => h9) rfl dX5_correct_199 ?_
                          refine lv_iload_n hx hb dX5_correct_202 rfl (lv_at hl 1 rfl) ?_
                          refine k_iald (D := D) (f := Zr 8) hx hb hK hP 5 0 rfl rfl i rfl (by omega) (by omega) dX5_correct_203 ?_
                          refine lv_bipush (v := (-100)) hx hb dX5_correct_204 (by decide) ?_
                          refine lv_icmp_ge (tgt := 238) hx hb dX5_correct_206 (by decide) (fun c206 => ?_) (fun c206 => ?_)
                          · skip
                            have hst := st_ok hbe hnb hw1 hw2 hw3 (Int32.not_lt.mp c195) c206
                            refine k_iinc (k := 1) (lv' := [(1, .int (nI (i + 1))), (0, .ref (h 0)), (2, .int be)]) hx hb i rfl dX5_correct_238 hl rfl (by decide) rfl (fun ls hl => ?_)
                            refine lv_goto (tgt := 43) hx hb dX5_correct_241 (by decide) ?_
                            exact ih43 (i + 1) Zr _ _ _ (by omega) (by omega) (by omega) (by first | exact cs3 h1 (by omega) k3 k4 k6 c58 hst | exact cs3k k3 k4 c58) (by first | exact cs4 k4 hst | exact fun j q => k4 j (by omega)) (by first | exact cs6 k6 hst | exact k6) (by first | exact cs5 k5 hst | exact k5) hP hD hS (lv_sub hl [1, 0] rfl)
                          · skip
                            have hq8 : 100 < Zr 8 i ∨ Zr 8 i < (-100) := Or.inr (Int32.not_le.mp c206)
                            have hrz := hz8 (by omega)
                            have L230 : ∀ (v8 : Int32) (ls : Array Slot), (v8 = if 0 < Zr 8 i then 100 else (-100)) → (lv_has ls 3 [(0, .ref (h 0)), (1, .int (nI i)), (2, .int be)]) → W p l e (rmK 1) s m args below meth c H locs 0 0 Q (F0 m 230 ls [.int v8, .int (nI i), .ref (h 8)]) := by
                              intro v8 ls hv8 hl
                              refine k_iast (D := D) (f := Zr 8) (ws' := mw h cI cZ sl mi n (sX Zr 8 i v8) th fr wt cy) hx hb hK hP hD hS 5 0 rfl rfl i rfl (by omega) (by omega) rfl dX5_correct_230 (fun H locs hP hD hS => ?_)
                              refine lv_aload_n hx hb dX5_correct_231 rfl (lv_at hl 0 rfl) ?_
                              refine va_get (D := D) (ci := 7) (v := .ref (h 4)) (C := RX5) (T := TX5) (N := 27) hx hb hts inX5 hown hK hP 0 rfl rfl 4 (by decide) (hts _ wF_X5_7) (fun _ h9 => h9) rfl dX5_correct_232 ?_
                              refine lv_iload_n hx hb dX5_correct_235 rfl (lv_at hl 1 rfl) ?_
                              refine lv_iconst (v := 3) hx hb dX5_correct_236 (by decide) ?_
                              refine k_iast (D := D) (f := Zr 4) (ws' := mw h cI cZ sl mi n (sX (sX Zr 8 i v8) 4 i 3) th fr wt cy) hx hb hK hP hD hS 1 0 rfl rfl i rfl (by omega) (by omega) rfl dX5_correct_237 (fun H locs hP hD hS => ?_)
                              have hst := st_pass hbe hnb hw1 hw2 hw3 hq8 hrz hv8
                              refine k_iinc (k := 1) (lv' := [(1, .int (nI (i + 1))), (0, .ref (h 0)), (2, .int be)]) hx hb i rfl dX5_correct_238 hl rfl (by decide) rfl (fun ls hl => ?_)
                              refine lv_goto (tgt := 43) hx hb dX5_correct_241 (by decide) ?_
                              exact ih43 (i + 1) (sX (sX Zr 8 i v8) 4 i 3) _ _ _ (by omega) (by omega) (by omega) (by first | exact cs3 h1 (by omega) k3 k4 k6 c58 hst | exact cs3k k3 k4 c58) (by first | exact cs4 k4 hst | exact fun j q => k4 j (by omega)) (by first | exact cs6 k6 hst | exact k6) (by first | exact cs5 k5 hst | exact k5) hP hD hS (lv_sub hl [1, 0] rfl)
                            refine lv_aload_n hx hb dX5_correct_209 rfl (lv_at hl 0 rfl) ?_
                            refine va_get (D := D) (ci := 7) (v := .ref (h 8)) (C := RX5) (T := TX5) (N := 27) hx hb hts inX5 hown hK hP 0 rfl rfl 8 (by decide) (hts _ wF_X5_23) (fun _ h9 => h9) rfl dX5_correct_210 ?_
                            refine lv_iload_n hx hb dX5_correct_213 rfl (lv_at hl 1 rfl) ?_
                            refine lv_aload_n hx hb dX5_correct_214 rfl (lv_at hl 0 rfl) ?_
                            refine va_get (D := D) (ci := 7) (v := .ref (h 8)) (C := RX5) (T := TX5) (N := 27) hx hb hts inX5 hown hK hP 0 rfl rfl 8 (by decide) (hts _ wF_X5_23) (fun _ h9 => h9) rfl dX5_correct_215 ?_
                            refine lv_iload_n hx hb dX5_correct_218 rfl (lv_at hl 1 rfl) ?_
                            refine k_iald (D := D) (f := Zr 8) hx hb hK hP 5 0 rfl rfl i rfl (by omega) (by omega) dX5_correct_219 ?_
                            refine lv_if_le (tgt := 228) hx hb dX5_correct_220 (by decide) (fun c220 => ?_) (fun c220 => ?_)
                            · skip
                              refine lv_bipush (v := (-100)) hx hb dX5_correct_228 (by decide) ?_
                              exact L230 (-100) _ (by first | exact ite_n (i32_nle c220) | exact ite_p (Int32.not_le.mp c220)) (lv_sub hl [0, 1, 2] rfl)
                            · skip
                              refine lv_bipush (v := 100) hx hb dX5_correct_223 (by decide) ?_
                              refine lv_goto (tgt := 230) hx hb dX5_correct_225 (by decide) ?_
                              exact L230 100 _ (by first | exact ite_n (i32_nle c220) | exact ite_p (Int32.not_le.mp c220)) (lv_sub hl [0, 1, 2] rfl)
                      refine lv_aload_n hx hb dX5_correct_158 rfl (lv_at hl 1 rfl) ?_
                      refine va_get (D := D) (ci := 7) (v := .int (nI cy)) (C := RX5) (T := TX5) (N := 27) hx hb hts inX5 hown hK hP 0 rfl rfl 26 (by decide) (hts _ wF_X5_97) (fun _ h9 => h9) rfl dX5_correct_159 ?_
                      refine lv_iconst (v := 2) hx hb dX5_correct_162 (by decide) ?_
                      refine lv_irem hx hb dX5_correct_163 (by decide) ?_
                      refine lv_iconst (v := 1) hx hb dX5_correct_164 (by decide) ?_
                      refine lv_icmp_ne (tgt := 187) hx hb dX5_correct_165 (by decide) (fun c165 => ?_) (fun c165 => ?_)
                      · skip
                        exact L187 (sX (sX (sX Z 9 i (Z 13 i)) 10 i (nI cy)) 6 i ((Z 6 i) + (Z 13 i))) _ _ _ (by first | exact (sX_at.trans (if_pos c165).symm) | exact (if_neg c165).symm) (fun a b hab => by first | exact sX_app _ _ _ _ a b |>.trans (if_neg hab) | rfl) (fun a ha => by first | exact sX_ne ha | rfl) hP hD hS (lv_sub hl [1, 2, 0] rfl)
                      · skip
                        refine lv_aload_n hx hb dX5_correct_168 rfl (lv_at hl 1 rfl) ?_
                        refine va_get (D := D) (ci := 7) (v := .ref (h 8)) (C := RX5) (T := TX5) (N := 27) hx hb hts inX5 hown hK hP 0 rfl rfl 8 (by decide) (hts _ wF_X5_23) (fun _ h9 => h9) rfl dX5_correct_169 ?_
                        refine lv_iload_n hx hb dX5_correct_172 rfl (lv_at hl 2 rfl) ?_
                        refine lv_dup2_11 hx hb dX5_correct_173 rfl rfl ?_
                        refine k_iald (D := D) (f := Z 8) hx hb hK hP 5 0 rfl rfl i rfl (by omega) (by omega) dX5_correct_174 ?_
                        refine lv_aload_n hx hb dX5_correct_175 rfl (lv_at hl 1 rfl) ?_
                        refine va_get (D := D) (ci := 7) (v := .ref (h 13)) (C := RX5) (T := TX5) (N := 27) hx hb hts inX5 hown hK hP 0 rfl rfl 13 (by decide) (hts _ wF_X5_38) (fun _ h9 => h9) rfl dX5_correct_176 ?_
                        refine lv_iload_n hx hb dX5_correct_179 rfl (lv_at hl 2 rfl) ?_
                        refine k_iald (D := D) (f := Z 13) hx hb hK hP 10 0 rfl rfl i rfl (by omega) (by omega) dX5_correct_180 ?_
                        refine lv_iload_n hx hb dX5_correct_181 rfl (lv_at hl 0 rfl) ?_
                        refine lv_iadd hx hb dX5_correct_182 ?_
                        refine lv_iconst (v := 4) hx hb dX5_correct_183 (by decide) ?_
                        refine lv_idiv hx hb dX5_correct_184 (by decide) ?_
                        refine lv_iadd hx hb dX5_correct_185 ?_
                        refine k_iast (D := D) (f := Z 8) (ws' := mw h cI cZ sl mi n (sX (sX (sX (sX Z 9 i (Z 13 i)) 10 i (nI cy)) 6 i ((Z 6 i) + (Z 13 i))) 8 i ((Z 8 i) + (((Z 13 i) + be) / 4))) th fr wt cy) hx hb hK hP hD hS 5 0 rfl rfl i rfl (by omega) (by omega) rfl dX5_correct_186 (fun H locs hP hD hS => ?_)
                        exact L187 (sX (sX (sX (sX Z 9 i (Z 13 i)) 10 i (nI cy)) 6 i ((Z 6 i) + (Z 13 i))) 8 i ((Z 8 i) + (((Z 13 i) + be) / 4))) _ _ _ (by first | exact (sX_at.trans (if_pos c165).symm) | exact (if_neg c165).symm) (fun a b hab => by first | exact sX_app _ _ _ _ a b |>.trans (if_neg hab) | rfl) (fun a ha => by first | exact sX_ne ha | rfl) hP hD hS (lv_sub hl [1, 2, 0] rfl)
                    · skip
                      refine lv_aload_n hx hb dX5_correct_133 rfl (lv_at hl 1 rfl) ?_
                      refine va_get (D := D) (ci := 7) (v := .ref (h 4)) (C := RX5) (T := TX5) (N := 27) hx hb hts inX5 hown hK hP 0 rfl rfl 4 (by decide) (hts _ wF_X5_7) (fun _ h9 => h9) rfl dX5_correct_134 ?_
                      refine lv_iload_n hx hb dX5_correct_137 rfl (lv_at hl 2 rfl) ?_
                      refine lv_iconst (v := 4) hx hb dX5_correct_138 (by decide) ?_
                      refine k_iast (D := D) (f := Z 4) (ws' := mw h cI cZ sl mi n (sX (sX (sX Z 9 i (Z 13 i)) 10 i (nI cy)) 4 i 4) th fr wt cy) hx hb hK hP hD hS 1 0 rfl rfl i rfl (by omega) (by omega) rfl dX5_correct_139 (fun H locs hP hD hS => ?_)
                      refine lv_goto (tgt := 238) hx hb dX5_correct_140 (by decide) ?_
                      have hst := st_halt (Z := Z) (i := i) (cy := cy) hbe (by first | exact Or.inl c118 | exact Or.inr (Int32.not_le.mp c130))
                      refine k_iinc (k := 2) (lv' := [(1, .int (nI (i + 1))), (2, .int be), (0, .ref (h 0))]) hx hb i rfl dX5_correct_238 hl rfl (by decide) rfl (fun ls hl => ?_)
                      refine lv_goto (tgt := 43) hx hb dX5_correct_241 (by decide) ?_
                      exact ih43 (i + 1) (sX (sX (sX Z 9 i (Z 13 i)) 10 i (nI cy)) 4 i 4) _ _ _ (by omega) (by omega) (by omega) (by first | exact cs3 h1 (by omega) k3 k4 k6 c58 hst | exact cs3k k3 k4 c58) (by first | exact cs4 k4 hst | exact fun j q => k4 j (by omega)) (by first | exact cs6 k6 hst | exact k6) (by first | exact cs5 k5 hst | exact k5) hP hD hS (lv_sub hl [2, 0] rfl)
                refine lv_aload_n hx hb dX5_correct_61 rfl (lv_at hl 0 rfl) ?_
                refine va_get (D := D) (ci := 7) (v := .ref (h 10)) (C := RX5) (T := TX5) (N := 27) hx hb hts inX5 hown hK hP 0 rfl rfl 10 (by decide) (hts _ wF_X5_29) (fun _ h9 => h9) rfl dX5_correct_62 ?_
                refine lv_iload_n hx hb dX5_correct_65 rfl (lv_at hl 1 rfl) ?_
                refine k_iald (D := D) (f := Z 10) hx hb hK hP 7 0 rfl rfl i rfl (by omega) (by omega) dX5_correct_66 ?_
                refine lv_aload_n hx hb dX5_correct_67 rfl (lv_at hl 0 rfl) ?_
                refine va_get (D := D) (ci := 7) (v := .int (nI cy)) (C := RX5) (T := TX5) (N := 27) hx hb hts inX5 hown hK hP 0 rfl rfl 26 (by decide) (hts _ wF_X5_97) (fun _ h9 => h9) rfl dX5_correct_68 ?_
                refine lv_iconst (v := 1) hx hb dX5_correct_71 (by decide) ?_
                refine lv_isub hx hb dX5_correct_72 ?_
                refine lv_icmp_ne (tgt := 85) hx hb dX5_correct_73 (by decide) (fun c73 => ?_) (fun c73 => ?_)
                · skip
                  refine lv_iconst (v := 0) hx hb dX5_correct_85 (by decide) ?_
                  exact L86 0 _ (by first | exact ite_p c73 | exact ite_n c73) (lv_sub hl [0, 1] rfl)
                · skip
                  refine lv_aload_n hx hb dX5_correct_76 rfl (lv_at hl 0 rfl) ?_
                  refine va_get (D := D) (ci := 7) (v := .ref (h 9)) (C := RX5) (T := TX5) (N := 27) hx hb hts inX5 hown hK hP 0 rfl rfl 9 (by decide) (hts _ wF_X5_26) (fun _ h9 => h9) rfl dX5_correct_77 ?_
                  refine lv_iload_n hx hb dX5_correct_80 rfl (lv_at hl 1 rfl) ?_
                  refine k_iald (D := D) (f := Z 9) hx hb hK hP 6 0 rfl rfl i rfl (by omega) (by omega) dX5_correct_81 ?_
                  refine lv_goto (tgt := 86) hx hb dX5_correct_82 (by decide) ?_
                  exact L86 (Z 9 i) _ (by first | exact ite_p c73 | exact ite_n c73) (lv_sub hl [0, 1] rfl)
        exact L43 ((n + 1 - 1) + 1) 1 Y' _ _ _ (Nat.lt_succ_self _) (Nat.le_refl 1) (by omega) (fun j a b => absurd b (by omega)) (fun j _ a a1 a2 => by rw [h5 a a1 a2]) (fun j a b => h3 j a (by omega)) (fun a _ _ _ _ _ a1 a2 => h5 a a1 a2) hP hD hS (lv_sub hl [1, 0] rfl)
      · skip
        refine lv_aload_n hx hb dX5_correct_10 rfl (lv_at hl 0 rfl) ?_
        refine va_get (D := D) (ci := 7) (v := .ref (h 13)) (C := RX5) (T := TX5) (N := 27) hx hb hts inX5 hown hK hP 0 rfl rfl 13 (by decide) (hts _ wF_X5_38) (fun _ h9 => h9) rfl dX5_correct_11 ?_
        refine lv_iload_n hx hb dX5_correct_14 rfl (lv_at hl 1 rfl) ?_
        refine lv_aload_n hx hb dX5_correct_15 rfl (lv_at hl 0 rfl) ?_
        refine va_get (D := D) (ci := 7) (v := .ref (h 4)) (C := RX5) (T := TX5) (N := 27) hx hb hts inX5 hown hK hP 0 rfl rfl 4 (by decide) (hts _ wF_X5_7) (fun _ h9 => h9) rfl dX5_correct_16 ?_
        refine lv_iload_n hx hb dX5_correct_19 rfl (lv_at hl 1 rfl) ?_
        refine k_iald (D := D) (f := Y' 4) hx hb hK hP 1 0 rfl rfl i rfl (by omega) (by omega) dX5_correct_20 ?_
        refine lv_iconst (v := 2) hx hb dX5_correct_21 (by decide) ?_
        refine lv_icmp_ne (tgt := 33) hx hb dX5_correct_22 (by decide) (fun c22 => ?_) (fun c22 => ?_)
        · skip
          refine lv_iconst (v := 0) hx hb dX5_correct_33 (by decide) ?_
          refine k_iast (D := D) (f := Y' 13) (ws' := mw h cI cZ sl mi n (sX Y' 13 i 0) th fr wt cy) hx hb hK hP hD hS 10 0 rfl rfl i rfl (by omega) (by omega) rfl dX5_correct_34 (fun H locs hP hD hS => ?_)
          refine k_iinc (k := 1) (lv' := [(1, .int (nI (i + 1))), (0, .ref (h 0))]) hx hb i rfl dX5_correct_35 hl rfl (by decide) rfl (fun ls hl => ?_)
          refine lv_goto (tgt := 2) hx hb dX5_correct_38 (by decide) ?_
          exact ih2 (i + 1) (sX Y' 13 i 0) _ _ _ (by omega) (by omega) (by omega) (by first | exact cy_keep h3 h5 c22 | exact cy_set h3 h5 hr27) (by first | exact fun a a1 a2 => by rw [sX_ne a1, hr27.2 a a2]; exact h5 a a1 a2 | exact fun a a1 a2 => by rw [sX_ne a1]; exact h5 a a1 a2) hP hD hS (lv_sub hl [1, 0] rfl)
        · skip
          refine lv_aload_n hx hb dX5_correct_25 rfl (lv_at hl 0 rfl) ?_
          refine lv_iload_n hx hb dX5_correct_26 rfl (lv_at hl 1 rfl) ?_
          refine k_callI (D := D) C hK hN hP hD hS hA (c_X5_midpointOf hn i h1 (by omega)) hl cf_yX5_midpointOf wM_X5_104 0 7 rfl rfl rfl rfl (Nat.le_of_ble_eq_true rfl) ⟨by decide, by decide⟩ ⟨Nat.le_of_ble_eq_true rfl, Nat.le_of_ble_eq_true rfl⟩ dX5_correct_27 (fun r27 u27 H locs hr27 hP hD hS _ _ => ?_)
          have hP : va_P D vwCl (mw h cI cZ sl mi n u27 th fr wt cy) H := hP
          have hD : va_D A (mw h cI cZ sl mi n u27 th fr wt cy) := hD
          refine lv_goto (tgt := 34) hx hb dX5_correct_30 (by decide) ?_
          refine k_iast (D := D) (f := u27 13) (ws' := mw h cI cZ sl mi n (sX u27 13 i r27) th fr wt cy) hx hb hK hP hD hS 10 0 rfl rfl i rfl (by omega) (by omega) rfl dX5_correct_34 (fun H locs hP hD hS => ?_)
          refine k_iinc (k := 1) (lv' := [(1, .int (nI (i + 1))), (0, .ref (h 0))]) hx hb i rfl dX5_correct_35 hl rfl (by decide) rfl (fun ls hl => ?_)
          refine lv_goto (tgt := 2) hx hb dX5_correct_38 (by decide) ?_
          exact ih2 (i + 1) (sX u27 13 i r27) _ _ _ (by omega) (by omega) (by omega) (by first | exact cy_keep h3 h5 c22 | exact cy_set h3 h5 hr27) (by first | exact fun a a1 a2 => by rw [sX_ne a1, hr27.2 a a2]; exact h5 a a1 a2 | exact fun a a1 a2 => by rw [sX_ne a1]; exact h5 a a1 a2) hP hD hS (lv_sub hl [1, 0] rfl)
  exact L2 ((n + 1 - 1) + 1) 1 Y _ _ _ (Nat.lt_succ_self _) (Nat.le_refl 1) (by omega) (fun j a b => absurd b (by omega)) (fun _ _ _ => rfl) hP hD hS (lv_sub hl [1, 0] rfl)
set_option maxHeartbeats 4000000 in
set_option maxRecDepth 100000 in
theorem c_X5_run {l : Launch} {D : va_G} {cI cZ cL : ClassId} {h : Nat → Nat} {sl mi n : Nat} {Y : Nat → Nat → Int32} {th fr wt cy : Nat} (hn : n ≤ 16) (hs : fr ≤ 100) (hsl : sl ≤ 60) (hd : wt ≤ 100) (hmi : mi ≤ 60) (hF : FrI (Y 16) (Y 17) n sl fr) (hE : ∀ i, i < fr → isEv (Y 20 i)) (hY : DyI (Y 22) (Y 24) n wt) (hRa : ∀ j, 1 ≤ j → j ≤ n → (-100) ≤ Y 8 j ∧ Y 8 j ≤ 100) (x : Int32) : KI l yX5_run (.code yX5_run cX5_run 5 (some .int)) 2 D (tyz cI cZ cL) [.ref (h 0), .int x] (mw h cI cZ sl mi n Y th fr wt cy) (fun r u => (¬ inR x 0 500 ∧ r = -2 ∧ u = (Y, wt, cy)) ∨ (inR x 0 500 ∧ RSR sl mi n fr x.toNatClampNeg (Y, wt, cy) r u)) (fun u : (Nat → Nat → Int32) × Nat × Nat => mw h cI cZ sl mi n u.1 0 fr u.2.1 u.2.2) := by
  refine KI.of (own := RX5) (lvs := [(0, .ref (h 0)), (1, .int x)]) (by decide) rfl (Nat.le_of_ble_eq_true rfl) rfl ?_
  intro p e s m args below meth c Q C hK hN A hA hP hD hS ret ls hl
  obtain ⟨hx, hb, hml, hown, hts, hr9, hlk9⟩ := id C
  refine lv_aload_n hx hb dX5_run_0 rfl (lv_at hl 0 rfl) ?_
  refine lv_iconst (v := 0) hx hb dX5_run_1 (by decide) ?_
  refine k_put (D := D) (ci := 7) (v := .int (nI 0)) (ty := .int) (C := RX5) (T := TX5) (N := 27) (ws' := mw h cI cZ sl mi n Y 0 fr wt cy) hx hb hts inX5 tyX5 tyX5_ok nmX5 hown hK hP hD hS 0 rfl rfl 0 (by decide) (hts _ wF_X5_81) (fun _ h9 => h9) rfl (by decide +kernel) rfl rfl (Nat.le_of_ble_eq_true rfl) rfl dX5_run_2 (fun H locs hP hD hS => ?_)
  refine lv_iload_n hx hb dX5_run_5 rfl (lv_at hl 1 rfl) ?_
  refine lv_if_lt (tgt := 16) hx hb dX5_run_6 (by decide) (fun c6 => ?_) (fun c6 => ?_)
  · skip
    refine lv_bipush (v := (-2)) hx hb dX5_run_16 (by decide) ?_
    exact ret _ (Y, wt, cy) _ _ _ _ dX5_run_18 hP hD hS (Or.inl ⟨(by first | exact fun z => absurd z.1 (by have := Int32.lt_iff_toInt_lt.mp c6; simp at this; omega) | exact fun z => c13 (Int32.le_iff_toInt_le.mpr z.2)), rfl, rfl⟩)
  · skip
    refine lv_iload_n hx hb dX5_run_9 rfl (lv_at hl 1 rfl) ?_
    refine lv_sipush (v := 500) hx hb dX5_run_10 (by decide) ?_
    refine lv_icmp_le (tgt := 19) hx hb dX5_run_13 (by decide) (fun c13 => ?_) (fun c13 => ?_)
    · skip
      have c13 := slot500 c6 c13
      obtain ⟨k, hk1, hk2, rfl⟩ := inR_of c13
      refine lv_iconst (v := 0) hx hb dX5_run_19 (by decide) ?_
      refine lv_istore_n (lv' := [(2, .int 0), (0, .ref (h 0)), (1, .int (nI k))]) hx hb dX5_run_20 rfl hl (by decide) rfl (fun ls hl => ?_)
      refine lv_iconst (v := 0) hx hb dX5_run_21 (by decide) ?_
      refine lv_istore_n (lv' := [(3, .int 0), (2, .int 0), (0, .ref (h 0)), (1, .int (nI k))]) hx hb dX5_run_22 rfl hl (by decide) rfl (fun ls hl => ?_)
      have L23 : ∀ (kf : Nat) (i : Nat) (acc : Int32) (Y' : Nat → Nat → Int32) (wt' : Nat) (cy' : Nat) (H : Heap) (locs : List Loc) (ls : Array Slot), (k - i < kf) → (i ≤ k) → (RSR sl mi n fr i (Y, wt, cy) acc (Y', wt', cy')) → (wt' ≤ 100) → (FrI (Y' 16) (Y' 17) n sl fr) → (∀ i, i < fr → isEv (Y' 20 i)) → (DyI (Y' 22) (Y' 24) n wt') → (∀ j, 1 ≤ j → j ≤ n → (-100) ≤ Y' 8 j ∧ Y' 8 j ≤ 100) → (va_P D vwCl (mw h cI cZ sl mi n Y' 0 fr wt' cy') H) → (va_D A (mw h cI cZ sl mi n Y' 0 fr wt' cy')) → (va_S A s.heap H locs) → (lv_has ls 5 [(0, .ref (h 0)), (1, .int (nI k)), (2, .int acc), (3, .int (nI i))]) → W p l e (rmK 2) s m args below meth c H locs 0 0 Q (F0 m 23 ls []) := by
        intro kf
        induction kf with
        | zero =>
          intro i acc Y' wt' cy' H locs ls hm
          exact absurd hm (Nat.not_lt_zero _)
        | succ kf ih23 =>
          intro i acc Y' wt' cy' H locs ls hm h2 h3 hd2 hF2 hE2 hY2 hR2 hP hD hS hl
          refine lv_iload_n hx hb dX5_run_23 rfl (lv_at hl 3 rfl) ?_
          refine lv_iload_n hx hb dX5_run_24 rfl (lv_at hl 1 rfl) ?_
          refine k_icmp_ge (tgt := 150) hx hb i k rfl rfl (by omega) (by omega) dX5_run_25 (by decide) (fun c25 => ?_) (fun c25 => ?_)
          · skip
            refine lv_iload_n hx hb dX5_run_150 rfl (lv_at hl 2 rfl) ?_
            exact ret _ (Y', wt', cy') _ _ _ _ dX5_run_151 hP hD hS (Or.inr ⟨c13, (by rw [nI_clamp (by omega), show k = i by omega]; exact h3)⟩)
          · skip
            refine lv_aload_n hx hb dX5_run_28 rfl (lv_at hl 0 rfl) ?_
            refine k_callV (D := D) C hK hN hP hD hS hA (c_X5_startUp hn) hl cf_yX5_startUp wM_X5_107 0 7 rfl rfl rfl rfl (Nat.le_of_ble_eq_true rfl) ⟨by decide, by decide⟩ ⟨Nat.le_of_ble_eq_true rfl, Nat.le_of_ble_eq_true rfl⟩ dX5_run_29 (fun u29 H locs hr29 hP hD hS _ _ => ?_)
            have hP : va_P D vwCl (mw h cI cZ sl mi n u29 0 fr wt' cy') H := hP
            have hD : va_D A (mw h cI cZ sl mi n u29 0 fr wt' cy') := hD
            have e29 := @SUR_keep _ _ _ hr29
            refine lv_iload_n hx hb dX5_run_32 rfl (lv_at hl 2 rfl) ?_
            refine lv_aload_n hx hb dX5_run_33 rfl (lv_at hl 0 rfl) ?_
            refine k_callI (D := D) C hK hN hP hD hS hA (c_X5_sendStatic hn hs hsl (by rw [e29 16 (by decide) (by decide) (by decide), e29 17 (by decide) (by decide) (by decide)]; exact hF2) (by rw [e29 20 (by decide) (by decide) (by decide)]; exact hE2)) hl cf_yX5_sendStatic wM_X5_110 0 7 rfl rfl rfl rfl (Nat.le_of_ble_eq_true rfl) ⟨by decide, by decide⟩ ⟨Nat.le_of_ble_eq_true rfl, Nat.le_of_ble_eq_true rfl⟩ dX5_run_34 (fun r34 u34 H locs hr34 hP hD hS _ _ => ?_)
            have hP : va_P D vwCl (mw h cI cZ sl mi n u34 0 fr wt' cy') H := hP
            have hD : va_D A (mw h cI cZ sl mi n u34 0 fr wt' cy') := hD
            have e34 := hr34.2.2
            refine lv_iadd hx hb dX5_run_37 ?_
            refine lv_istore_n (lv' := [(2, .int (acc + r34)), (0, .ref (h 0)), (1, .int (nI k)), (3, .int (nI i))]) hx hb dX5_run_38 rfl hl (by decide) rfl (fun ls hl => ?_)
            refine lv_iload_n hx hb dX5_run_39 rfl (lv_at hl 0 rfl) ?_
            refine lv_aload_n hx hb dX5_run_40 rfl (lv_at hl 1 rfl) ?_
            refine k_callI (D := D) C hK hN hP hD hS hA (c_X5_sendDynamic hn hd2 hmi (by rw [e34 22 (by decide), e34 24 (by decide), e29 22 (by decide) (by decide) (by decide), e29 24 (by decide) (by decide) (by decide)]; exact hY2)) hl cf_yX5_sendDynamic wM_X5_114 0 7 rfl rfl rfl rfl (Nat.le_of_ble_eq_true rfl) ⟨by decide, by decide⟩ ⟨Nat.le_of_ble_eq_true rfl, Nat.le_of_ble_eq_true rfl⟩ dX5_run_41 (fun r41 u41 H locs hr41 hP hD hS _ _ => ?_)
            have hP : va_P D vwCl (mw h cI cZ sl mi n (u41.1) 0 fr (u41.2) cy') H := hP
            have hD : va_D A (mw h cI cZ sl mi n (u41.1) 0 fr (u41.2) cy') := hD
            obtain ⟨d, hd1, hd2b, hd3, hY3, e41⟩ := hr41
            refine lv_iadd hx hb dX5_run_44 ?_
            refine lv_istore_n (lv' := [(2, .int ((acc + r34) + r41)), (0, .ref (h 0)), (1, .int (nI k)), (3, .int (nI i))]) hx hb dX5_run_45 rfl hl (by decide) rfl (fun ls hl => ?_)
            refine lv_aload_n hx hb dX5_run_46 rfl (lv_at hl 1 rfl) ?_
            refine k_callV (D := D) C hK hN hP hD hS hA (c_X5_correct hn (by rw [e41 8 (by decide) (by decide) (by decide), e34 8 (by decide), e29 8 (by decide) (by decide) (by decide)]; exact hR2)) hl cf_yX5_correct wM_X5_117 0 7 rfl rfl rfl rfl (Nat.le_of_ble_eq_true rfl) ⟨by decide, by decide⟩ ⟨Nat.le_of_ble_eq_true rfl, Nat.le_of_ble_eq_true rfl⟩ dX5_run_47 (fun u47 H locs hr47 hP hD hS _ _ => ?_)
            have hP : va_P D vwCl (mw h cI cZ sl mi n u47 0 fr (u41.2) cy') H := hP
            have hD : va_D A (mw h cI cZ sl mi n u47 0 fr (u41.2) cy') := hD
            refine lv_iconst (v := 1) hx hb dX5_run_50 (by decide) ?_
            refine lv_istore (lv' := [(4, .int 1), (2, .int ((acc + r34) + r41)), (0, .ref (h 0)), (1, .int (nI k)), (3, .int (nI i))]) hx hb dX5_run_51 hl (by decide) rfl (fun ls hl => ?_)
            have L53 : ∀ (kf : Nat) (b : Nat) (Z5 : Nat → Nat → Int32) (H : Heap) (locs : List Loc) (ls : Array Slot), (n + 1 - b < kf) → (1 ≤ b) → (b ≤ n + 1) → (∀ j, 1 ≤ j → j < b → Z5 6 j = u47 6 j + (if u47 4 j = 4 then 0 else u47 7 j + u47 8 j)) → (∀ j, b ≤ j → Z5 6 j = u47 6 j) → (∀ a, a ≠ 6 → Z5 a = u47 a) → (va_P D vwCl (mw h cI cZ sl mi n Z5 0 fr (u41.2) cy') H) → (va_D A (mw h cI cZ sl mi n Z5 0 fr (u41.2) cy')) → (va_S A s.heap H locs) → (lv_has ls 5 [(0, .ref (h 0)), (1, .int (nI k)), (2, .int ((acc + r34) + r41)), (3, .int (nI i)), (4, .int (nI b))]) → W p l e (rmK 2) s m args below meth c H locs 0 0 Q (F0 m 53 ls []) := by
              intro kf
              induction kf with
              | zero =>
                intro b Z5 H locs ls hm
                exact absurd hm (Nat.not_lt_zero _)
              | succ kf ih53 =>
                intro b Z5 H locs ls hm b1 b2 b3 b4 b5 hP hD hS hl
                refine lv_iload hx hb dX5_run_53 (lv_at hl 4 rfl) ?_
                refine lv_aload_n hx hb dX5_run_55 rfl (lv_at hl 0 rfl) ?_
                refine va_get (D := D) (ci := 7) (v := .int (nI n)) (C := RX5) (T := TX5) (N := 27) hx hb hts inX5 hown hK hP 0 rfl rfl 1 (by decide) (hts _ wF_X5_71) (fun _ h9 => h9) rfl dX5_run_56 ?_
                refine k_icmp_gt (tgt := 108) hx hb b n rfl rfl (by omega) (by omega) dX5_run_59 (by decide) (fun c59 => ?_) (fun c59 => ?_)
                · skip
                  refine lv_iconst (v := 0) hx hb dX5_run_108 (by decide) ?_
                  refine lv_istore (lv' := [(4, .int 0), (0, .ref (h 0)), (1, .int (nI k)), (2, .int ((acc + r34) + r41)), (3, .int (nI i))]) hx hb dX5_run_109 hl (by decide) rfl (fun ls hl => ?_)
                  have L111 : ∀ (kf : Nat) (b : Nat) (Z6 : Nat → Nat → Int32) (H : Heap) (locs : List Loc) (ls : Array Slot), (sl - b < kf) → (b ≤ sl) → (∀ q, q < b → Z6 25 q = 0) → (∀ a, a ≠ 25 → Z6 a = Z5 a) → (va_P D vwCl (mw h cI cZ sl mi n Z6 0 fr (u41.2) cy') H) → (va_D A (mw h cI cZ sl mi n Z6 0 fr (u41.2) cy')) → (va_S A s.heap H locs) → (lv_has ls 5 [(0, .ref (h 0)), (1, .int (nI k)), (2, .int ((acc + r34) + r41)), (3, .int (nI i)), (4, .int (nI b))]) → W p l e (rmK 2) s m args below meth c H locs 0 0 Q (F0 m 111 ls []) := by
                    intro kf
                    induction kf with
                    | zero =>
                      intro b Z6 H locs ls hm
                      exact absurd hm (Nat.not_lt_zero _)
                    | succ kf ih111 =>
                      intro b Z6 H locs ls hm d2 d3 d5 hP hD hS hl
                      refine lv_iload hx hb dX5_run_111 (lv_at hl 4 rfl) ?_
                      refine lv_aload_n hx hb dX5_run_113 rfl (lv_at hl 0 rfl) ?_
                      refine va_get (D := D) (ci := 7) (v := .int (nI sl)) (C := RX5) (T := TX5) (N := 27) hx hb hts inX5 hown hK hP 0 rfl rfl 2 (by decide) (hts _ wF_X5_75) (fun _ h9 => h9) rfl dX5_run_114 ?_
                      refine k_icmp_ge (tgt := 134) hx hb b sl rfl rfl (by omega) (by omega) dX5_run_117 (by decide) (fun c117 => ?_) (fun c117 => ?_)
                      · skip
                        have hrr : RR sl mi n fr Y' wt' cy' (r34 + r41) Z6 u41.2 := ⟨u29, u34, u41.1, u47, Z5, r34, d, hr29, hr34, ⟨hd2b, hd3, hY3, e41⟩, hr47, ⟨fun j a q => b3 j a (by omega), b5⟩, ⟨fun q hq => d3 q (by omega), d5⟩, by rw [hd1]⟩
                        refine lv_aload_n hx hb dX5_run_134 rfl (lv_at hl 0 rfl) ?_
                        refine lv_dup hx hb dX5_run_135 rfl ?_
                        refine va_get (D := D) (ci := 7) (v := .int (nI cy')) (C := RX5) (T := TX5) (N := 27) hx hb hts inX5 hown hK hP 0 rfl rfl 26 (by decide) (hts _ wF_X5_97) (fun _ h9 => h9) rfl dX5_run_136 ?_
                        refine lv_iconst (v := 1) hx hb dX5_run_139 (by decide) ?_
                        refine k_iadd hx hb cy' 1 rfl rfl dX5_run_140 ?_
                        refine k_put (D := D) (ci := 7) (v := .int (nI (cy' + 1))) (ty := .int) (C := RX5) (T := TX5) (N := 27) (ws' := mw h cI cZ sl mi n Z6 0 fr (u41.2) (cy' + 1)) hx hb hts inX5 tyX5 tyX5_ok nmX5 hown hK hP hD hS 0 rfl rfl 26 (by decide) (hts _ wF_X5_97) (fun _ h9 => h9) rfl (by decide +kernel) rfl rfl (Nat.le_of_ble_eq_true rfl) rfl dX5_run_141 (fun H locs hP hD hS => ?_)
                        refine k_iinc (k := 3) (lv' := [(3, .int (nI (i + 1))), (0, .ref (h 0)), (1, .int (nI k)), (2, .int ((acc + r34) + r41)), (4, .int (nI b))]) hx hb i rfl dX5_run_144 hl rfl (by decide) rfl (fun ls hl => ?_)
                        refine lv_goto (tgt := 23) hx hb dX5_run_147 (by decide) ?_
                        exact ih23 (i + 1) ((acc + r34) + r41) Z6 (u41.2) (cy' + 1) _ _ _ (by omega) (by omega) (RSR_step h3 hrr) (Nat.le_trans (RR_wt hrr) hd2) (by rw [RR_keep hrr 16 (by decide), RR_keep hrr 17 (by decide)]; exact hF2) (by rw [RR_keep hrr 20 (by decide)]; exact hE2) (RR_dy hrr) (RR_ra hR2 hrr) hP hD hS (lv_sub hl [1, 2, 3, 0] rfl)
                      · skip
                        refine lv_aload_n hx hb dX5_run_120 rfl (lv_at hl 0 rfl) ?_
                        refine va_get (D := D) (ci := 7) (v := .ref (h 25)) (C := RX5) (T := TX5) (N := 27) hx hb hts inX5 hown hK hP 0 rfl rfl 25 (by decide) (hts _ wF_X5_68) (fun _ h9 => h9) rfl dX5_run_121 ?_
                        refine lv_iload hx hb dX5_run_124 (lv_at hl 4 rfl) ?_
                        refine lv_iconst (v := 0) hx hb dX5_run_126 (by decide) ?_
                        refine k_iast (D := D) (f := Z6 25) (ws' := mw h cI cZ sl mi n (sX Z6 25 b 0) 0 fr (u41.2) cy') hx hb hK hP hD hS 20 0 rfl rfl b rfl (by omega) (by omega) rfl dX5_run_127 (fun H locs hP hD hS => ?_)
                        refine k_iinc (k := 4) (lv' := [(4, .int (nI (b + 1))), (0, .ref (h 0)), (1, .int (nI k)), (2, .int ((acc + r34) + r41)), (3, .int (nI i))]) hx hb b rfl dX5_run_128 hl rfl (by decide) rfl (fun ls hl => ?_)
                        refine lv_goto (tgt := 111) hx hb dX5_run_131 (by decide) ?_
                        exact ih111 (b + 1) (sX Z6 25 b 0) _ _ _ (by omega) (by omega) (by intro q hq; rw [sX_app]; by_cases z : q = b <;> simp [z]; exact d3 q (by omega)) (fun a ha => by rw [sX_ne ha]; exact d5 a ha) hP hD hS (lv_sub hl [1, 2, 3, 4, 0] rfl)
                  exact L111 ((sl - 0) + 1) 0 Z5 _ _ _ (Nat.lt_succ_self _) (Nat.zero_le _) (fun j q => absurd q (by omega)) (fun _ _ => rfl) hP hD hS (lv_sub hl [1, 2, 3, 4, 0] rfl)
                · skip
                  have L100 : ∀ (q6 : Int32) (ls : Array Slot), (q6 = if u47 4 b = 4 then 0 else u47 7 b + u47 8 b) → (lv_has ls 5 [(0, .ref (h 0)), (1, .int (nI k)), (2, .int ((acc + r34) + r41)), (3, .int (nI i)), (4, .int (nI b))]) → W p l e (rmK 2) s m args below meth c H locs 0 0 Q (F0 m 100 ls [.int q6, .int (Z5 6 b), .int (nI b), .ref (h 6)]) := by
                    intro q6 ls hq6 hl
                    refine lv_iadd hx hb dX5_run_100 ?_
                    refine k_iast (D := D) (f := Z5 6) (ws' := mw h cI cZ sl mi n (sX Z5 6 b ((Z5 6 b) + q6)) 0 fr (u41.2) cy') hx hb hK hP hD hS 3 0 rfl rfl b rfl (by omega) (by omega) rfl dX5_run_101 (fun H locs hP hD hS => ?_)
                    refine k_iinc (k := 4) (lv' := [(4, .int (nI (b + 1))), (0, .ref (h 0)), (1, .int (nI k)), (2, .int ((acc + r34) + r41)), (3, .int (nI i))]) hx hb b rfl dX5_run_102 hl rfl (by decide) rfl (fun ls hl => ?_)
                    refine lv_goto (tgt := 53) hx hb dX5_run_105 (by decide) ?_
                    exact ih53 (b + 1) (sX Z5 6 b ((Z5 6 b) + q6)) _ _ _ (by omega) (by omega) (by omega) (er_step b3 (b4 b (Nat.le_refl b)) hq6) (fun j q => by rw [sX_app, if_neg (by omega)]; exact b4 j (by omega)) (fun a ha => by rw [sX_ne ha]; exact b5 a ha) hP hD hS (lv_sub hl [1, 2, 3, 4, 0] rfl)
                  refine lv_aload_n hx hb dX5_run_62 rfl (lv_at hl 0 rfl) ?_
                  refine va_get (D := D) (ci := 7) (v := .ref (h 6)) (C := RX5) (T := TX5) (N := 27) hx hb hts inX5 hown hK hP 0 rfl rfl 6 (by decide) (hts _ wF_X5_17) (fun _ h9 => h9) rfl dX5_run_63 ?_
                  refine lv_iload hx hb dX5_run_66 (lv_at hl 4 rfl) ?_
                  refine lv_dup2_11 hx hb dX5_run_68 rfl rfl ?_
                  refine k_iald (D := D) (f := Z5 6) hx hb hK hP 3 0 rfl rfl b rfl (by omega) (by omega) dX5_run_69 ?_
                  refine lv_aload_n hx hb dX5_run_70 rfl (lv_at hl 0 rfl) ?_
                  refine va_get (D := D) (ci := 7) (v := .ref (h 4)) (C := RX5) (T := TX5) (N := 27) hx hb hts inX5 hown hK hP 0 rfl rfl 4 (by decide) (hts _ wF_X5_7) (fun _ h9 => h9) rfl dX5_run_71 ?_
                  refine lv_iload hx hb dX5_run_74 (lv_at hl 4 rfl) ?_
                  refine k_iald (D := D) (f := Z5 4) hx hb hK hP 1 0 rfl rfl b rfl (by omega) (by omega) dX5_run_76 ?_
                  refine lv_iconst (v := 4) hx hb dX5_run_77 (by decide) ?_
                  refine lv_icmp_ne (tgt := 85) hx hb dX5_run_78 (by decide) (fun c78 => ?_) (fun c78 => ?_)
                  · skip
                    refine lv_aload_n hx hb dX5_run_85 rfl (lv_at hl 0 rfl) ?_
                    refine va_get (D := D) (ci := 7) (v := .ref (h 7)) (C := RX5) (T := TX5) (N := 27) hx hb hts inX5 hown hK hP 0 rfl rfl 7 (by decide) (hts _ wF_X5_20) (fun _ h9 => h9) rfl dX5_run_86 ?_
                    refine lv_iload hx hb dX5_run_89 (lv_at hl 4 rfl) ?_
                    refine k_iald (D := D) (f := Z5 7) hx hb hK hP 4 0 rfl rfl b rfl (by omega) (by omega) dX5_run_91 ?_
                    refine lv_aload_n hx hb dX5_run_92 rfl (lv_at hl 0 rfl) ?_
                    refine va_get (D := D) (ci := 7) (v := .ref (h 8)) (C := RX5) (T := TX5) (N := 27) hx hb hts inX5 hown hK hP 0 rfl rfl 8 (by decide) (hts _ wF_X5_23) (fun _ h9 => h9) rfl dX5_run_93 ?_
                    refine lv_iload hx hb dX5_run_96 (lv_at hl 4 rfl) ?_
                    refine k_iald (D := D) (f := Z5 8) hx hb hK hP 5 0 rfl rfl b rfl (by omega) (by omega) dX5_run_98 ?_
                    refine lv_iadd hx hb dX5_run_99 ?_
                    exact L100 ((Z5 7 b) + (Z5 8 b)) _ (by rw [← b5 4 (by decide), ← b5 7 (by decide), ← b5 8 (by decide)]; first | exact ite_p c78 | exact ite_n c78) (lv_sub hl [0, 1, 2, 3, 4] rfl)
                  · skip
                    refine lv_iconst (v := 0) hx hb dX5_run_81 (by decide) ?_
                    refine lv_goto (tgt := 100) hx hb dX5_run_82 (by decide) ?_
                    exact L100 0 _ (by rw [← b5 4 (by decide), ← b5 7 (by decide), ← b5 8 (by decide)]; first | exact ite_p c78 | exact ite_n c78) (lv_sub hl [0, 1, 2, 3, 4] rfl)
            exact L53 ((n + 1 - 1) + 1) 1 u47 _ _ _ (Nat.lt_succ_self _) (Nat.le_refl 1) (by omega) (fun j a q => absurd q (by omega)) (fun _ _ => rfl) (fun _ _ => rfl) hP hD hS (lv_sub hl [2, 3, 1, 4, 0] rfl)
      exact L23 ((k - 0) + 1) 0 0 Y wt cy _ _ _ (Nat.lt_succ_self _) (Nat.zero_le _) ⟨rfl, rfl⟩ hd hF hE hY hRa hP hD hS (lv_sub hl [2, 3, 1, 0] rfl)
    · skip
      refine lv_bipush (v := (-2)) hx hb dX5_run_16 (by decide) ?_
      exact ret _ (Y, wt, cy) _ _ _ _ dX5_run_18 hP hD hS (Or.inl ⟨(by first | exact fun z => absurd z.1 (by have := Int32.lt_iff_toInt_lt.mp c6; simp at this; omega) | exact fun z => c13 (Int32.le_iff_toInt_le.mpr z.2)), rfl, rfl⟩)
