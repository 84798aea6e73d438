/-! the other calls, held against each other -/
theorem RN_at {X Y X1 Y1 : NN} {n cy k : Nat} (h : ∀ j, 1 ≤ j → j ≤ n → RN X Y cy j) (hx : ∀ j, j ≠ k → ∀ a, X1 a j = X a j) (hy : ∀ j, j ≠ k → ∀ a, Y1 a j = Y a j) (hk : RN X1 Y1 cy k) : ∀ j, 1 ≤ j → j ≤ n → RN X1 Y1 cy j := by
  intro j a b
  by_cases e : j = k
  · rw [e]; exact hk
  · exact RN_congr (fun c _ => hx j e c) (fun c _ => hy j e c) (h j a b)
section CALLS
variable {sl n cy ss ds fs : Nat} {X Y : NN}
theorem Rel_node {X1 Y1 : NN} {k : Nat} (hR : Rel sl n X Y cy ss ds fs) (hx : ∀ j, j ≠ k → ∀ a, X1 a j = X a j) (hy : ∀ j, j ≠ k → ∀ a, Y1 a j = Y a j) (hk : RN X1 Y1 cy k) (hx2 : ∀ a, 11 < a → X1 a = X a) (hy2 : ∀ a, 15 < a → Y1 a = Y a) : Rel sl n X1 Y1 cy ss ds fs := by
  obtain ⟨hN, hF, hC, ⟨hL, hD, hD'⟩, hf, hss, hds⟩ := id hR
  refine ⟨RN_at hN hx hy hk, ?_, ?_, ⟨?_, ?_, ?_⟩, ⟨?_, ?_⟩, hss, hds⟩
  · exact fun i hi => FR_congr (fun a ha => by rw [hx2 a (by omega)]) (fun a ha => by rw [hy2 a (by omega)]) (hF i hi)
  · rw [hx2 13 (by decide), hx2 14 (by decide), hx2 15 (by decide), hx2 16 (by decide)]; exact hC
  · rw [dl_congr (X := X1) (Y := X) (a := 17) (b := 18) (c := 19) (a' := 17) (b' := 18) (c' := 19) (fun k _ => by rw [hx2 17 (by decide), hx2 18 (by decide), hx2 19 (by decide)]; exact ⟨rfl, rfl, rfl⟩), dl_congr (X := Y1) (Y := Y) (a := 22) (b := 23) (c := 24) (a' := 22) (b' := 23) (c' := 24) (fun k _ => by rw [hy2 22 (by decide), hy2 23 (by decide), hy2 24 (by decide)]; exact ⟨rfl, rfl, rfl⟩)]
    exact hL
  · rw [hx2 17 (by decide), hx2 19 (by decide)]; exact hD
  · rw [hy2 22 (by decide), hy2 24 (by decide)]; exact hD'
  · rw [hx2 20 (by decide), hy2 25 (by decide)]; exact hf.1
  · rw [hx2 20 (by decide)]; exact hf.2
theorem drift_call (hR : Rel sl n X Y cy ss ds fs) (hn : n ≤ 16) {x pa r r' : Int32} {u u' : NN}
    (h : (¬ inR x 1 n ∧ r = -1 ∧ u = X) ∨ (inR x 1 n ∧ ¬ ((-200) ≤ pa ∧ pa ≤ 200) ∧ r = -2 ∧ u = X) ∨ (inR x 1 n ∧ ((-200) ≤ pa ∧ pa ≤ 200) ∧ r = 1 ∧ u = sX X 3 x.toNatClampNeg pa))
    (h' : (¬ inR x 1 n ∧ r' = -1 ∧ u' = Y) ∨ (inR x 1 n ∧ ¬ ((-200) ≤ pa ∧ pa ≤ 200) ∧ r' = -2 ∧ u' = Y) ∨ (inR x 1 n ∧ ((-200) ≤ pa ∧ pa ≤ 200) ∧ r' = 1 ∧ u' = sX Y 7 x.toNatClampNeg pa)) : r = r' ∧ Rel sl n u u' cy ss ds fs := by
  rcases h with ⟨A, rfl, rfl⟩ | ⟨A, B, rfl, rfl⟩ | ⟨A, B, rfl, rfl⟩ <;> rcases h' with ⟨A', rfl, rfl⟩ | ⟨A', B', rfl, rfl⟩ | ⟨A', B', rfl, rfl⟩
  all_goals first | contradiction | exact ⟨rfl, hR⟩ | skip
  obtain ⟨j, j1, j2, rfl⟩ := inR_of A
  rw [nI_clamp (by omega)]
  refine ⟨rfl, Rel_node (k := j) hR (fun i hi a => six hi) (fun i hi a => six hi) ?_ (fun a ha => sX_ne (by omega)) (fun a ha => sX_ne (by omega))⟩
  obtain ⟨⟨e1, e2, e3, e4, e5, e9⟩, hst, hw, h10, hy, b3, b4, b2⟩ := hR.1 j j1 j2
  refine ⟨⟨?_, ?_, ?_, ?_, ?_, ?_⟩, ?_, ?_, ?_, ?_, ?_, ?_, ?_⟩
  · rw [sX_ne (by decide), sX_ne (by decide)]; exact e1
  · rw [sX_ne (by decide), sX_ne (by decide)]; exact e2
  · rw [sX_at, sX_at]
  · rw [sX_ne (by decide), sX_ne (by decide)]; exact e4
  · rw [sX_ne (by decide), sX_ne (by decide)]; exact e5
  · rw [sX_ne (by decide), sX_ne (by decide)]; exact e9
  · rw [sX_ne (by decide)]; exact hst
  · rw [sX_ne (by decide), sX_ne (by decide), sX_ne (by decide)]; exact hw
  · rw [sX_ne (by decide), sX_ne (by decide)]; exact h10
  · rw [sX_ne (by decide)]; exact hy
  · rw [sX_at]; exact B
  · rw [sX_ne (by decide)]; exact b4
  · rw [sX_ne (by decide)]; exact b2
theorem cold_call (hR : Rel sl n X Y cy ss ds fs) (hn : n ≤ 16) {x on r r' : Int32} {u u' : NN}
    (h : (¬ inR x 1 n ∧ r = -1 ∧ u = X) ∨ (inR x 1 n ∧ r = nI (nCo (u 5) (n + 1)) ∧ u = if on ≠ 0 ∧ (X 1 x.toNatClampNeg = 3 ∨ X 1 x.toNatClampNeg = 4) then sX (sX (sX (sX X 5 x.toNatClampNeg on) 1 x.toNatClampNeg 0) 2 x.toNatClampNeg 0) 4 x.toNatClampNeg 0 else sX X 5 x.toNatClampNeg on))
    (h' : (¬ inR x 1 n ∧ r' = -1 ∧ u' = Y) ∨ (inR x 1 n ∧ r' = nI (nCo (u' 5) (n + 1)) ∧ u' = (if on ≠ 0 ∧ ¬ Y 4 x.toNatClampNeg ≤ 2 then sX (sX (sX (sX Y 5 x.toNatClampNeg on) 4 x.toNatClampNeg 0) 6 x.toNatClampNeg 0) 8 x.toNatClampNeg 0 else sX Y 5 x.toNatClampNeg on))) : r = r' ∧ Rel sl n u u' cy ss ds fs := by
  rcases h with ⟨A, rfl, rfl⟩ | ⟨A, hr, hu⟩ <;> rcases h' with ⟨A', rfl, rfl⟩ | ⟨A', hr', hu'⟩
  all_goals first | contradiction | exact ⟨rfl, hR⟩ | skip
  have key : Rel sl n u u' cy ss ds fs := by
    obtain ⟨j, j1, j2, rfl⟩ := inR_of A
    rw [nI_clamp (by omega)] at hu hu'
    obtain ⟨⟨e1, e2, e3, e4, e5, e9⟩, hst, hw, h10, hy, b3, b4, b2⟩ := hR.1 j j1 j2
    rw [← e1] at hu'
    have zz := st_gt hst
    by_cases z : on ≠ 0 ∧ (X 1 j = 3 ∨ X 1 j = 4)
    · rw [if_pos z] at hu
      rw [if_pos ⟨z.1, zz.mp z.2⟩] at hu'
      subst hu
      subst hu'
      refine Rel_node (k := j) hR (fun i hi a => by rw [six hi, six hi, six hi, six hi]) (fun i hi a => by rw [six hi, six hi, six hi, six hi]) ?_ (fun a ha => by rw [sX_ne (by omega), sX_ne (by omega), sX_ne (by omega), sX_ne (by omega)]) (fun a ha => by rw [sX_ne (by omega), sX_ne (by omega), sX_ne (by omega), sX_ne (by omega)])
      unfold RN
      simp only [sX_app]
      simp
      exact ⟨⟨e3, e9⟩, h10, hy, b3, bd_0⟩
    · rw [if_neg z] at hu
      rw [if_neg (fun y => z ⟨y.1, zz.mpr y.2⟩)] at hu'
      subst hu
      subst hu'
      refine Rel_node (k := j) hR (fun i hi a => by rw [six hi]) (fun i hi a => by rw [six hi]) ?_ (fun a ha => by rw [sX_ne (by omega)]) (fun a ha => by rw [sX_ne (by omega)])
      unfold RN
      simp only [sX_app]
      simp
      exact ⟨⟨e1, e2, e3, e4, e9⟩, hst, hw, by simpa using h10, hy, b3, b4, b2⟩
  refine ⟨?_, key⟩
  rw [hr, hr']
  refine congrArg nI (cnt_congr (fun j a b => ?_))
  rw [(key.1 j a (by omega)).1.2.2.2.2.1]
theorem flc_upd {f : Nat → Int32} {j : Nat} {v : Int32} (hv : (v &&& 1) + (v >>> ((1 : Int32) &&& 31)) = ((f j &&& 1) + (f j >>> ((1 : Int32) &&& 31))) + 1) : ∀ k, flc (upd f j v) k = flc f k + (if j < k then 1 else 0) := by
  intro k
  induction k with
  | zero => simp [flc]
  | succ k ih =>
    unfold flc
    rw [ih]
    by_cases e : j = k
    · subst e
      rw [pk_us, hv, if_neg (Nat.lt_irrefl _), if_pos (Nat.lt_succ_self _)]
      simp [Int32.add_assoc]
    · rw [pk_un (fun z => e z.symm)]
      by_cases l : j < k
      · rw [if_pos l, if_pos (by omega), Int32.add_assoc, Int32.add_assoc, Int32.add_comm 1]
      · rw [if_neg l, if_neg (by omega)]; simp
theorem fl_or {v ch : Int32} (h : v = 0 ∨ v = 1 ∨ v = 2 ∨ v = 3) (hc : ch = 1 ∨ ch = 2) (z : ¬ (v &&& ch ≠ 0)) : ((v ||| ch) &&& 1) + ((v ||| ch) >>> ((1 : Int32) &&& 31)) = ((v &&& 1) + (v >>> ((1 : Int32) &&& 31))) + 1 ∧ (v ||| ch = 0 ∨ v ||| ch = 1 ∨ v ||| ch = 2 ∨ v ||| ch = 3) := by
  rcases h with rfl | rfl | rfl | rfl <;> rcases hc with rfl | rfl <;> first | (exfalso; exact z (by decide)) | exact ⟨by decide, by decide⟩
theorem flip_call (hR : Rel sl n X Y cy ss ds fs) (hs1 : 1 ≤ sl) (hsl : sl ≤ 60) {ch x r r' : Int32} {u : NN × Nat} {u' : NN}
    (h : (¬ ((1 ≤ ch ∧ ch ≤ 2) ∧ inR x 0 (sl - 1)) ∧ r = -1 ∧ u = (X, fs)) ∨ (((1 ≤ ch ∧ ch ≤ 2) ∧ inR x 0 (sl - 1)) ∧ X 20 x.toNatClampNeg &&& ch ≠ 0 ∧ r = -3 ∧ u = (X, fs)) ∨ (((1 ≤ ch ∧ ch ≤ 2) ∧ inR x 0 (sl - 1)) ∧ ¬ (X 20 x.toNatClampNeg &&& ch ≠ 0) ∧ r = nI (fs + 1) ∧ u = (sX X 20 x.toNatClampNeg (X 20 x.toNatClampNeg ||| ch), fs + 1)))
    (h' : (¬ ((1 ≤ ch ∧ ch ≤ 2) ∧ inR x 0 (sl - 1)) ∧ r' = -1 ∧ u' = Y) ∨ (((1 ≤ ch ∧ ch ≤ 2) ∧ inR x 0 (sl - 1)) ∧ Y 25 x.toNatClampNeg &&& ch ≠ 0 ∧ r' = -3 ∧ u' = Y) ∨ (((1 ≤ ch ∧ ch ≤ 2) ∧ inR x 0 (sl - 1)) ∧ ¬ (Y 25 x.toNatClampNeg &&& ch ≠ 0) ∧ r' = flc (u' 25) sl ∧ u' = sX Y 25 x.toNatClampNeg (Y 25 x.toNatClampNeg ||| ch))) : r = r' ∧ Rel sl n u.1 u' cy ss ds u.2 := by
  obtain ⟨hN, hF, hC, hD, ⟨hf, hc⟩, hss, hds⟩ := id hR
  by_cases A : (1 ≤ ch ∧ ch ≤ 2) ∧ inR x 0 (sl - 1)
  · obtain ⟨j, j1, j2, rfl⟩ := inR_of A.2
    have jl : j < sl := by clear h h'; omega
    rw [nI_clamp (by clear h h'; omega)] at h h'
    obtain ⟨e, v4⟩ := hf j jl
    rw [← e] at h'
    have h := h.resolve_left (fun z => z.1 A)
    have h' := h'.resolve_left (fun z => z.1 A)
    by_cases B : X 20 j &&& ch ≠ 0
    · rcases h with ⟨-, -, rfl, rfl⟩ | ⟨-, z, -⟩
      · rcases h' with ⟨-, -, rfl, rfl⟩ | ⟨-, z, -⟩
        · exact ⟨rfl, hR⟩
        · exact absurd B z
      · exact absurd B z
    · rcases h with ⟨-, z, -⟩ | ⟨-, -, rfl, rfl⟩
      · exact absurd z B
      · rcases h' with ⟨-, z, -⟩ | ⟨-, -, hr', rfl⟩
        · exact absurd z B
        · have hch : ch = 1 ∨ ch = 2 := by
            have := (inR_iff (x := ch) (a := 1) (b := 2) (by decide) (by decide)).mp A.1
            obtain ⟨c, c1, c2, rfl⟩ := inR_of this
            have : c = 1 ∨ c = 2 := by omega
            rcases this with rfl | rfl
            · exact Or.inl rfl
            · exact Or.inr rfl
          obtain ⟨o1, o2⟩ := fl_or v4 hch B
          have hfl : ∀ q, q < sl → sX X 20 j (X 20 j ||| ch) 20 q = sX Y 25 j (X 20 j ||| ch) 25 q ∧ (sX X 20 j (X 20 j ||| ch) 20 q = 0 ∨ sX X 20 j (X 20 j ||| ch) 20 q = 1 ∨ sX X 20 j (X 20 j ||| ch) 20 q = 2 ∨ sX X 20 j (X 20 j ||| ch) 20 q = 3) := fun q hq => by
            by_cases z : q = j
            · subst z; rw [sX_at, sX_at]; exact ⟨rfl, o2⟩
            · rw [six z, six z]; exact hf q hq
          have hfc : nI (fs + 1) = flc (sX X 20 j (X 20 j ||| ch) 20) sl := by
            have := flc_upd o1 sl
            rw [if_pos jl, ← hc] at this
            rw [sX_sA, sA_at, this]
            exact (nI_1 fs).symm
          refine ⟨?_, Rel_nodes hN (fun a ha => sX_ne (by omega)) (fun a ha => sX_ne (by omega)), ?_, hC, hD, ⟨hfl, hfc⟩, hss, hds⟩
          · rw [hr']
            exact hfc.trans (flc_congr (fun q hq => (hfl q hq).1))
          · exact fun i hi => FR_congr (fun a ha => by show sX X 20 j (X 20 j ||| ch) a i = X a i; rw [sX_ne (by omega)]) (fun a ha => by rw [sX_ne (by omega)]) (hF i hi)
  · rcases h with ⟨-, rfl, rfl⟩ | ⟨z, -⟩ | ⟨z, -⟩
    · rcases h' with ⟨-, rfl, rfl⟩ | ⟨z, -⟩ | ⟨z, -⟩
      · exact ⟨rfl, hR⟩
      · exact absurd z A
      · exact absurd z A
    · exact absurd z A
    · exact absurd z A
theorem run_call {mi : Nat} (hR : Rel sl n X Y cy ss ds fs) (hn : n ≤ 16) (hsl : sl ≤ 60) (hcy : cy + 500 < 1000000) {x r r' : Int32} {u : NN × Nat × Nat × Nat} {u' : NN × Nat × Nat}
    (h : (¬ inR x 0 500 ∧ r = -2 ∧ u = (X, cy, ds, fs)) ∨ (inR x 0 500 ∧ RunS sl mi n ss x.toNatClampNeg (X, cy, ds, fs) r u))
    (h' : (¬ inR x 0 500 ∧ r' = -2 ∧ u' = (Y, ds, cy)) ∨ (inR x 0 500 ∧ RSR sl mi n ss x.toNatClampNeg (Y, ds, cy) r' u')) : r = r' ∧ u.2.1 ≤ cy + 500 ∧ u'.2.2 = u.2.1 ∧ u'.2.1 = u.2.2.1 ∧ Rel sl n u.1 u'.1 u.2.1 ss u.2.2.1 u.2.2.2 := by
  rcases h with ⟨A, rfl, rfl⟩ | ⟨A, hr⟩ <;> rcases h' with ⟨A', rfl, rfl⟩ | ⟨A', hr'⟩
  · exact ⟨rfl, by show cy ≤ cy + 500; omega, rfl, rfl, hR⟩
  · exact absurd A' A
  · exact absurd A A'
  · obtain ⟨k, k1, k2, rfl⟩ := inR_of A
    rw [nI_clamp (by omega)] at hr hr'
    obtain ⟨a1, a2, a3, a4, a5⟩ := run_all hn hsl hR k r r' u u' (by omega) hr hr'
    refine ⟨a1, by omega, by omega, a4, ?_⟩
    rw [a2]
    exact a5
theorem read_call (hR : Rel sl n X Y cy ss ds fs) (hn : n ≤ 16) {a b : Nat} (hab : (a = 1 ∧ b = 4) ∨ (a = 2 ∧ b = 6) ∨ (a = 4 ∧ b = 8) ∨ (a = 9 ∧ b = 9)) {x d r r' : Int32} (h : r = if inR x 1 n then X a x.toNatClampNeg else d) (h' : r' = if inR x 1 n then Y b x.toNatClampNeg else d) : r = r' := by
  rw [h, h']
  by_cases A : inR x 1 n
  · rw [if_pos A, if_pos A]
    obtain ⟨j, j1, j2, rfl⟩ := inR_of A
    rw [nI_clamp (by omega)]
    obtain ⟨⟨e1, e2, e3, e4, e5, e9⟩, -⟩ := hR.1 j j1 j2
    rcases hab with ⟨rfl, rfl⟩ | ⟨rfl, rfl⟩ | ⟨rfl, rfl⟩ | ⟨rfl, rfl⟩
    · exact e1
    · exact e2
    · exact e4
    · exact e9
  · rw [if_neg A, if_neg A]
end CALLS
