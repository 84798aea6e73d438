/-! the whole state in the class and in the reference; a cycle, and a run -/
def FR (sl n : Nat) (X Y : NN) (i : Nat) : Prop := (X 12 i = Y 16 i ∧ X 13 i = Y 17 i ∧ X 14 i = Y 18 i ∧ X 15 i = Y 19 i ∧ X 16 i = Y 20 i) ∧ inR (X 12 i) 1 n ∧ (∃ q : Nat, q < sl ∧ X 13 i = nI q) ∧ isEv (X 16 i) ∧ 0 ≤ X 15 i ∧ X 15 i < X 16 i ∧ (X 14 i = 1 ∨ X 14 i = 2 ∨ X 14 i = 3)
def Rel (sl n : Nat) (X Y : NN) (cy ss ds fs : Nat) : Prop := (∀ j, 1 ≤ j → j ≤ n → RN X Y cy j) ∧ (∀ i, i < ss → FR sl n X Y i) ∧ (∀ i j, i < j → j < ss → ¬ Cl (X 13) (X 14) (X 15) (X 16) (X 13 j) (X 14 j) (X 15 j) (X 16 j) i) ∧ (dl X 17 18 19 ds = dl Y 22 23 24 ds ∧ DyI (X 17) (X 19) n ds ∧ DyI (Y 22) (Y 24) n ds) ∧ ((∀ q, q < sl → X 20 q = Y 25 q ∧ (X 20 q = 0 ∨ X 20 q = 1 ∨ X 20 q = 2 ∨ X 20 q = 3)) ∧ nI fs = flc (X 20) sl) ∧ ss ≤ 100 ∧ ds ≤ 100
theorem FR_congr {sl n : Nat} {X Y X1 Y1 : NN} {i : Nat} (hx : ∀ a, (a = 12 ∨ a = 13 ∨ a = 14 ∨ a = 15 ∨ a = 16) → X1 a i = X a i) (hy : ∀ a, (a = 16 ∨ a = 17 ∨ a = 18 ∨ a = 19 ∨ a = 20) → Y1 a i = Y a i) (h : FR sl n X Y i) : FR sl n X1 Y1 i := by
  unfold FR at h ⊢
  rw [hx 12 (by decide), hx 13 (by decide), hx 14 (by decide), hx 15 (by decide), hx 16 (by decide), hy 16 (by decide), hy 17 (by decide), hy 18 (by decide), hy 19 (by decide), hy 20 (by decide)]
  exact h
theorem dn_rel {sl n cy i : Nat} {X Y : NN} (hcy : cy < 1000000) (hn : n ≤ 16) (hsl : sl ≤ 60) (hF : FR sl n X Y i) (hs : ∀ j, 1 ≤ j → j ≤ n → X 1 j = Y 4 j) (hf : ∀ q, q < sl → X 20 q = Y 25 q) :
    Dn (fun i => decide (nI cy &&& (X 16 i - 1) = X 15 i)) (X 1) (X 12) (X 13) (X 14) (X 20) i ↔ Dn (fun i => decide (rmd (nI cy) (Y 20 i) = Y 19 i)) (Y 4) (Y 16) (Y 17) (Y 18) (Y 25) i := by
  obtain ⟨⟨e12, e13, e14, e15, e16⟩, hi, ⟨q, hq, eq⟩, he, -⟩ := hF
  obtain ⟨j, h1, h2, ej⟩ := inR_of hi
  unfold Dn
  simp only [decide_eq_true_eq]
  rw [← e12, ← e13, ← e14, ← e15, ← e16, ej, eq, nI_clamp (n := j) (by omega), nI_clamp (n := q) (by omega), hs j h1 h2, hf q hq, mask_rem (by omega) he]
theorem pm_rel {n : Nat} {st st' : Nat → Int32} (hn : n ≤ 16) (hs : ∀ j, 1 ≤ j → j ≤ n → st j = st' j) {X : NN} {a b c ds : Nat} (hY : DyI (X a) (X c) n ds) : ∀ q ∈ dl X a b c ds, ∀ id, pm st id q = pm st' id q := by
  intro q hq id
  obtain ⟨k, hk, rfl⟩ := List.mem_map.mp hq
  obtain ⟨j, h1, h2, ej⟩ := inR_of (hY k (List.mem_range.mp hk)).1
  unfold pm
  simp only
  rw [ej, nI_clamp (by omega), hs j h1 h2]
theorem run_one {sl mi n ss cy ds fs ds6 wt6 : Nat} {X Y X6 Y6 : NN} {r r' : Int32} (hcy : cy < 1000000) (hn : n ≤ 16) (hsl : sl ≤ 60) (hR : Rel sl n X Y cy ss ds fs) (h : RunC sl mi n ss X cy ds r X6 ds6) (k : RR sl mi n ss Y ds cy r' Y6 wt6) : r = r' ∧ wt6 = ds6 ∧ Rel sl n X6 Y6 (cy + 1) ss ds6 0 := by
  have kx := RunC_keep h
  have ky := RR_keep k
  have d1 := RunC_dy h
  have d2 := RR_dy k
  have d3 := RunC_ds h
  obtain ⟨hN, hF, hC, ⟨hL, hD, hD'⟩, ⟨hf, -⟩, hss, hds⟩ := hR
  obtain ⟨X1, X2, X3, X4, X5, r1, d, h1, h2, h3, h4, h5, h6, hr⟩ := h
  obtain ⟨Y1, Y2, Y3, Y4, Y5, s1, d', k1, k2, k3, k4, k5, k6, hs⟩ := k
  have R1 := su_rel hN h1 k1
  have x1 := @SU_keep _ _ _ h1
  have y1 := @SUR_keep _ _ _ k1
  have F1 : ∀ i, i < ss → FR sl n X1 Y1 i := fun i hi => FR_congr (fun a ha => by rw [x1 a (by omega) (by omega) (by omega)]) (fun a ha => by rw [y1 a (by omega) (by omega) (by omega)]) (hF i hi)
  have f1 : ∀ q, q < sl → X1 20 q = Y1 25 q := fun q hq => by rw [x1 20 (by decide) (by decide) (by decide), y1 25 (by decide) (by decide) (by decide)]; exact (hf q hq).1
  have D1 : ∀ i, i < ss → (Dn (fun i => decide (nI cy &&& (X1 16 i - 1) = X1 15 i)) (X1 1) (X1 12) (X1 13) (X1 14) (X1 20) i ↔ Dn (fun i => decide (rmd (nI cy) (Y1 20 i) = Y1 19 i)) (Y1 4) (Y1 16) (Y1 17) (Y1 18) (Y1 25) i) := fun i hi => dn_rel hcy hn hsl (F1 i hi) (fun j a b => (R1 j a b).1.1) f1
  have er : r1 = s1 := by
    rw [h2.1, k2.1]
    refine congrArg nI (cnz_congr (fun i hi => ?_))
    simp only [D1 i hi]
  have hh : ∀ j, 1 ≤ j → j ≤ n → (X2 7 j ≠ 0 ↔ Y2 12 j ≠ 0) := fun j a b => by
    rw [h2.2.1 j a b, k2.2.1 j a b]
    constructor
    · rintro ⟨i, q1, q2, q3⟩
      exact ⟨i, q1, (D1 i q1).mp q2, by rw [← (F1 i q1).1.1]; exact q3⟩
    · rintro ⟨i, q1, q2, q3⟩
      exact ⟨i, q1, (D1 i q1).mpr q2, by rw [(F1 i q1).1.1]; exact q3⟩
  have R2 : ∀ j, 1 ≤ j → j ≤ n → RN X2 Y2 cy j := fun j a b => RN_congr (fun c hc => by rw [h2.2.2 c (by omega)]) (fun c hc => by rw [k2.2.2 c (by omega)]) (R1 j a b)
  have lx : dl X2 17 18 19 ds = dl X 17 18 19 ds := dl_congr (fun k _ => by
    rw [h2.2.2 17 (by decide), h2.2.2 18 (by decide), h2.2.2 19 (by decide), x1 17 (by decide) (by decide) (by decide), x1 18 (by decide) (by decide) (by decide), x1 19 (by decide) (by decide) (by decide)]
    exact ⟨rfl, rfl, rfl⟩)
  have ly : dl Y2 22 23 24 ds = dl Y 22 23 24 ds := dl_congr (fun k _ => by
    rw [k2.2.2 22 (by decide), k2.2.2 23 (by decide), k2.2.2 24 (by decide), y1 22 (by decide) (by decide) (by decide), y1 23 (by decide) (by decide) (by decide), y1 24 (by decide) (by decide) (by decide)]
    exact ⟨rfl, rfl, rfl⟩)
  have dd : (dl X3 17 18 19 ds6, d) = (dl Y3 22 23 24 wt6, d') := by
    rw [h3.1, k3.1, lx, ly, ← hL]
    exact dyn_congr _ _ _ _ _ (pm_rel hn (fun j a b => (R2 j a b).1.1) hD)
  have dl3 : dl X3 17 18 19 ds6 = dl Y3 22 23 24 wt6 := congrArg Prod.fst dd
  have ed : d = d' := congrArg Prod.snd dd
  have ew : wt6 = ds6 := by
    have := congrArg List.length dl3
    rw [dl_len, dl_len] at this
    exact this.symm
  subst ew
  have R3 : ∀ j, 1 ≤ j → j ≤ n → RN X3 Y3 cy j := fun j a b => RN_congr (fun c hc => by rw [h3.2.2.2 c (by omega) (by omega) (by omega)]) (fun c hc => by rw [k3.2.2.2 c (by omega) (by omega) (by omega)]) (R2 j a b)
  have hh3 : ∀ j, 1 ≤ j → j ≤ n → (X3 7 j ≠ 0 ↔ Y3 12 j ≠ 0) := fun j a b => by
    rw [h3.2.2.2 7 (by decide) (by decide) (by decide), k3.2.2.2 12 (by decide) (by decide) (by decide)]
    exact hh j a b
  have R5 := co_rel hcy R3 hh3 h4 k4 h5 k5
  refine ⟨by rw [hr, hs, er, ed], rfl, ?_, ?_, ?_, ⟨?_, d1, d2⟩, ⟨?_, ?_⟩, hss, by omega⟩
  · exact fun j a b => RN_congr (fun c hc => by rw [h6.2 c (by omega)]) (fun c hc => by rw [k6.2 c (by omega)]) (R5 j a b)
  · exact fun i hi => FR_congr (fun c hc => by rw [kx c (by omega)]) (fun c hc => by rw [ky c (by omega)]) (hF i hi)
  · rw [kx 13 (by decide), kx 14 (by decide), kx 15 (by decide), kx 16 (by decide)]
    exact hC
  · have zx : dl X6 17 18 19 wt6 = dl X3 17 18 19 wt6 := dl_congr (fun k _ => by
      rw [h6.2 17 (by decide), h6.2 18 (by decide), h6.2 19 (by decide), h5.2 17 (by decide), h5.2 18 (by decide), h5.2 19 (by decide), h4.2 17 (by decide) (by decide) (by decide) (by decide) (by decide) (by decide) (by decide), h4.2 18 (by decide) (by decide) (by decide) (by decide) (by decide) (by decide) (by decide), h4.2 19 (by decide) (by decide) (by decide) (by decide) (by decide) (by decide) (by decide)]
      exact ⟨rfl, rfl, rfl⟩)
    have zy : dl Y6 22 23 24 wt6 = dl Y3 22 23 24 wt6 := dl_congr (fun k _ => by
      rw [k6.2 22 (by decide), k6.2 23 (by decide), k6.2 24 (by decide), k5.2 22 (by decide), k5.2 23 (by decide), k5.2 24 (by decide), k4.2 22 (by decide) (by decide) (by decide) (by decide) (by decide) (by decide) (by decide), k4.2 23 (by decide) (by decide) (by decide) (by decide) (by decide) (by decide) (by decide), k4.2 24 (by decide) (by decide) (by decide) (by decide) (by decide) (by decide) (by decide)]
      exact ⟨rfl, rfl, rfl⟩)
    rw [zx, zy]
    exact dl3
  · intro q hq
    rw [h6.1 q hq, k6.1 q hq]
    exact ⟨rfl, Or.inl rfl⟩
  · rw [flc_0 h6.1]
    rfl
theorem run_all {sl mi n ss cy ds fs : Nat} {X Y : NN} (hn : n ≤ 16) (hsl : sl ≤ 60) (hR : Rel sl n X Y cy ss ds fs) : ∀ (k : Nat) (r r' : Int32) (S : NN × Nat × Nat × Nat) (S' : NN × Nat × Nat), cy + k < 1000000 → RunS sl mi n ss k (X, cy, ds, fs) r S → RSR sl mi n ss k (Y, ds, cy) r' S' → r = r' ∧ S.2.1 = cy + k ∧ S'.2.2 = cy + k ∧ S'.2.1 = S.2.2.1 ∧ Rel sl n S.1 S'.1 (cy + k) ss S.2.2.1 S.2.2.2 := by
  intro k
  induction k with
  | zero =>
    intro r r' S S' _ h h'
    obtain ⟨rfl, rfl⟩ := h
    obtain ⟨rfl, rfl⟩ := h'
    exact ⟨rfl, rfl, rfl, rfl, hR⟩
  | succ k ih =>
    intro r r' S S' hk h h'
    obtain ⟨S1, r1, r2, X2, d2, q1, q2, rfl, rfl⟩ := h
    obtain ⟨T1, t1, t2, Y2, e2, w1, w2, rfl, rfl⟩ := h'
    obtain ⟨i1, i2, i3, i4, i5⟩ := ih r1 t1 S1 T1 (by omega) q1 w1
    rw [i2] at q2
    rw [i3, i4] at w2
    obtain ⟨o1, o2, o3⟩ := run_one (by omega) hn hsl i5 q2 w2
    refine ⟨by rw [i1, o1], ?_, ?_, o2, o3⟩
    · show S1.2.1 + 1 = _
      omega
    · show T1.2.2 + 1 = _
      omega
