/-! the reference: a cycle -/
def isLD (g : Nat → Int32) (i n f : Nat) : Prop := (f = 0 ∧ ∀ j, i < j → j ≤ n → g j ≠ 2) ∨ (i < f ∧ f ≤ n ∧ g f = 2 ∧ ∀ j, i < j → j < f → g j ≠ 2)
theorem ld_set {g : Nat → Int32} {i n : Nat} (h : 0 < i) (hn : i ≤ n) (c : g i = 2) : isLD g (i - 1) n i := Or.inr ⟨by omega, hn, c, fun j a b => absurd a (by omega)⟩
theorem ld_keep {g : Nat → Int32} {i n f : Nat} (h : 0 < i) (hl : isLD g i n f) (c : ¬ g i = 2) : isLD g (i - 1) n f := by
  rcases hl with ⟨h1, h2⟩ | ⟨h1, h2, h3, h4⟩
  · refine Or.inl ⟨h1, fun j a b => ?_⟩
    by_cases e : j = i
    · subst e; exact c
    · exact h2 j (by omega) b
  · refine Or.inr ⟨by omega, h2, h3, fun j a b => ?_⟩
    by_cases e : j = i
    · subst e; exact c
    · exact h4 j (by omega) b
theorem ld_end {g : Nat → Int32} {i n f : Nat} (h : i = 0) (hl : isLD g i n f) : isLA g n f := by
  subst h
  rcases hl with ⟨h1, h2⟩ | ⟨h1, h2, h3, h4⟩
  · exact Or.inl ⟨h1, fun j a b => h2 j (by omega) b⟩
  · exact Or.inr ⟨h1, h2, h3, fun j a b => h4 j (by omega) b⟩
def nSr (st co : Nat → Int32) (k : Nat) : Nat := cnt (fun j => decide (co j ≠ 0 ∧ st j < 2)) k
theorem nSr_t {st co : Nat → Int32} {i : Nat} (h : 1 ≤ i) (a : ¬ co i = 0) (b : ¬ 2 ≤ st i) : nSr st co (i + 1) = nSr st co i + 1 := cnt_t h (decide_eq_true ⟨a, Int32.not_le.mp b⟩)
theorem nSr_f {st co : Nat → Int32} {i : Nat} (h : co i = 0 ∨ 2 ≤ st i) : nSr st co (i + 1) = nSr st co i := cnt_f (decide_eq_false (fun z => h.elim z.1 (fun q => absurd z.2 (i32_nle q))))
def SR (Y u : Nat → Nat → Int32) (f kc j : Nat) : Prop := (f = 0 → u 4 j = (if 1 < kc ∧ Y 5 j ≠ 0 ∧ Y 4 j < 2 then 2 else Y 4 j) ∧ u 6 j = Y 6 j ∧ u 11 j = Y 11 j) ∧
  (0 < f → u 4 j = (if Y 4 j = 0 then 1 else if Y 4 j = 1 then (if Y 11 j + 1 = 2 then 2 else 1) else Y 4 j) ∧ u 11 j = (if Y 4 j = 0 then 0 else if Y 4 j = 1 then Y 11 j + 1 else Y 11 j) ∧ u 6 j = (if Y 4 j = 1 ∧ Y 11 j + 1 = 2 then Y 6 f else Y 6 j))
theorem sr_step {Y Y' u : Nat → Nat → Int32} {f kc i : Nat} (h3 : ∀ j, 1 ≤ j → j < i → SR Y Y' f kc j) (hu : ∀ b, b ≠ i → u 4 b = Y' 4 b ∧ u 6 b = Y' 6 b ∧ u 11 b = Y' 11 b) (hi : SR Y u f kc i) : ∀ j, 1 ≤ j → j < i + 1 → SR Y u f kc j := by
  intro j a b
  by_cases e : j = i
  · subst e; exact hi
  · have h := h3 j a (by omega)
    obtain ⟨q1, q2, q3⟩ := hu j e
    unfold SR at h ⊢
    rw [q1, q2, q3]
    exact h
section SRS
variable {Y u : Nat → Nat → Int32} {f kc i : Nat}
theorem sr0 (hf : f = 0) (u4 : u 4 i = if 1 < kc ∧ Y 5 i ≠ 0 ∧ Y 4 i < 2 then 2 else Y 4 i) (u6 : u 6 i = Y 6 i) (u11 : u 11 i = Y 11 i) : SR Y u f kc i := ⟨fun _ => ⟨u4, u6, u11⟩, fun z => absurd z (by omega)⟩
theorem sr1 (hf : 0 < f) (q : Y 4 i = 1) (w : ¬ Y 11 i + 1 = 2) (u4 : u 4 i = Y 4 i) (u6 : u 6 i = Y 6 i) (u11 : u 11 i = Y 11 i + 1) : SR Y u f kc i := ⟨fun z => absurd z (by omega), fun _ => by rw [u4, u6, u11, q]; simp [w]⟩
theorem sr2 (hf : 0 < f) (q : Y 4 i = 1) (w : Y 11 i + 1 = 2) (u4 : u 4 i = 2) (u6 : u 6 i = Y 6 f) (u11 : u 11 i = Y 11 i + 1) : SR Y u f kc i := ⟨fun z => absurd z (by omega), fun _ => by rw [u4, u6, u11, q]; simp [w]⟩
theorem sr3 (hf : 0 < f) (q : Y 4 i = 0) (u4 : u 4 i = 1) (u6 : u 6 i = Y 6 i) (u11 : u 11 i = 0) : SR Y u f kc i := ⟨fun z => absurd z (by omega), fun _ => by rw [u4, u6, u11, q]; simp⟩
theorem sr5 (hf : 0 < f) (q : ¬ Y 4 i = 0) (q' : ¬ Y 4 i = 1) (u4 : u 4 i = Y 4 i) (u6 : u 6 i = Y 6 i) (u11 : u 11 i = Y 11 i) : SR Y u f kc i := ⟨fun z => absurd z (by omega), fun _ => by rw [u4, u6, u11]; simp [q, q']⟩
end SRS
def SUR (Y u : Nat → Nat → Int32) (n : Nat) : Prop := ∃ f, isLA (Y 4) n f ∧ (∀ j, 1 ≤ j → j ≤ n → SR Y u f (nSr (Y 4) (Y 5) (n + 1)) j) ∧ ∀ a, a ≠ 4 → a ≠ 6 → a ≠ 11 → u a = Y a
theorem rm_stepG {X X' : Nat → Nat → Int32} {at0 i b1 b2 b3 : Nat} (h12 : b1 ≠ b2) (h13 : b1 ≠ b3) (h23 : b2 ≠ b3) (h1 : at0 ≤ i) (h3 : ∀ a, (a = b1 ∨ a = b2 ∨ a = b3) → (∀ k, k < i → X' a k = if k < at0 then X a k else X a (k + 1)) ∧ ∀ k, i ≤ k → X' a k = X a k) :
    ∀ a, (a = b1 ∨ a = b2 ∨ a = b3) → (∀ k, k < i + 1 → sX (sX (sX X' b1 i (X' b1 (i + 1))) b2 i (X' b2 (i + 1))) b3 i (X' b3 (i + 1)) a k = if k < at0 then X a k else X a (k + 1)) ∧ ∀ k, i + 1 ≤ k → sX (sX (sX X' b1 i (X' b1 (i + 1))) b2 i (X' b2 (i + 1))) b3 i (X' b3 (i + 1)) a k = X a k := by
  intro a ha
  obtain ⟨q1, q2⟩ := h3 a ha
  have key : ∀ k, sX (sX (sX X' b1 i (X' b1 (i + 1))) b2 i (X' b2 (i + 1))) b3 i (X' b3 (i + 1)) a k = if k = i then X' a (i + 1) else X' a k := by
    intro k
    rw [sX_app, sX_app, sX_app]
    rcases ha with rfl | rfl | rfl <;> by_cases e : k = i <;> simp [e, h12, h13, h23]
  refine ⟨fun k hk => ?_, fun k hk => ?_⟩
  · rw [key]
    by_cases e : k = i
    · subst e
      rw [if_pos rfl, if_neg (by omega)]
      exact q2 (k + 1) (by omega)
    · rw [if_neg e]; exact q1 k (by omega)
  · rw [key, if_neg (by omega)]
    exact q2 k (by omega)
theorem dy_rmG {X u : Nat → Nat → Int32} {a b c n ds k : Nat} (hk : k < ds) (hY : DyI (X a) (X c) n ds) (h : ∀ x, (x = a ∨ x = b ∨ x = c) → ∀ j, j < ds - 1 → u x j = if j < k then X x j else X x (j + 1)) : DyI (u a) (u c) n (ds - 1) := by
  intro j hj
  rw [h a (Or.inl rfl) j hj, h c (Or.inr (Or.inr rfl)) j hj]
  split
  · exact hY j (by omega)
  · exact hY (j + 1) (by omega)
theorem dy_takeG {X u : Nat → Nat → Int32} {p : Nat → T3 → Bool} {a b c mi f id m d k ds ln : Nat} (h : m ≤ mi) (hn : (dl X a b c ds).findIdx? (p id) = some k) (hl : dlen (dl X a b c ds) k = ln) (hf : m + ln - 1 ≤ mi) (hk : k < ds) (hu : ∀ x, (x = a ∨ x = b ∨ x = c) → ∀ j, j < ds - 1 → u x j = if j < k then X x j else X x (j + 1)) :
    dyn p mi f (id + 1) (dl u a b c (ds - 1)) (m + ln) (d + 1) = dyn p mi (f + 1) id (dl X a b c ds) m d := by
  rw [dyn_take h hn (by rw [hl]; exact hf), hl, dl_rm hk hu]
theorem upd_self {f : Nat → Int32} {a : Nat} : upd f a (f a) = f := by
  funext j
  by_cases e : j = a
  · rw [e, pk_us]
  · rw [pk_un e]
theorem insF_irr {k : Nat} {f : Nat → Int32} {x d : Int32} : insF k (upd f k x) d = insF k f d := by
  cases k with
  | zero => unfold insF; funext j; by_cases e : j = 0 <;> simp [upd, e]
  | succ k =>
    unfold insF
    rw [pk_un (show k ≠ k + 1 by omega)]
    have e : ∀ v, upd (upd f (k + 1) x) (k + 1) v = upd f (k + 1) v := fun v => by
      funext j
      by_cases e : j = k + 1 <;> simp [upd, e]
    rw [e, e]
theorem sw_step {U : Nat → Nat → Int32} {a k : Nat} {d : Int32} {g : Nat → Int32} (c1 : 0 < a) (c2 : ¬ U 14 (a - 1) ≤ U 14 a) (a2 : insF a (U 14) d = insF k g d) (a3 : U 14 a = d) : insF (a - 1) ((sX (sX U 14 a (U 14 (a - 1))) 14 (a - 1) (U 14 a)) 14) d = insF k g d := by
  show insF (a - 1) (upd (upd (U 14) a (U 14 (a - 1))) (a - 1) (U 14 a)) d = _
  rw [insF_irr, ← insF_go c1 (by rw [← a3]; exact c2)]
  exact a2
theorem so_step {U Z e : Nat → Int32} {k : Nat} (s3 : ∀ t, t < k → Z t = srt e k t) (s4 : Z k = e k) (hV : U = insF k Z (Z k)) : ∀ t, t < k + 1 → U t = srt e (k + 1) t := by
  intro t ht
  rw [hV, s4]
  exact insF_congr s3 t (by omega)
theorem de_step {Y' : Nat → Nat → Int32} {st he er : Nat → Int32} {i j : Nat} {v : Int32} (h1 : 1 ≤ i) (h : dvP st he j i) (ha : ∀ t, t < dc st he j i → Y' 14 t = de st he er j i t) (hv : v = er i - er j) :
    ∀ t, t < dc st he j i + 1 → (sX Y' 14 (dc st he j i) v) 14 t = de st he er j (i + 1) t := by
  intro t ht
  rw [de_t h1 h, sX_app]
  by_cases e : t = dc st he j i
  · rw [if_pos ⟨rfl, e⟩, e, pk_us, hv]
  · rw [if_neg (fun z => e z.2), pk_un e]
    exact ha t (by omega)
set_option maxHeartbeats 4000000 in
set_option maxRecDepth 100000 in
theorem c_X5_startUp {l : Launch} {D : va_G} {cI cZ cL : ClassId} {h : Nat → Nat} {sl mi n : Nat} {Y : Nat → Nat → Int32} {th fr wt cy : Nat} (hn : n ≤ 16) : KV l yX5_startUp (.code yX5_startUp cX5_startUp 5 none) 0 D (tyz cI cZ cL) [.ref (h 0)] (mw h cI cZ sl mi n Y th fr wt cy) (fun u => SUR Y u n) (fun u : Nat → Nat → Int32 => mw h cI cZ sl mi n u th fr wt cy) := by
  refine KN.of (own := RX5) (lvs := [(0, .ref (h 0))]) (by decide) rfl (Nat.le_of_ble_eq_true rfl) rfl ?_
  intro p e s m args below meth c Q C hK hN A hA hP hD hS hin ret ls hl
  obtain ⟨hx, hb, hml, hown, hts, hr9, hlk9⟩ := id C
  refine lv_iconst (v := 0) hx hb dX5_startUp_0 (by decide) ?_
  refine lv_istore_n (lv' := [(1, .int 0), (0, .ref (h 0))]) hx hb dX5_startUp_1 rfl hl (by decide) rfl (fun ls hl => ?_)
  refine lv_iconst (v := 0) hx hb dX5_startUp_2 (by decide) ?_
  refine lv_istore_n (lv' := [(2, .int 0), (1, .int 0), (0, .ref (h 0))]) hx hb dX5_startUp_3 rfl hl (by decide) rfl (fun ls hl => ?_)
  refine lv_aload_n hx hb dX5_startUp_4 rfl (lv_at hl 2 rfl) ?_
  refine va_get (D := D) (ci := 7) (v := .int (nI n)) (C := RX5) (T := TX5) (N := 27) hx hb hts inX5 hown hK hP 0 rfl rfl 1 (by decide) (hts _ wF_X5_71) (fun _ h9 => h9) rfl dX5_startUp_5 ?_
  refine lv_istore_n (lv' := [(3, .int (nI n)), (2, .int 0), (1, .int 0), (0, .ref (h 0))]) hx hb dX5_startUp_8 rfl hl (by decide) rfl (fun ls hl => ?_)
  have L9 : ∀ (kf : Nat) (i : Nat) (f : Nat) (kc : Nat) (ls : Array Slot), (i < kf) → (i ≤ n) → (isLD (Y 4) i n f) → (kc + nSr (Y 4) (Y 5) (i + 1) = nSr (Y 4) (Y 5) (n + 1)) → (lv_has ls 5 [(0, .ref (h 0)), (1, .int (nI f)), (2, .int (nI kc)), (3, .int (nI i))]) → W p l e (rmK 0) s m args below meth c s.heap [] 0 0 Q (F0 m 9 ls []) := by
    intro kf
    induction kf with
    | zero =>
      intro i f kc ls hm
      exact absurd hm (Nat.not_lt_zero _)
    | succ kf ih9 =>
      intro i f kc ls hm h2 h3 h4 hl
      refine lv_iload_n hx hb dX5_startUp_9 rfl (lv_at hl 3 rfl) ?_
      refine k_if_le (tgt := 62) hx hb i rfl (by omega) dX5_startUp_10 (by decide) (fun c10 => ?_) (fun c10 => ?_)
      · skip
        have hla : isLA (Y 4) n f := ld_end c10 h3
        have hfn := isLA_le hla
        have hkc : kc = nSr (Y 4) (Y 5) (n + 1) := by
          rw [← h4, c10]
          show kc = kc + cnt _ 1
          rw [cnt_1]; rfl
        have hkb : kc ≤ n + 1 := by rw [hkc]; exact cnt_le _ _
        refine lv_aload_n hx hb dX5_startUp_62 rfl (lv_at hl 0 rfl) ?_
        refine va_get (D := D) (ci := 7) (v := .ref (h 6)) (C := RX5) (T := TX5) (N := 27) hx hb hts inX5 hown hK hP 0 rfl rfl 6 (by decide) (hts _ wF_X5_17) (fun _ h9 => h9) rfl dX5_startUp_63 ?_
        refine lv_iload_n hx hb dX5_startUp_66 rfl (lv_at hl 1 rfl) ?_
        refine k_iald (D := D) (f := Y 6) hx hb hK hP 3 0 rfl rfl f rfl (by omega) (by omega) dX5_startUp_67 ?_
        refine lv_istore_n (lv' := [(3, .int (Y 6 f)), (0, .ref (h 0)), (1, .int (nI f)), (2, .int (nI kc))]) hx hb dX5_startUp_68 rfl hl (by decide) rfl (fun ls hl => ?_)
        refine lv_iconst (v := 1) hx hb dX5_startUp_69 (by decide) ?_
        refine lv_istore (lv' := [(4, .int 1), (3, .int (Y 6 f)), (0, .ref (h 0)), (1, .int (nI f)), (2, .int (nI kc))]) hx hb dX5_startUp_70 hl (by decide) rfl (fun ls hl => ?_)
        have L72 : ∀ (kf : Nat) (i : Nat) (Y' : Nat → Nat → Int32) (H : Heap) (locs : List Loc) (ls : Array Slot), (n + 1 - i < kf) → (1 ≤ i) → (i ≤ n + 1) → (∀ j, 1 ≤ j → j < i → SR Y Y' f kc j) → (∀ j, i ≤ j → Y' 4 j = Y 4 j ∧ Y' 6 j = Y 6 j ∧ Y' 11 j = Y 11 j) → (∀ a, a ≠ 4 → a ≠ 6 → a ≠ 11 → Y' a = Y a) → (va_P D vwCl (mw h cI cZ sl mi n Y' th fr wt cy) H) → (va_D A (mw h cI cZ sl mi n Y' th fr wt cy)) → (va_S A s.heap H locs) → (lv_has ls 5 [(0, .ref (h 0)), (1, .int (nI f)), (2, .int (nI kc)), (3, .int (Y 6 f)), (4, .int (nI i))]) → W p l e (rmK 0) s m args below meth c H locs 0 0 Q (F0 m 72 ls []) := by
          intro kf
          induction kf with
          | zero =>
            intro i Y' H locs ls hm
            exact absurd hm (Nat.not_lt_zero _)
          | succ kf ih72 =>
            intro i Y' H locs ls hm h1 h2 h3 h4 h5 hP hD hS hl
            obtain ⟨q1, q2, q3⟩ := h4 i (Nat.le_refl i)
            have e5 := h5 5 (by decide) (by decide) (by decide)
            refine lv_iload hx hb dX5_startUp_72 (lv_at hl 4 rfl) ?_
            refine lv_aload_n hx hb dX5_startUp_74 rfl (lv_at hl 0 rfl) ?_
            refine va_get (D := D) (ci := 7) (v := .int (nI n)) (C := RX5) (T := TX5) (N := 27) hx hb hts inX5 hown hK hP 0 rfl rfl 1 (by decide) (hts _ wF_X5_71) (fun _ h9 => h9) rfl dX5_startUp_75 ?_
            refine k_icmp_gt (tgt := 216) hx hb i n rfl rfl (by omega) (by omega) dX5_startUp_78 (by decide) (fun c78 => ?_) (fun c78 => ?_)
            · skip
              exact ret Y' _ _ _ _ dX5_startUp_216 hP hD hS ⟨f, hla, (fun j a b => by rw [← hkc]; exact h3 j a (by omega)), h5⟩
            · skip
              refine lv_iload_n hx hb dX5_startUp_81 rfl (lv_at hl 1 rfl) ?_
              refine k_if_ne (tgt := 132) hx hb f rfl (by omega) dX5_startUp_82 (by decide) (fun c82 => ?_) (fun c82 => ?_)
              · skip
                refine lv_aload_n hx hb dX5_startUp_132 rfl (lv_at hl 0 rfl) ?_
                refine va_get (D := D) (ci := 7) (v := .ref (h 4)) (C := RX5) (T := TX5) (N := 27) hx hb hts inX5 hown hK hP 0 rfl rfl 4 (by decide) (hts _ wF_X5_7) (fun _ h9 => h9) rfl dX5_startUp_133 ?_
                refine lv_iload hx hb dX5_startUp_136 (lv_at hl 4 rfl) ?_
                refine k_iald (D := D) (f := Y' 4) hx hb hK hP 1 0 rfl rfl i rfl (by omega) (by omega) dX5_startUp_138 ?_
                refine lv_if_ne (tgt := 161) hx hb dX5_startUp_139 (by decide) (fun c139 => ?_) (fun c139 => ?_)
                · skip
                  refine lv_aload_n hx hb dX5_startUp_161 rfl (lv_at hl 0 rfl) ?_
                  refine va_get (D := D) (ci := 7) (v := .ref (h 4)) (C := RX5) (T := TX5) (N := 27) hx hb hts inX5 hown hK hP 0 rfl rfl 4 (by decide) (hts _ wF_X5_7) (fun _ h9 => h9) rfl dX5_startUp_162 ?_
                  refine lv_iload hx hb dX5_startUp_165 (lv_at hl 4 rfl) ?_
                  refine k_iald (D := D) (f := Y' 4) hx hb hK hP 1 0 rfl rfl i rfl (by omega) (by omega) dX5_startUp_167 ?_
                  refine lv_iconst (v := 1) hx hb dX5_startUp_168 (by decide) ?_
                  refine lv_icmp_ne (tgt := 210) hx hb dX5_startUp_169 (by decide) (fun c169 => ?_) (fun c169 => ?_)
                  · skip
                    refine k_iinc (k := 4) (lv' := [(4, .int (nI (i + 1))), (0, .ref (h 0)), (1, .int (nI f)), (2, .int (nI kc)), (3, .int (Y 6 f))]) hx hb i rfl dX5_startUp_210 hl rfl (by decide) rfl (fun ls hl => ?_)
                    refine lv_goto (tgt := 72) hx hb dX5_startUp_213 (by decide) ?_
                    exact ih72 (i + 1) Y' _ _ _ (by omega) (by omega) (by omega) (sr_step h3 (fun b hb => by first | exact ⟨rfl, rfl, rfl⟩ | simp [sX_app, hb]) (by first | exact sr5 c82 (by rw [← q1]; exact c139) (by rw [← q1]; exact c169) q1 q2 q3 | exact sr0 c82 (by rw [sX_at, hv, e5, q1]) (by simp [sX_app, q2]) (by simp [sX_app, q3]) | exact sr3 c82 (by rw [← q1]; exact c139) (by simp [sX_app]) (by simp [sX_app, q2]) (by simp [sX_app]) | exact sr1 c82 (by rw [← q1]; exact c169) (by rw [← q3]; exact c191) (by simp [sX_app, q1]) (by simp [sX_app, q2]) (by simp [sX_app, q3]) | exact sr2 c82 (by rw [← q1]; exact c169) (by rw [← q3]; exact c191) (by simp [sX_app]) (by simp [sX_app]) (by simp [sX_app, q3]))) (by intro j a; have hj := h4 j (by omega); grind [sX_app]) (by intro a a1 a2 a3; have hj := h5 a a1 a2 a3; grind [sX_ne]) hP hD hS (lv_sub hl [1, 2, 3, 4, 0] rfl)
                  · skip
                    refine lv_aload_n hx hb dX5_startUp_172 rfl (lv_at hl 0 rfl) ?_
                    refine va_get (D := D) (ci := 7) (v := .ref (h 11)) (C := RX5) (T := TX5) (N := 27) hx hb hts inX5 hown hK hP 0 rfl rfl 11 (by decide) (hts _ wF_X5_32) (fun _ h9 => h9) rfl dX5_startUp_173 ?_
                    refine lv_iload hx hb dX5_startUp_176 (lv_at hl 4 rfl) ?_
                    refine lv_dup2_11 hx hb dX5_startUp_178 rfl rfl ?_
                    refine k_iald (D := D) (f := Y' 11) hx hb hK hP 8 0 rfl rfl i rfl (by omega) (by omega) dX5_startUp_179 ?_
                    refine lv_iconst (v := 1) hx hb dX5_startUp_180 (by decide) ?_
                    refine lv_iadd hx hb dX5_startUp_181 ?_
                    refine k_iast (D := D) (f := Y' 11) (ws' := mw h cI cZ sl mi n (sX Y' 11 i ((Y' 11 i) + 1)) th fr wt cy) hx hb hK hP hD hS 8 0 rfl rfl i rfl (by omega) (by omega) rfl dX5_startUp_182 (fun H locs hP hD hS => ?_)
                    refine lv_aload_n hx hb dX5_startUp_183 rfl (lv_at hl 0 rfl) ?_
                    refine va_get (D := D) (ci := 7) (v := .ref (h 11)) (C := RX5) (T := TX5) (N := 27) hx hb hts inX5 hown hK hP 0 rfl rfl 11 (by decide) (hts _ wF_X5_32) (fun _ h9 => h9) rfl dX5_startUp_184 ?_
                    refine lv_iload hx hb dX5_startUp_187 (lv_at hl 4 rfl) ?_
                    refine k_iald (D := D) (f := (sX Y' 11 i ((Y' 11 i) + 1)) 11) hx hb hK hP 8 0 rfl rfl i rfl (by omega) (by omega) dX5_startUp_189 ?_
                    refine k_int (y := ((Y' 11 i) + 1)) sX_at ?_
                    refine lv_iconst (v := 2) hx hb dX5_startUp_190 (by decide) ?_
                    refine lv_icmp_ne (tgt := 210) hx hb dX5_startUp_191 (by decide) (fun c191 => ?_) (fun c191 => ?_)
                    · skip
                      refine k_iinc (k := 4) (lv' := [(4, .int (nI (i + 1))), (0, .ref (h 0)), (1, .int (nI f)), (2, .int (nI kc)), (3, .int (Y 6 f))]) hx hb i rfl dX5_startUp_210 hl rfl (by decide) rfl (fun ls hl => ?_)
                      refine lv_goto (tgt := 72) hx hb dX5_startUp_213 (by decide) ?_
                      exact ih72 (i + 1) (sX Y' 11 i ((Y' 11 i) + 1)) _ _ _ (by omega) (by omega) (by omega) (sr_step h3 (fun b hb => by first | exact ⟨rfl, rfl, rfl⟩ | simp [sX_app, hb]) (by first | exact sr5 c82 (by rw [← q1]; exact c139) (by rw [← q1]; exact c169) q1 q2 q3 | exact sr0 c82 (by rw [sX_at, hv, e5, q1]) (by simp [sX_app, q2]) (by simp [sX_app, q3]) | exact sr3 c82 (by rw [← q1]; exact c139) (by simp [sX_app]) (by simp [sX_app, q2]) (by simp [sX_app]) | exact sr1 c82 (by rw [← q1]; exact c169) (by rw [← q3]; exact c191) (by simp [sX_app, q1]) (by simp [sX_app, q2]) (by simp [sX_app, q3]) | exact sr2 c82 (by rw [← q1]; exact c169) (by rw [← q3]; exact c191) (by simp [sX_app]) (by simp [sX_app]) (by simp [sX_app, q3]))) (by intro j a; have hj := h4 j (by omega); grind [sX_app]) (by intro a a1 a2 a3; have hj := h5 a a1 a2 a3; grind [sX_ne]) hP hD hS (lv_sub hl [1, 2, 3, 4, 0] rfl)
                    · skip
                      refine lv_aload_n hx hb dX5_startUp_194 rfl (lv_at hl 0 rfl) ?_
                      refine va_get (D := D) (ci := 7) (v := .ref (h 4)) (C := RX5) (T := TX5) (N := 27) hx hb hts inX5 hown hK hP 0 rfl rfl 4 (by decide) (hts _ wF_X5_7) (fun _ h9 => h9) rfl dX5_startUp_195 ?_
                      refine lv_iload hx hb dX5_startUp_198 (lv_at hl 4 rfl) ?_
                      refine lv_iconst (v := 2) hx hb dX5_startUp_200 (by decide) ?_
                      refine k_iast (D := D) (f := Y' 4) (ws' := mw h cI cZ sl mi n (sX (sX Y' 11 i ((Y' 11 i) + 1)) 4 i 2) th fr wt cy) hx hb hK hP hD hS 1 0 rfl rfl i rfl (by omega) (by omega) rfl dX5_startUp_201 (fun H locs hP hD hS => ?_)
                      refine lv_aload_n hx hb dX5_startUp_202 rfl (lv_at hl 0 rfl) ?_
                      refine va_get (D := D) (ci := 7) (v := .ref (h 6)) (C := RX5) (T := TX5) (N := 27) hx hb hts inX5 hown hK hP 0 rfl rfl 6 (by decide) (hts _ wF_X5_17) (fun _ h9 => h9) rfl dX5_startUp_203 ?_
                      refine lv_iload hx hb dX5_startUp_206 (lv_at hl 4 rfl) ?_
                      refine lv_iload_n hx hb dX5_startUp_208 rfl (lv_at hl 3 rfl) ?_
                      refine k_iast (D := D) (f := Y' 6) (ws' := mw h cI cZ sl mi n (sX (sX (sX Y' 11 i ((Y' 11 i) + 1)) 4 i 2) 6 i (Y 6 f)) th fr wt cy) hx hb hK hP hD hS 3 0 rfl rfl i rfl (by omega) (by omega) rfl dX5_startUp_209 (fun H locs hP hD hS => ?_)
                      refine k_iinc (k := 4) (lv' := [(4, .int (nI (i + 1))), (0, .ref (h 0)), (1, .int (nI f)), (2, .int (nI kc)), (3, .int (Y 6 f))]) hx hb i rfl dX5_startUp_210 hl rfl (by decide) rfl (fun ls hl => ?_)
                      refine lv_goto (tgt := 72) hx hb dX5_startUp_213 (by decide) ?_
                      exact ih72 (i + 1) (sX (sX (sX Y' 11 i ((Y' 11 i) + 1)) 4 i 2) 6 i (Y 6 f)) _ _ _ (by omega) (by omega) (by omega) (sr_step h3 (fun b hb => by first | exact ⟨rfl, rfl, rfl⟩ | simp [sX_app, hb]) (by first | exact sr5 c82 (by rw [← q1]; exact c139) (by rw [← q1]; exact c169) q1 q2 q3 | exact sr0 c82 (by rw [sX_at, hv, e5, q1]) (by simp [sX_app, q2]) (by simp [sX_app, q3]) | exact sr3 c82 (by rw [← q1]; exact c139) (by simp [sX_app]) (by simp [sX_app, q2]) (by simp [sX_app]) | exact sr1 c82 (by rw [← q1]; exact c169) (by rw [← q3]; exact c191) (by simp [sX_app, q1]) (by simp [sX_app, q2]) (by simp [sX_app, q3]) | exact sr2 c82 (by rw [← q1]; exact c169) (by rw [← q3]; exact c191) (by simp [sX_app]) (by simp [sX_app]) (by simp [sX_app, q3]))) (by intro j a; have hj := h4 j (by omega); grind [sX_app]) (by intro a a1 a2 a3; have hj := h5 a a1 a2 a3; grind [sX_ne]) hP hD hS (lv_sub hl [1, 2, 3, 4, 0] rfl)
                · skip
                  refine lv_aload_n hx hb dX5_startUp_142 rfl (lv_at hl 0 rfl) ?_
                  refine va_get (D := D) (ci := 7) (v := .ref (h 4)) (C := RX5) (T := TX5) (N := 27) hx hb hts inX5 hown hK hP 0 rfl rfl 4 (by decide) (hts _ wF_X5_7) (fun _ h9 => h9) rfl dX5_startUp_143 ?_
                  refine lv_iload hx hb dX5_startUp_146 (lv_at hl 4 rfl) ?_
                  refine lv_iconst (v := 1) hx hb dX5_startUp_148 (by decide) ?_
                  refine k_iast (D := D) (f := Y' 4) (ws' := mw h cI cZ sl mi n (sX Y' 4 i 1) th fr wt cy) hx hb hK hP hD hS 1 0 rfl rfl i rfl (by omega) (by omega) rfl dX5_startUp_149 (fun H locs hP hD hS => ?_)
                  refine lv_aload_n hx hb dX5_startUp_150 rfl (lv_at hl 0 rfl) ?_
                  refine va_get (D := D) (ci := 7) (v := .ref (h 11)) (C := RX5) (T := TX5) (N := 27) hx hb hts inX5 hown hK hP 0 rfl rfl 11 (by decide) (hts _ wF_X5_32) (fun _ h9 => h9) rfl dX5_startUp_151 ?_
                  refine lv_iload hx hb dX5_startUp_154 (lv_at hl 4 rfl) ?_
                  refine lv_iconst (v := 0) hx hb dX5_startUp_156 (by decide) ?_
                  refine k_iast (D := D) (f := Y' 11) (ws' := mw h cI cZ sl mi n (sX (sX Y' 4 i 1) 11 i 0) th fr wt cy) hx hb hK hP hD hS 8 0 rfl rfl i rfl (by omega) (by omega) rfl dX5_startUp_157 (fun H locs hP hD hS => ?_)
                  refine lv_goto (tgt := 210) hx hb dX5_startUp_158 (by decide) ?_
                  refine k_iinc (k := 4) (lv' := [(4, .int (nI (i + 1))), (0, .ref (h 0)), (1, .int (nI f)), (2, .int (nI kc)), (3, .int (Y 6 f))]) hx hb i rfl dX5_startUp_210 hl rfl (by decide) rfl (fun ls hl => ?_)
                  refine lv_goto (tgt := 72) hx hb dX5_startUp_213 (by decide) ?_
                  exact ih72 (i + 1) (sX (sX Y' 4 i 1) 11 i 0) _ _ _ (by omega) (by omega) (by omega) (sr_step h3 (fun b hb => by first | exact ⟨rfl, rfl, rfl⟩ | simp [sX_app, hb]) (by first | exact sr5 c82 (by rw [← q1]; exact c139) (by rw [← q1]; exact c169) q1 q2 q3 | exact sr0 c82 (by rw [sX_at, hv, e5, q1]) (by simp [sX_app, q2]) (by simp [sX_app, q3]) | exact sr3 c82 (by rw [← q1]; exact c139) (by simp [sX_app]) (by simp [sX_app, q2]) (by simp [sX_app]) | exact sr1 c82 (by rw [← q1]; exact c169) (by rw [← q3]; exact c191) (by simp [sX_app, q1]) (by simp [sX_app, q2]) (by simp [sX_app, q3]) | exact sr2 c82 (by rw [← q1]; exact c169) (by rw [← q3]; exact c191) (by simp [sX_app]) (by simp [sX_app]) (by simp [sX_app, q3]))) (by intro j a; have hj := h4 j (by omega); grind [sX_app]) (by intro a a1 a2 a3; have hj := h5 a a1 a2 a3; grind [sX_ne]) hP hD hS (lv_sub hl [1, 2, 3, 4, 0] rfl)
              · skip
                have L128 : ∀ (v : Int32) (ls : Array Slot), (v = if 1 < kc ∧ Y' 5 i ≠ 0 ∧ Y' 4 i < 2 then 2 else Y' 4 i) → (lv_has ls 5 [(0, .ref (h 0)), (1, .int (nI f)), (2, .int (nI kc)), (3, .int (Y 6 f)), (4, .int (nI i))]) → W p l e (rmK 0) s m args below meth c H locs 0 0 Q (F0 m 128 ls [.int v, .int (nI i), .ref (h 4)]) := by
                  intro v ls hv hl
                  refine k_iast (D := D) (f := Y' 4) (ws' := mw h cI cZ sl mi n (sX Y' 4 i v) th fr wt cy) hx hb hK hP hD hS 1 0 rfl rfl i rfl (by omega) (by omega) rfl dX5_startUp_128 (fun H locs hP hD hS => ?_)
                  refine lv_goto (tgt := 210) hx hb dX5_startUp_129 (by decide) ?_
                  refine k_iinc (k := 4) (lv' := [(4, .int (nI (i + 1))), (0, .ref (h 0)), (1, .int (nI f)), (2, .int (nI kc)), (3, .int (Y 6 f))]) hx hb i rfl dX5_startUp_210 hl rfl (by decide) rfl (fun ls hl => ?_)
                  refine lv_goto (tgt := 72) hx hb dX5_startUp_213 (by decide) ?_
                  exact ih72 (i + 1) (sX Y' 4 i v) _ _ _ (by omega) (by omega) (by omega) (sr_step h3 (fun b hb => by first | exact ⟨rfl, rfl, rfl⟩ | simp [sX_app, hb]) (by first | exact sr5 c82 (by rw [← q1]; exact c139) (by rw [← q1]; exact c169) q1 q2 q3 | exact sr0 c82 (by rw [sX_at, hv, e5, q1]) (by simp [sX_app, q2]) (by simp [sX_app, q3]) | exact sr3 c82 (by rw [← q1]; exact c139) (by simp [sX_app]) (by simp [sX_app, q2]) (by simp [sX_app]) | exact sr1 c82 (by rw [← q1]; exact c169) (by rw [← q3]; exact c191) (by simp [sX_app, q1]) (by simp [sX_app, q2]) (by simp [sX_app, q3]) | exact sr2 c82 (by rw [← q1]; exact c169) (by rw [← q3]; exact c191) (by simp [sX_app]) (by simp [sX_app]) (by simp [sX_app, q3]))) (by intro j a; have hj := h4 j (by omega); grind [sX_app]) (by intro a a1 a2 a3; have hj := h5 a a1 a2 a3; grind [sX_ne]) hP hD hS (lv_sub hl [1, 2, 3, 4, 0] rfl)
                refine lv_aload_n hx hb dX5_startUp_85 rfl (lv_at hl 0 rfl) ?_
                refine va_get (D := D) (ci := 7) (v := .ref (h 4)) (C := RX5) (T := TX5) (N := 27) hx hb hts inX5 hown hK hP 0 rfl rfl 4 (by decide) (hts _ wF_X5_7) (fun _ h9 => h9) rfl dX5_startUp_86 ?_
                refine lv_iload hx hb dX5_startUp_89 (lv_at hl 4 rfl) ?_
                refine lv_iload_n hx hb dX5_startUp_91 rfl (lv_at hl 2 rfl) ?_
                refine lv_iconst (v := 1) hx hb dX5_startUp_92 (by decide) ?_
                refine k_icmp_le (tgt := 121) hx hb kc 1 rfl rfl (by omega) (by omega) dX5_startUp_93 (by decide) (fun c93 => ?_) (fun c93 => ?_)
                · skip
                  refine lv_aload_n hx hb dX5_startUp_121 rfl (lv_at hl 0 rfl) ?_
                  refine va_get (D := D) (ci := 7) (v := .ref (h 4)) (C := RX5) (T := TX5) (N := 27) hx hb hts inX5 hown hK hP 0 rfl rfl 4 (by decide) (hts _ wF_X5_7) (fun _ h9 => h9) rfl dX5_startUp_122 ?_
                  refine lv_iload hx hb dX5_startUp_125 (lv_at hl 4 rfl) ?_
                  refine k_iald (D := D) (f := Y' 4) hx hb hK hP 1 0 rfl rfl i rfl (by omega) (by omega) dX5_startUp_127 ?_
                  exact L128 (Y' 4 i) _ (by first | exact ite_n (fun z => absurd z.1 (by omega)) | exact ite_n (fun z => z.2.1 c103) | exact ite_n (fun z => absurd z.2.2 (i32_nle c114)) | exact ite_p ⟨c93, c103, Int32.not_le.mp c114⟩) (lv_sub hl [0, 1, 2, 3, 4] rfl)
                · skip
                  refine lv_aload_n hx hb dX5_startUp_96 rfl (lv_at hl 0 rfl) ?_
                  refine va_get (D := D) (ci := 7) (v := .ref (h 5)) (C := RX5) (T := TX5) (N := 27) hx hb hts inX5 hown hK hP 0 rfl rfl 5 (by decide) (hts _ wF_X5_13) (fun _ h9 => h9) rfl dX5_startUp_97 ?_
                  refine lv_iload hx hb dX5_startUp_100 (lv_at hl 4 rfl) ?_
                  refine k_zald (D := D) (f := Y' 5) hx hb hK hP 2 1 rfl rfl i rfl (by omega) (by omega) dX5_startUp_102 ?_
                  refine lv_if_eq (tgt := 121) hx hb dX5_startUp_103 (by decide) (fun c103 => ?_) (fun c103 => ?_)
                  · skip
                    refine lv_aload_n hx hb dX5_startUp_121 rfl (lv_at hl 0 rfl) ?_
                    refine va_get (D := D) (ci := 7) (v := .ref (h 4)) (C := RX5) (T := TX5) (N := 27) hx hb hts inX5 hown hK hP 0 rfl rfl 4 (by decide) (hts _ wF_X5_7) (fun _ h9 => h9) rfl dX5_startUp_122 ?_
                    refine lv_iload hx hb dX5_startUp_125 (lv_at hl 4 rfl) ?_
                    refine k_iald (D := D) (f := Y' 4) hx hb hK hP 1 0 rfl rfl i rfl (by omega) (by omega) dX5_startUp_127 ?_
                    exact L128 (Y' 4 i) _ (by first | exact ite_n (fun z => absurd z.1 (by omega)) | exact ite_n (fun z => z.2.1 c103) | exact ite_n (fun z => absurd z.2.2 (i32_nle c114)) | exact ite_p ⟨c93, c103, Int32.not_le.mp c114⟩) (lv_sub hl [0, 1, 2, 3, 4] rfl)
                  · skip
                    refine lv_aload_n hx hb dX5_startUp_106 rfl (lv_at hl 0 rfl) ?_
                    refine va_get (D := D) (ci := 7) (v := .ref (h 4)) (C := RX5) (T := TX5) (N := 27) hx hb hts inX5 hown hK hP 0 rfl rfl 4 (by decide) (hts _ wF_X5_7) (fun _ h9 => h9) rfl dX5_startUp_107 ?_
                    refine lv_iload hx hb dX5_startUp_110 (lv_at hl 4 rfl) ?_
                    refine k_iald (D := D) (f := Y' 4) hx hb hK hP 1 0 rfl rfl i rfl (by omega) (by omega) dX5_startUp_112 ?_
                    refine lv_iconst (v := 2) hx hb dX5_startUp_113 (by decide) ?_
                    refine lv_icmp_ge (tgt := 121) hx hb dX5_startUp_114 (by decide) (fun c114 => ?_) (fun c114 => ?_)
                    · skip
                      refine lv_aload_n hx hb dX5_startUp_121 rfl (lv_at hl 0 rfl) ?_
                      refine va_get (D := D) (ci := 7) (v := .ref (h 4)) (C := RX5) (T := TX5) (N := 27) hx hb hts inX5 hown hK hP 0 rfl rfl 4 (by decide) (hts _ wF_X5_7) (fun _ h9 => h9) rfl dX5_startUp_122 ?_
                      refine lv_iload hx hb dX5_startUp_125 (lv_at hl 4 rfl) ?_
                      refine k_iald (D := D) (f := Y' 4) hx hb hK hP 1 0 rfl rfl i rfl (by omega) (by omega) dX5_startUp_127 ?_
                      exact L128 (Y' 4 i) _ (by first | exact ite_n (fun z => absurd z.1 (by omega)) | exact ite_n (fun z => z.2.1 c103) | exact ite_n (fun z => absurd z.2.2 (i32_nle c114)) | exact ite_p ⟨c93, c103, Int32.not_le.mp c114⟩) (lv_sub hl [0, 1, 2, 3, 4] rfl)
                    · skip
                      refine lv_iconst (v := 2) hx hb dX5_startUp_117 (by decide) ?_
                      refine lv_goto (tgt := 128) hx hb dX5_startUp_118 (by decide) ?_
                      exact L128 2 _ (by first | exact ite_n (fun z => absurd z.1 (by omega)) | exact ite_n (fun z => z.2.1 c103) | exact ite_n (fun z => absurd z.2.2 (i32_nle c114)) | exact ite_p ⟨c93, c103, Int32.not_le.mp c114⟩) (lv_sub hl [0, 1, 2, 3, 4] rfl)
        exact L72 ((n + 1 - 1) + 1) 1 Y _ _ _ (Nat.lt_succ_self _) (Nat.le_refl 1) (by omega) (fun j a b => absurd b (by omega)) (fun _ _ => ⟨rfl, rfl, rfl⟩) (fun _ _ _ _ => rfl) hP hD hS (lv_sub hl [2, 3, 4, 1, 0] rfl)
      · skip
        have L28 : ∀ (f2 : Nat) (ls : Array Slot), (isLD (Y 4) (i - 1) n f2) → (lv_has ls 5 [(0, .ref (h 0)), (2, .int (nI kc)), (3, .int (nI i))]) → W p l e (rmK 0) s m args below meth c s.heap [] 0 0 Q (F0 m 28 ls [.int (nI f2)]) := by
          intro f2 ls hf2 hl
          refine lv_istore_n (lv' := [(1, .int (nI f2)), (0, .ref (h 0)), (2, .int (nI kc)), (3, .int (nI i))]) hx hb dX5_startUp_28 rfl hl (by decide) rfl (fun ls hl => ?_)
          refine lv_iload_n hx hb dX5_startUp_29 rfl (lv_at hl 2 rfl) ?_
          refine lv_aload_n hx hb dX5_startUp_30 rfl (lv_at hl 1 rfl) ?_
          refine va_get (D := D) (ci := 7) (v := .ref (h 5)) (C := RX5) (T := TX5) (N := 27) hx hb hts inX5 hown hK hP 0 rfl rfl 5 (by decide) (hts _ wF_X5_13) (fun _ h9 => h9) rfl dX5_startUp_31 ?_
          refine lv_iload_n hx hb dX5_startUp_34 rfl (lv_at hl 3 rfl) ?_
          refine k_zald (D := D) (f := Y 5) hx hb hK hP 2 1 rfl rfl i rfl (by omega) (by omega) dX5_startUp_35 ?_
          refine lv_if_eq (tgt := 53) hx hb dX5_startUp_36 (by decide) (fun c36 => ?_) (fun c36 => ?_)
          · skip
            refine lv_iconst (v := 0) hx hb dX5_startUp_53 (by decide) ?_
            refine k_iadd hx hb kc 0 rfl rfl dX5_startUp_54 ?_
            refine lv_istore_n (lv' := [(2, .int (nI (kc + 0))), (1, .int (nI f2)), (0, .ref (h 0)), (3, .int (nI i))]) hx hb dX5_startUp_55 rfl hl (by decide) rfl (fun ls hl => ?_)
            refine k_idec (k := 3) (lv' := [(3, .int (nI (i - 1))), (2, .int (nI (kc + 0))), (1, .int (nI f2)), (0, .ref (h 0))]) hx hb (i - 1) (by rw [Nat.sub_add_cancel c10]) dX5_startUp_56 hl rfl (by decide) rfl (fun ls hl => ?_)
            refine lv_goto (tgt := 9) hx hb dX5_startUp_59 (by decide) ?_
            exact ih9 (i - 1) f2 (kc + 0) _ (by omega) (by omega) hf2 (by rw [Nat.sub_add_cancel c10]; first | (have e9 := nSr_t (st := Y 4) (co := Y 5) c10 c36 c46; omega) | (have e9 := nSr_f (st := Y 4) (co := Y 5) (i := i) (Or.inl c36); omega) | (have e9 := nSr_f (st := Y 4) (co := Y 5) (i := i) (Or.inr c46); omega)) (lv_sub hl [3, 2, 1, 0] rfl)
          · skip
            refine lv_aload_n hx hb dX5_startUp_39 rfl (lv_at hl 1 rfl) ?_
            refine va_get (D := D) (ci := 7) (v := .ref (h 4)) (C := RX5) (T := TX5) (N := 27) hx hb hts inX5 hown hK hP 0 rfl rfl 4 (by decide) (hts _ wF_X5_7) (fun _ h9 => h9) rfl dX5_startUp_40 ?_
            refine lv_iload_n hx hb dX5_startUp_43 rfl (lv_at hl 3 rfl) ?_
            refine k_iald (D := D) (f := Y 4) hx hb hK hP 1 0 rfl rfl i rfl (by omega) (by omega) dX5_startUp_44 ?_
            refine lv_iconst (v := 2) hx hb dX5_startUp_45 (by decide) ?_
            refine lv_icmp_ge (tgt := 53) hx hb dX5_startUp_46 (by decide) (fun c46 => ?_) (fun c46 => ?_)
            · skip
              refine lv_iconst (v := 0) hx hb dX5_startUp_53 (by decide) ?_
              refine k_iadd hx hb kc 0 rfl rfl dX5_startUp_54 ?_
              refine lv_istore_n (lv' := [(2, .int (nI (kc + 0))), (1, .int (nI f2)), (0, .ref (h 0)), (3, .int (nI i))]) hx hb dX5_startUp_55 rfl hl (by decide) rfl (fun ls hl => ?_)
              refine k_idec (k := 3) (lv' := [(3, .int (nI (i - 1))), (2, .int (nI (kc + 0))), (1, .int (nI f2)), (0, .ref (h 0))]) hx hb (i - 1) (by rw [Nat.sub_add_cancel c10]) dX5_startUp_56 hl rfl (by decide) rfl (fun ls hl => ?_)
              refine lv_goto (tgt := 9) hx hb dX5_startUp_59 (by decide) ?_
              exact ih9 (i - 1) f2 (kc + 0) _ (by omega) (by omega) hf2 (by rw [Nat.sub_add_cancel c10]; first | (have e9 := nSr_t (st := Y 4) (co := Y 5) c10 c36 c46; omega) | (have e9 := nSr_f (st := Y 4) (co := Y 5) (i := i) (Or.inl c36); omega) | (have e9 := nSr_f (st := Y 4) (co := Y 5) (i := i) (Or.inr c46); omega)) (lv_sub hl [3, 2, 1, 0] rfl)
            · skip
              refine lv_iconst (v := 1) hx hb dX5_startUp_49 (by decide) ?_
              refine lv_goto (tgt := 54) hx hb dX5_startUp_50 (by decide) ?_
              refine k_iadd hx hb kc 1 rfl rfl dX5_startUp_54 ?_
              refine lv_istore_n (lv' := [(2, .int (nI (kc + 1))), (1, .int (nI f2)), (0, .ref (h 0)), (3, .int (nI i))]) hx hb dX5_startUp_55 rfl hl (by decide) rfl (fun ls hl => ?_)
              refine k_idec (k := 3) (lv' := [(3, .int (nI (i - 1))), (2, .int (nI (kc + 1))), (1, .int (nI f2)), (0, .ref (h 0))]) hx hb (i - 1) (by rw [Nat.sub_add_cancel c10]) dX5_startUp_56 hl rfl (by decide) rfl (fun ls hl => ?_)
              refine lv_goto (tgt := 9) hx hb dX5_startUp_59 (by decide) ?_
              exact ih9 (i - 1) f2 (kc + 1) _ (by omega) (by omega) hf2 (by rw [Nat.sub_add_cancel c10]; first | (have e9 := nSr_t (st := Y 4) (co := Y 5) c10 c36 c46; omega) | (have e9 := nSr_f (st := Y 4) (co := Y 5) (i := i) (Or.inl c36); omega) | (have e9 := nSr_f (st := Y 4) (co := Y 5) (i := i) (Or.inr c46); omega)) (lv_sub hl [3, 2, 1, 0] rfl)
        refine lv_aload_n hx hb dX5_startUp_13 rfl (lv_at hl 0 rfl) ?_
        refine va_get (D := D) (ci := 7) (v := .ref (h 4)) (C := RX5) (T := TX5) (N := 27) hx hb hts inX5 hown hK hP 0 rfl rfl 4 (by decide) (hts _ wF_X5_7) (fun _ h9 => h9) rfl dX5_startUp_14 ?_
        refine lv_iload_n hx hb dX5_startUp_17 rfl (lv_at hl 3 rfl) ?_
        refine k_iald (D := D) (f := Y 4) hx hb hK hP 1 0 rfl rfl i rfl (by omega) (by omega) dX5_startUp_18 ?_
        refine lv_iconst (v := 2) hx hb dX5_startUp_19 (by decide) ?_
        refine lv_icmp_ne (tgt := 27) hx hb dX5_startUp_20 (by decide) (fun c20 => ?_) (fun c20 => ?_)
        · skip
          refine lv_iload_n hx hb dX5_startUp_27 rfl (lv_at hl 1 rfl) ?_
          exact L28 f _ (by first | exact ld_set c10 h2 c20 | exact ld_keep c10 h3 c20) (lv_sub hl [0, 2, 3] rfl)
        · skip
          refine lv_iload_n hx hb dX5_startUp_23 rfl (lv_at hl 3 rfl) ?_
          refine lv_goto (tgt := 28) hx hb dX5_startUp_24 (by decide) ?_
          exact L28 i _ (by first | exact ld_set c10 h2 c20 | exact ld_keep c10 h3 c20) (lv_sub hl [0, 2, 3] rfl)
  exact L9 (n + 1) n 0 0 _ (Nat.lt_succ_self _) (Nat.le_refl _) (Or.inl ⟨rfl, fun j a b => absurd a (by omega)⟩) (Nat.zero_add _) (lv_sub hl [3, 2, 1, 0] rfl)
set_option maxHeartbeats 4000000 in
set_option maxRecDepth 100000 in
theorem c_X5_sendStatic {l : Launch} {D : va_G} {cI cZ cL : ClassId} {h : Nat → Nat} {sl mi n : Nat} {Y : Nat → Nat → Int32} {th fr wt cy : Nat} (hn : n ≤ 16) (hs : fr ≤ 100) (hsl : sl ≤ 60) (hF : FrI (Y 16) (Y 17) n sl fr) (hE : ∀ i, i < fr → isEv (Y 20 i)) : KI l yX5_sendStatic (.code yX5_sendStatic cX5_sendStatic 5 (some .int)) 0 D (tyz cI cZ cL) [.ref (h 0)] (mw h cI cZ sl mi n Y th fr wt cy) (fun r u => r = nI (cnz (fun i => decide (Dn (fun i => decide (rmd (nI cy) (Y 20 i) = Y 19 i)) (Y 4) (Y 16) (Y 17) (Y 18) (Y 25) i)) fr) ∧ (∀ j, 1 ≤ j → j ≤ n → (u 12 j ≠ 0 ↔ ∃ i, i < fr ∧ Dn (fun i => decide (rmd (nI cy) (Y 20 i) = Y 19 i)) (Y 4) (Y 16) (Y 17) (Y 18) (Y 25) i ∧ (Y 16 i).toNatClampNeg = j)) ∧ ∀ a, a ≠ 12 → u a = Y a) (fun u : Nat → Nat → Int32 => mw h cI cZ sl mi n u th fr wt cy) := by
  refine KI.of (own := RX5) (lvs := [(0, .ref (h 0))]) (by decide) rfl (Nat.le_of_ble_eq_true rfl) rfl ?_
  intro p e s m args below meth c Q C hK hN A hA hP hD hS ret ls hl
  obtain ⟨hx, hb, hml, hown, hts, hr9, hlk9⟩ := id C
  refine lv_iconst (v := 0) hx hb dX5_sendStatic_0 (by decide) ?_
  refine lv_istore_n (lv' := [(1, .int 0), (0, .ref (h 0))]) hx hb dX5_sendStatic_1 rfl hl (by decide) rfl (fun ls hl => ?_)
  refine lv_iconst (v := 1) hx hb dX5_sendStatic_2 (by decide) ?_
  refine lv_istore_n (lv' := [(2, .int 1), (1, .int 0), (0, .ref (h 0))]) hx hb dX5_sendStatic_3 rfl hl (by decide) rfl (fun ls hl => ?_)
  have L4 : ∀ (kf : Nat) (i : Nat) (Y' : Nat → Nat → Int32) (H : Heap) (locs : List Loc) (ls : Array Slot), (n + 1 - i < kf) → (1 ≤ i) → (i ≤ n + 1) → (∀ j, 1 ≤ j → j < i → Y' 12 j = 0) → (∀ a, a ≠ 12 → Y' a = Y a) → (va_P D vwCl (mw h cI cZ sl mi n Y' th fr wt cy) H) → (va_D A (mw h cI cZ sl mi n Y' th fr wt cy)) → (va_S A s.heap H locs) → (lv_has ls 5 [(0, .ref (h 0)), (1, .int 0), (2, .int (nI i))]) → W p l e (rmK 0) s m args below meth c H locs 0 0 Q (F0 m 4 ls []) := by
    intro kf
    induction kf with
    | zero =>
      intro i Y' H locs ls hm
      exact absurd hm (Nat.not_lt_zero _)
    | succ kf ih4 =>
      intro i Y' H locs ls hm h1 h2 h3 h5 hP hD hS hl
      refine lv_iload_n hx hb dX5_sendStatic_4 rfl (lv_at hl 2 rfl) ?_
      refine lv_aload_n hx hb dX5_sendStatic_5 rfl (lv_at hl 0 rfl) ?_
      refine va_get (D := D) (ci := 7) (v := .int (nI n)) (C := RX5) (T := TX5) (N := 27) hx hb hts inX5 hown hK hP 0 rfl rfl 1 (by decide) (hts _ wF_X5_71) (fun _ h9 => h9) rfl dX5_sendStatic_6 ?_
      refine k_icmp_gt (tgt := 25) hx hb i n rfl rfl (by omega) (by omega) dX5_sendStatic_9 (by decide) (fun c9 => ?_) (fun c9 => ?_)
      · skip
        refine lv_iconst (v := 0) hx hb dX5_sendStatic_25 (by decide) ?_
        refine lv_istore_n (lv' := [(2, .int 0), (0, .ref (h 0)), (1, .int 0)]) hx hb dX5_sendStatic_26 rfl hl (by decide) rfl (fun ls hl => ?_)
        have L27 : ∀ (kf : Nat) (i : Nat) (f : Nat) (Z : Nat → Nat → Int32) (H : Heap) (locs : List Loc) (ls : Array Slot), (fr - i < kf) → (i ≤ fr) → (f = cnz (fun i => decide (Dn (fun i => decide (rmd (nI cy) (Y 20 i) = Y 19 i)) (Y 4) (Y 16) (Y 17) (Y 18) (Y 25) i)) i) → (∀ j, 1 ≤ j → j ≤ n → (Z 12 j ≠ 0 ↔ ∃ k, k < i ∧ Dn (fun i => decide (rmd (nI cy) (Y 20 i) = Y 19 i)) (Y 4) (Y 16) (Y 17) (Y 18) (Y 25) k ∧ (Y 16 k).toNatClampNeg = j)) → (∀ a, a ≠ 12 → Z a = Y a) → (va_P D vwCl (mw h cI cZ sl mi n Z th fr wt cy) H) → (va_D A (mw h cI cZ sl mi n Z th fr wt cy)) → (va_S A s.heap H locs) → (lv_has ls 5 [(0, .ref (h 0)), (1, .int (nI f)), (2, .int (nI i))]) → W p l e (rmK 0) s m args below meth c H locs 0 0 Q (F0 m 27 ls []) := by
          intro kf
          induction kf with
          | zero =>
            intro i f Z H locs ls hm
            exact absurd hm (Nat.not_lt_zero _)
          | succ kf ih27 =>
            intro i f Z H locs ls hm g2 g3 g4 g5 hP hD hS hl
            refine lv_iload_n hx hb dX5_sendStatic_27 rfl (lv_at hl 2 rfl) ?_
            refine lv_aload_n hx hb dX5_sendStatic_28 rfl (lv_at hl 0 rfl) ?_
            refine va_get (D := D) (ci := 7) (v := .int (nI fr)) (C := RX5) (T := TX5) (N := 27) hx hb hts inX5 hown hK hP 0 rfl rfl 15 (by decide) (hts _ wF_X5_91) (fun _ h9 => h9) rfl dX5_sendStatic_29 ?_
            refine k_icmp_ge (tgt := 123) hx hb i fr rfl rfl (by omega) (by omega) dX5_sendStatic_32 (by decide) (fun c32 => ?_) (fun c32 => ?_)
            · skip
              refine lv_iload_n hx hb dX5_sendStatic_123 rfl (lv_at hl 1 rfl) ?_
              exact ret _ Z _ _ _ _ dX5_sendStatic_124 hP hD hS (by have e9 : i = fr := (by omega); subst e9; exact ⟨by rw [g3], g4, g5⟩)
            · skip
              obtain ⟨⟨jn, hj1, hj2, hje⟩, qn, hq1, hqe⟩ : (∃ j : Nat, 1 ≤ j ∧ j ≤ n ∧ Y 16 i = nI j) ∧ ∃ q : Nat, q < sl ∧ Y 17 i = nI q := ⟨inR_of (hF i c32).1, (hF i c32).2⟩
              have e4 : Z 4 = Y 4 := g5 4 (by decide)
              have e16 : Z 16 = Y 16 := g5 16 (by decide)
              have e17 : Z 17 = Y 17 := g5 17 (by decide)
              have e18 : Z 18 = Y 18 := g5 18 (by decide)
              have e19 : Z 19 = Y 19 := g5 19 (by decide)
              have e20 : Z 20 = Y 20 := g5 20 (by decide)
              have e25 : Z 25 = Y 25 := g5 25 (by decide)
              refine lv_aload_n hx hb dX5_sendStatic_35 rfl (lv_at hl 0 rfl) ?_
              refine va_get (D := D) (ci := 7) (v := .ref (h 16)) (C := RX5) (T := TX5) (N := 27) hx hb hts inX5 hown hK hP 0 rfl rfl 16 (by decide) (hts _ wF_X5_44) (fun _ h9 => h9) rfl dX5_sendStatic_36 ?_
              refine lv_iload_n hx hb dX5_sendStatic_39 rfl (lv_at hl 2 rfl) ?_
              refine k_iald (D := D) (f := Z 16) hx hb hK hP 12 0 rfl rfl i rfl (by omega) (by omega) dX5_sendStatic_40 ?_
              refine k_int (y := (nI jn)) (by rw [e16]; exact hje) ?_
              refine lv_istore_n (lv' := [(3, .int (nI jn)), (0, .ref (h 0)), (1, .int (nI f)), (2, .int (nI i))]) hx hb dX5_sendStatic_41 rfl hl (by decide) rfl (fun ls hl => ?_)
              have L77 : ∀ (q6 : Int32) (ls : Array Slot), (q6 = if (Y 4 jn = 2 ∧ rmd (nI cy) (Y 20 i) = Y 19 i) then 1 else 0) → (lv_has ls 5 [(0, .ref (h 0)), (1, .int (nI f)), (2, .int (nI i)), (3, .int (nI jn))]) → W p l e (rmK 0) s m args below meth c H locs 0 0 Q (F0 m 77 ls [.int q6]) := by
                intro q6 ls h6 hl
                subst h6
                refine lv_istore (lv' := [(4, .int (if Y 4 jn = 2 ∧ rmd (nI cy) (Y 20 i) = Y 19 i then 1 else 0)), (0, .ref (h 0)), (1, .int (nI f)), (2, .int (nI i)), (3, .int (nI jn))]) hx hb dX5_sendStatic_77 hl (by decide) rfl (fun ls hl => ?_)
                refine lv_iload hx hb dX5_sendStatic_79 (lv_at hl 0 rfl) ?_
                refine k_ifeq_P (P := (Y 4 jn = 2 ∧ rmd (nI cy) (Y 20 i) = Y 19 i)) (tgt := 117) hx hb rfl dX5_sendStatic_81 (by decide) (fun c81 => ?_) (fun c81 => ?_)
                · skip
                  have hd : ¬ Dn (fun i => decide (rmd (nI cy) (Y 20 i) = Y 19 i)) (Y 4) (Y 16) (Y 17) (Y 18) (Y 25) i := fun z => c81 ⟨by have := z.1.1; rwa [hje, nI_clamp (by omega)] at this, of_decide_eq_true z.1.2⟩
                  refine k_iinc (k := 3) (lv' := [(2, .int (nI (i + 1))), (4, .int (if Y 4 jn = 2 ∧ rmd (nI cy) (Y 20 i) = Y 19 i then 1 else 0)), (0, .ref (h 0)), (1, .int (nI f)), (3, .int (nI jn))]) hx hb i rfl dX5_sendStatic_117 hl rfl (by decide) rfl (fun ls hl => ?_)
                  refine lv_goto (tgt := 27) hx hb dX5_sendStatic_120 (by decide) ?_
                  exact ih27 (i + 1) f Z _ _ _ (by omega) (by omega) (by subst g3; first | exact (cnz_f (decide_eq_false hd)).symm | exact (cnz_t (decide_eq_true hd)).symm) (by first | exact sn_keep g4 hd | exact sn_set g4 hd (by rw [hje]; exact nI_clamp (by omega))) (by first | exact g5 | exact fun a ha => by rw [sX_ne ha]; exact g5 a ha) hP hD hS (lv_sub hl [2, 3, 0] rfl)
                · skip
                  refine lv_aload_n hx hb dX5_sendStatic_84 rfl (lv_at hl 1 rfl) ?_
                  refine va_get (D := D) (ci := 7) (v := .ref (h 18)) (C := RX5) (T := TX5) (N := 27) hx hb hts inX5 hown hK hP 0 rfl rfl 18 (by decide) (hts _ wF_X5_50) (fun _ h9 => h9) rfl dX5_sendStatic_85 ?_
                  refine lv_iload_n hx hb dX5_sendStatic_88 rfl (lv_at hl 3 rfl) ?_
                  refine k_iald (D := D) (f := Z 18) hx hb hK hP 14 0 rfl rfl i rfl (by omega) (by omega) dX5_sendStatic_89 ?_
                  refine lv_aload_n hx hb dX5_sendStatic_90 rfl (lv_at hl 1 rfl) ?_
                  refine va_get (D := D) (ci := 7) (v := .ref (h 25)) (C := RX5) (T := TX5) (N := 27) hx hb hts inX5 hown hK hP 0 rfl rfl 25 (by decide) (hts _ wF_X5_68) (fun _ h9 => h9) rfl dX5_sendStatic_91 ?_
                  refine lv_aload_n hx hb dX5_sendStatic_94 rfl (lv_at hl 1 rfl) ?_
                  refine va_get (D := D) (ci := 7) (v := .ref (h 17)) (C := RX5) (T := TX5) (N := 27) hx hb hts inX5 hown hK hP 0 rfl rfl 17 (by decide) (hts _ wF_X5_47) (fun _ h9 => h9) rfl dX5_sendStatic_95 ?_
                  refine lv_iload_n hx hb dX5_sendStatic_98 rfl (lv_at hl 3 rfl) ?_
                  refine k_iald (D := D) (f := Z 17) hx hb hK hP 13 0 rfl rfl i rfl (by omega) (by omega) dX5_sendStatic_99 ?_
                  refine k_int (y := (nI qn)) (by rw [e17]; exact hqe) ?_
                  refine k_iald (D := D) (f := Z 25) hx hb hK hP 20 0 rfl rfl qn rfl (by omega) (by omega) dX5_sendStatic_100 ?_
                  refine lv_iconst (v := (-1)) hx hb dX5_sendStatic_101 (by decide) ?_
                  refine lv_ixor hx hb dX5_sendStatic_102 ?_
                  refine lv_iand hx hb dX5_sendStatic_103 ?_
                  refine lv_if_eq (tgt := 117) hx hb dX5_sendStatic_104 (by decide) (fun c104 => ?_) (fun c104 => ?_)
                  · skip
                    rw [e18, e25] at c104
                    have hd : ¬ Dn (fun i => decide (rmd (nI cy) (Y 20 i) = Y 19 i)) (Y 4) (Y 16) (Y 17) (Y 18) (Y 25) i := fun z => z.2 (by rw [hqe, nI_clamp (by omega)]; exact c104)
                    refine k_iinc (k := 3) (lv' := [(2, .int (nI (i + 1))), (4, .int (if Y 4 jn = 2 ∧ rmd (nI cy) (Y 20 i) = Y 19 i then 1 else 0)), (0, .ref (h 0)), (1, .int (nI f)), (3, .int (nI jn))]) hx hb i rfl dX5_sendStatic_117 hl rfl (by decide) rfl (fun ls hl => ?_)
                    refine lv_goto (tgt := 27) hx hb dX5_sendStatic_120 (by decide) ?_
                    exact ih27 (i + 1) f Z _ _ _ (by omega) (by omega) (by subst g3; first | exact (cnz_f (decide_eq_false hd)).symm | exact (cnz_t (decide_eq_true hd)).symm) (by first | exact sn_keep g4 hd | exact sn_set g4 hd (by rw [hje]; exact nI_clamp (by omega))) (by first | exact g5 | exact fun a ha => by rw [sX_ne ha]; exact g5 a ha) hP hD hS (lv_sub hl [2, 3, 0] rfl)
                  · skip
                    rw [e18, e25] at c104
                    have hd : Dn (fun i => decide (rmd (nI cy) (Y 20 i) = Y 19 i)) (Y 4) (Y 16) (Y 17) (Y 18) (Y 25) i := ⟨⟨by rw [hje, nI_clamp (by omega)]; exact c81.1, decide_eq_true c81.2⟩, by rw [hqe, nI_clamp (by omega)]; exact c104⟩
                    refine lv_aload_n hx hb dX5_sendStatic_107 rfl (lv_at hl 1 rfl) ?_
                    refine va_get (D := D) (ci := 7) (v := .ref (h 12)) (C := RX5) (T := TX5) (N := 27) hx hb hts inX5 hown hK hP 0 rfl rfl 12 (by decide) (hts _ wF_X5_35) (fun _ h9 => h9) rfl dX5_sendStatic_108 ?_
                    refine lv_iload_n hx hb dX5_sendStatic_111 rfl (lv_at hl 4 rfl) ?_
                    refine lv_iconst (v := 1) hx hb dX5_sendStatic_112 (by decide) ?_
                    refine k_zast (D := D) (f := Z 12) (ws' := mw h cI cZ sl mi n (sX Z 12 jn 1) th fr wt cy) hx hb hK hP hD hS 9 1 rfl rfl jn rfl (by omega) (by omega) rfl rfl dX5_sendStatic_113 (fun H locs hP hD hS => ?_)
                    refine k_iinc (k := 2) (lv' := [(1, .int (nI (f + 1))), (4, .int (if Y 4 jn = 2 ∧ rmd (nI cy) (Y 20 i) = Y 19 i then 1 else 0)), (0, .ref (h 0)), (2, .int (nI i)), (3, .int (nI jn))]) hx hb f rfl dX5_sendStatic_114 hl rfl (by decide) rfl (fun ls hl => ?_)
                    refine k_iinc (k := 3) (lv' := [(2, .int (nI (i + 1))), (1, .int (nI (f + 1))), (4, .int (if Y 4 jn = 2 ∧ rmd (nI cy) (Y 20 i) = Y 19 i then 1 else 0)), (0, .ref (h 0)), (3, .int (nI jn))]) hx hb i rfl dX5_sendStatic_117 hl rfl (by decide) rfl (fun ls hl => ?_)
                    refine lv_goto (tgt := 27) hx hb dX5_sendStatic_120 (by decide) ?_
                    exact ih27 (i + 1) (f + 1) (sX Z 12 jn 1) _ _ _ (by omega) (by omega) (by subst g3; first | exact (cnz_f (decide_eq_false hd)).symm | exact (cnz_t (decide_eq_true hd)).symm) (by first | exact sn_keep g4 hd | exact sn_set g4 hd (by rw [hje]; exact nI_clamp (by omega))) (by first | exact g5 | exact fun a ha => by rw [sX_ne ha]; exact g5 a ha) hP hD hS (lv_sub hl [3, 1, 0] rfl)
              refine lv_aload_n hx hb dX5_sendStatic_42 rfl (lv_at hl 1 rfl) ?_
              refine va_get (D := D) (ci := 7) (v := .ref (h 4)) (C := RX5) (T := TX5) (N := 27) hx hb hts inX5 hown hK hP 0 rfl rfl 4 (by decide) (hts _ wF_X5_7) (fun _ h9 => h9) rfl dX5_sendStatic_43 ?_
              refine lv_iload_n hx hb dX5_sendStatic_46 rfl (lv_at hl 0 rfl) ?_
              refine k_iald (D := D) (f := Z 4) hx hb hK hP 1 0 rfl rfl jn rfl (by omega) (by omega) dX5_sendStatic_47 ?_
              refine lv_iconst (v := 2) hx hb dX5_sendStatic_48 (by decide) ?_
              refine lv_icmp_ne (tgt := 76) hx hb dX5_sendStatic_49 (by decide) (fun c49 => ?_) (fun c49 => ?_)
              · skip
                rw [e4] at c49
                refine lv_iconst (v := 0) hx hb dX5_sendStatic_76 (by decide) ?_
                exact L77 0 _ (by first | exact ite_p ⟨c49, c69⟩ | exact ite_n (fun z => c49 z.1) | exact ite_n (fun z => c69 z.2)) (lv_sub hl [1, 2, 3, 0] rfl)
              · skip
                rw [e4] at c49
                refine lv_aload_n hx hb dX5_sendStatic_52 rfl (lv_at hl 1 rfl) ?_
                refine va_get (D := D) (ci := 7) (v := .int (nI cy)) (C := RX5) (T := TX5) (N := 27) hx hb hts inX5 hown hK hP 0 rfl rfl 26 (by decide) (hts _ wF_X5_97) (fun _ h9 => h9) rfl dX5_sendStatic_53 ?_
                refine lv_aload_n hx hb dX5_sendStatic_56 rfl (lv_at hl 1 rfl) ?_
                refine va_get (D := D) (ci := 7) (v := .ref (h 20)) (C := RX5) (T := TX5) (N := 27) hx hb hts inX5 hown hK hP 0 rfl rfl 20 (by decide) (hts _ wF_X5_56) (fun _ h9 => h9) rfl dX5_sendStatic_57 ?_
                refine lv_iload_n hx hb dX5_sendStatic_60 rfl (lv_at hl 3 rfl) ?_
                refine k_iald (D := D) (f := Z 20) hx hb hK hP 16 0 rfl rfl i rfl (by omega) (by omega) dX5_sendStatic_61 ?_
                refine lv_irem hx hb dX5_sendStatic_62 (by rw [e20]; exact ev_ne (hE i c32)) ?_
                refine lv_aload_n hx hb dX5_sendStatic_63 rfl (lv_at hl 1 rfl) ?_
                refine va_get (D := D) (ci := 7) (v := .ref (h 19)) (C := RX5) (T := TX5) (N := 27) hx hb hts inX5 hown hK hP 0 rfl rfl 19 (by decide) (hts _ wF_X5_53) (fun _ h9 => h9) rfl dX5_sendStatic_64 ?_
                refine lv_iload_n hx hb dX5_sendStatic_67 rfl (lv_at hl 3 rfl) ?_
                refine k_iald (D := D) (f := Z 19) hx hb hK hP 15 0 rfl rfl i rfl (by omega) (by omega) dX5_sendStatic_68 ?_
                refine lv_icmp_ne (tgt := 76) hx hb dX5_sendStatic_69 (by decide) (fun c69 => ?_) (fun c69 => ?_)
                · skip
                  have c69 : ¬ rmd (nI cy) (Y 20 i) = Y 19 i := by rw [← e20, ← e19]; exact c69
                  refine lv_iconst (v := 0) hx hb dX5_sendStatic_76 (by decide) ?_
                  exact L77 0 _ (by first | exact ite_p ⟨c49, c69⟩ | exact ite_n (fun z => c49 z.1) | exact ite_n (fun z => c69 z.2)) (lv_sub hl [1, 2, 3, 0] rfl)
                · skip
                  have c69 : rmd (nI cy) (Y 20 i) = Y 19 i := by rw [← e20, ← e19]; exact c69
                  refine lv_iconst (v := 1) hx hb dX5_sendStatic_72 (by decide) ?_
                  refine lv_goto (tgt := 77) hx hb dX5_sendStatic_73 (by decide) ?_
                  exact L77 1 _ (by first | exact ite_p ⟨c49, c69⟩ | exact ite_n (fun z => c49 z.1) | exact ite_n (fun z => c69 z.2)) (lv_sub hl [1, 2, 3, 0] rfl)
        exact L27 ((fr - 0) + 1) 0 0 Y' _ _ _ (Nat.lt_succ_self _) (Nat.zero_le _) rfl (fun j a b => ⟨fun z => absurd (h3 j a (by omega)) z, fun ⟨k, hk, _⟩ => absurd hk (by omega)⟩) h5 hP hD hS (lv_sub hl [1, 2, 0] rfl)
      · skip
        refine lv_aload_n hx hb dX5_sendStatic_12 rfl (lv_at hl 0 rfl) ?_
        refine va_get (D := D) (ci := 7) (v := .ref (h 12)) (C := RX5) (T := TX5) (N := 27) hx hb hts inX5 hown hK hP 0 rfl rfl 12 (by decide) (hts _ wF_X5_35) (fun _ h9 => h9) rfl dX5_sendStatic_13 ?_
        refine lv_iload_n hx hb dX5_sendStatic_16 rfl (lv_at hl 2 rfl) ?_
        refine lv_iconst (v := 0) hx hb dX5_sendStatic_17 (by decide) ?_
        refine k_zast (D := D) (f := Y' 12) (ws' := mw h cI cZ sl mi n (sX Y' 12 i 0) th fr wt cy) hx hb hK hP hD hS 9 1 rfl rfl i rfl (by omega) (by omega) rfl rfl dX5_sendStatic_18 (fun H locs hP hD hS => ?_)
        refine k_iinc (k := 2) (lv' := [(2, .int (nI (i + 1))), (0, .ref (h 0)), (1, .int 0)]) hx hb i rfl dX5_sendStatic_19 hl rfl (by decide) rfl (fun ls hl => ?_)
        refine lv_goto (tgt := 4) hx hb dX5_sendStatic_22 (by decide) ?_
        exact ih4 (i + 1) (sX Y' 12 i 0) _ _ _ (by omega) (by omega) (by omega) (by intro j a b; rw [sX_app]; grind) (fun a ha => by rw [sX_ne ha]; exact h5 a ha) hP hD hS (lv_sub hl [1, 2, 0] rfl)
  exact L4 ((n + 1 - 1) + 1) 1 Y _ _ _ (Nat.lt_succ_self _) (Nat.le_refl 1) (by omega) (fun j a b => absurd b (by omega)) (fun _ _ => rfl) hP hD hS (lv_sub hl [2, 1, 0] rfl)
set_option maxHeartbeats 4000000 in
set_option maxRecDepth 100000 in
theorem c_X5_waitingOne {l : Launch} {D : va_G} {cI cZ cL : ClassId} {h : Nat → Nat} {sl mi n : Nat} {Y : Nat → Nat → Int32} {th fr wt cy : Nat} (hn : n ≤ 16) (hd : wt ≤ 100) (idn : Nat) (hY : DyI (Y 22) (Y 24) n wt) : KR l yX5_waitingOne (.code yX5_waitingOne cX5_waitingOne 3 (some .int)) 0 D (tyz cI cZ cL) [.ref (h 0), .int (nI idn)] (mw h cI cZ sl mi n Y th fr wt cy) (fun r => (∃ k : Nat, k < wt ∧ r = nI k ∧ (Y 23 k = nI idn ∧ Y 4 (Y 22 k).toNatClampNeg = 2) ∧ ∀ j, j < k → ¬ (Y 23 j = nI idn ∧ Y 4 (Y 22 j).toNatClampNeg = 2)) ∨ (r = -1 ∧ ∀ j, j < wt → ¬ (Y 23 j = nI idn ∧ Y 4 (Y 22 j).toNatClampNeg = 2))) := by
  refine KR.of (own := RX5) (lvs := [(0, .ref (h 0)), (1, .int (nI idn))]) (by decide) rfl (Nat.le_of_ble_eq_true rfl) rfl ?_
  intro p e s m args below meth c Q C hK hN hP hD ret ls hl
  obtain ⟨hx, hb, hml, hown, hts, hr9, hlk9⟩ := id C
  refine lv_iconst (v := 0) hx hb dX5_waitingOne_0 (by decide) ?_
  refine lv_istore_n (lv' := [(2, .int 0), (0, .ref (h 0)), (1, .int (nI idn))]) hx hb dX5_waitingOne_1 rfl hl (by decide) rfl (fun ls hl => ?_)
  have L2 : ∀ (kf : Nat) (i : Nat) (ls : Array Slot), (wt - i < kf) → (i ≤ wt) → (∀ j, j < i → ¬ (Y 23 j = nI idn ∧ Y 4 (Y 22 j).toNatClampNeg = 2)) → (lv_has ls 3 [(0, .ref (h 0)), (1, .int (nI idn)), (2, .int (nI i))]) → W p l e (rmK 0) s m args below meth c s.heap [] 0 0 Q (F0 m 2 ls []) := by
    intro kf
    induction kf with
    | zero =>
      intro i ls hm
      exact absurd hm (Nat.not_lt_zero _)
    | succ kf ih2 =>
      intro i ls hm h2 h3 hl
      refine lv_iload_n hx hb dX5_waitingOne_2 rfl (lv_at hl 2 rfl) ?_
      refine lv_aload_n hx hb dX5_waitingOne_3 rfl (lv_at hl 0 rfl) ?_
      refine va_get (D := D) (ci := 7) (v := .int (nI wt)) (C := RX5) (T := TX5) (N := 27) hx hb hts inX5 hown hK hP 0 rfl rfl 21 (by decide) (hts _ wF_X5_94) (fun _ h9 => h9) rfl dX5_waitingOne_4 ?_
      refine k_icmp_ge (tgt := 41) hx hb i wt rfl rfl (by omega) (by omega) dX5_waitingOne_7 (by decide) (fun c7 => ?_) (fun c7 => ?_)
      · skip
        refine lv_iload_n hx hb dX5_waitingOne_41 rfl (lv_at hl 2 rfl) ?_
        refine lv_aload_n hx hb dX5_waitingOne_42 rfl (lv_at hl 0 rfl) ?_
        refine va_get (D := D) (ci := 7) (v := .int (nI wt)) (C := RX5) (T := TX5) (N := 27) hx hb hts inX5 hown hK hP 0 rfl rfl 21 (by decide) (hts _ wF_X5_94) (fun _ h9 => h9) rfl dX5_waitingOne_43 ?_
        refine k_icmp_ge (tgt := 53) hx hb i wt rfl rfl (by omega) (by omega) dX5_waitingOne_46 (by decide) (fun c46 => ?_) (fun c46 => ?_)
        · skip
          refine lv_iconst (v := (-1)) hx hb dX5_waitingOne_53 (by decide) ?_
          exact ret _ _ _ dX5_waitingOne_54 (by first | exact Or.inr ⟨rfl, fun j b => h3 j (by omega)⟩ | exact absurd c46 (by omega))
        · skip
          refine lv_iload_n hx hb dX5_waitingOne_49 rfl (lv_at hl 2 rfl) ?_
          refine lv_goto (tgt := 54) hx hb dX5_waitingOne_50 (by decide) ?_
          exact ret _ _ _ dX5_waitingOne_54 (by first | exact Or.inl ⟨i, c7, rfl, ⟨c17, by rw [hje, nI_clamp (by omega)]; exact c32⟩, h3⟩ | exact absurd c46 (by omega))
      · skip
        obtain ⟨jn, hj1, hj2, hje⟩ := inR_of (hY i c7).1
        refine lv_aload_n hx hb dX5_waitingOne_10 rfl (lv_at hl 0 rfl) ?_
        refine va_get (D := D) (ci := 7) (v := .ref (h 23)) (C := RX5) (T := TX5) (N := 27) hx hb hts inX5 hown hK hP 0 rfl rfl 23 (by decide) (hts _ wF_X5_62) (fun _ h9 => h9) rfl dX5_waitingOne_11 ?_
        refine lv_iload_n hx hb dX5_waitingOne_14 rfl (lv_at hl 2 rfl) ?_
        refine k_iald (D := D) (f := Y 23) hx hb hK hP 18 0 rfl rfl i rfl (by omega) (by omega) dX5_waitingOne_15 ?_
        refine lv_iload_n hx hb dX5_waitingOne_16 rfl (lv_at hl 1 rfl) ?_
        refine lv_icmp_ne (tgt := 35) hx hb dX5_waitingOne_17 (by decide) (fun c17 => ?_) (fun c17 => ?_)
        · skip
          refine k_iinc (k := 2) (lv' := [(2, .int (nI (i + 1))), (0, .ref (h 0)), (1, .int (nI idn))]) hx hb i rfl dX5_waitingOne_35 hl rfl (by decide) rfl (fun ls hl => ?_)
          refine lv_goto (tgt := 2) hx hb dX5_waitingOne_38 (by decide) ?_
          exact ih2 (i + 1) _ (by omega) (by omega) (fun j b => if e : j = i then (by subst e; first | exact fun z => c17 z.1 | exact fun z => c32 (by have := z.2; rwa [hje, nI_clamp (by omega)] at this)) else h3 j (by omega)) (lv_sub hl [1, 2, 0] rfl)
        · skip
          refine lv_aload_n hx hb dX5_waitingOne_20 rfl (lv_at hl 0 rfl) ?_
          refine va_get (D := D) (ci := 7) (v := .ref (h 4)) (C := RX5) (T := TX5) (N := 27) hx hb hts inX5 hown hK hP 0 rfl rfl 4 (by decide) (hts _ wF_X5_7) (fun _ h9 => h9) rfl dX5_waitingOne_21 ?_
          refine lv_aload_n hx hb dX5_waitingOne_24 rfl (lv_at hl 0 rfl) ?_
          refine va_get (D := D) (ci := 7) (v := .ref (h 22)) (C := RX5) (T := TX5) (N := 27) hx hb hts inX5 hown hK hP 0 rfl rfl 22 (by decide) (hts _ wF_X5_59) (fun _ h9 => h9) rfl dX5_waitingOne_25 ?_
          refine lv_iload_n hx hb dX5_waitingOne_28 rfl (lv_at hl 2 rfl) ?_
          refine k_iald (D := D) (f := Y 22) hx hb hK hP 17 0 rfl rfl i rfl (by omega) (by omega) dX5_waitingOne_29 ?_
          refine k_int (y := (nI jn)) hje ?_
          refine k_iald (D := D) (f := Y 4) hx hb hK hP 1 0 rfl rfl jn rfl (by omega) (by omega) dX5_waitingOne_30 ?_
          refine lv_iconst (v := 2) hx hb dX5_waitingOne_31 (by decide) ?_
          refine lv_icmp_eq (tgt := 41) hx hb dX5_waitingOne_32 (by decide) (fun c32 => ?_) (fun c32 => ?_)
          · skip
            refine lv_iload_n hx hb dX5_waitingOne_41 rfl (lv_at hl 2 rfl) ?_
            refine lv_aload_n hx hb dX5_waitingOne_42 rfl (lv_at hl 0 rfl) ?_
            refine va_get (D := D) (ci := 7) (v := .int (nI wt)) (C := RX5) (T := TX5) (N := 27) hx hb hts inX5 hown hK hP 0 rfl rfl 21 (by decide) (hts _ wF_X5_94) (fun _ h9 => h9) rfl dX5_waitingOne_43 ?_
            refine k_icmp_ge (tgt := 53) hx hb i wt rfl rfl (by omega) (by omega) dX5_waitingOne_46 (by decide) (fun c46 => ?_) (fun c46 => ?_)
            · skip
              refine lv_iconst (v := (-1)) hx hb dX5_waitingOne_53 (by decide) ?_
              exact ret _ _ _ dX5_waitingOne_54 (by first | exact Or.inr ⟨rfl, fun j b => h3 j (by omega)⟩ | exact absurd c46 (by omega))
            · skip
              refine lv_iload_n hx hb dX5_waitingOne_49 rfl (lv_at hl 2 rfl) ?_
              refine lv_goto (tgt := 54) hx hb dX5_waitingOne_50 (by decide) ?_
              exact ret _ _ _ dX5_waitingOne_54 (by first | exact Or.inl ⟨i, c7, rfl, ⟨c17, by rw [hje, nI_clamp (by omega)]; exact c32⟩, h3⟩ | exact absurd c46 (by omega))
          · skip
            refine k_iinc (k := 2) (lv' := [(2, .int (nI (i + 1))), (0, .ref (h 0)), (1, .int (nI idn))]) hx hb i rfl dX5_waitingOne_35 hl rfl (by decide) rfl (fun ls hl => ?_)
            refine lv_goto (tgt := 2) hx hb dX5_waitingOne_38 (by decide) ?_
            exact ih2 (i + 1) _ (by omega) (by omega) (fun j b => if e : j = i then (by subst e; first | exact fun z => c17 z.1 | exact fun z => c32 (by have := z.2; rwa [hje, nI_clamp (by omega)] at this)) else h3 j (by omega)) (lv_sub hl [1, 2, 0] rfl)
  exact L2 ((wt - 0) + 1) 0 _ (Nat.lt_succ_self _) (Nat.zero_le _) (fun j b => absurd b (by omega)) (lv_sub hl [1, 2, 0] rfl)
set_option maxHeartbeats 4000000 in
set_option maxRecDepth 100000 in
theorem c_X5_sendDynamic {l : Launch} {D : va_G} {cI cZ cL : ClassId} {h : Nat → Nat} {sl mi n : Nat} {Y : Nat → Nat → Int32} {th fr wt cy : Nat} (hn : n ≤ 16) (hd : wt ≤ 100) (hmi : mi ≤ 60) (hY : DyI (Y 22) (Y 24) n wt) : KI l yX5_sendDynamic (.code yX5_sendDynamic cX5_sendDynamic 6 (some .int)) 1 D (tyz cI cZ cL) [.ref (h 0)] (mw h cI cZ sl mi n Y th fr wt cy) (fun r u => ∃ d : Nat, r = nI d ∧ (dl u.1 22 23 24 u.2, d) = dyn (pm (Y 4)) mi 60 1 (dl Y 22 23 24 wt) 1 0 ∧ u.2 ≤ wt ∧ DyI (u.1 22) (u.1 24) n u.2 ∧ ∀ a, a ≠ 22 → a ≠ 23 → a ≠ 24 → u.1 a = Y a) (fun u : (Nat → Nat → Int32) × Nat => mw h cI cZ sl mi n u.1 th fr u.2 cy) := by
  refine KI.of (own := RX5) (lvs := [(0, .ref (h 0))]) (by decide) rfl (Nat.le_of_ble_eq_true rfl) rfl ?_
  intro p e s m args below meth c Q C hK hN A hA hP hD hS ret ls hl
  obtain ⟨hx, hb, hml, hown, hts, hr9, hlk9⟩ := id C
  refine lv_iconst (v := 0) hx hb dX5_sendDynamic_0 (by decide) ?_
  refine lv_istore_n (lv' := [(1, .int 0), (0, .ref (h 0))]) hx hb dX5_sendDynamic_1 rfl hl (by decide) rfl (fun ls hl => ?_)
  refine lv_iconst (v := 1) hx hb dX5_sendDynamic_2 (by decide) ?_
  refine lv_istore_n (lv' := [(2, .int 1), (1, .int 0), (0, .ref (h 0))]) hx hb dX5_sendDynamic_3 rfl hl (by decide) rfl (fun ls hl => ?_)
  refine lv_iconst (v := 1) hx hb dX5_sendDynamic_4 (by decide) ?_
  refine lv_istore_n (lv' := [(3, .int 1), (2, .int 1), (1, .int 0), (0, .ref (h 0))]) hx hb dX5_sendDynamic_5 rfl hl (by decide) rfl (fun ls hl => ?_)
  have L6 : ∀ (kf : Nat) (i : Nat) (mm : Nat) (d : Nat) (Y' : Nat → Nat → Int32) (wt' : Nat) (H : Heap) (locs : List Loc) (ls : Array Slot), (mi + 1 - mm < kf) → (1 ≤ i) → (i ≤ mm ∧ mm ≤ 121) → (wt' ≤ wt ∧ d < i) → (DyI (Y' 22) (Y' 24) n wt') → (dyn (pm (Y 4)) mi (61 - i) i (dl Y' 22 23 24 wt') mm d = dyn (pm (Y 4)) mi 60 1 (dl Y 22 23 24 wt) 1 0) → (∀ a, a ≠ 22 → a ≠ 23 → a ≠ 24 → Y' a = Y a) → (va_P D vwCl (mw h cI cZ sl mi n Y' th fr wt' cy) H) → (va_D A (mw h cI cZ sl mi n Y' th fr wt' cy)) → (va_S A s.heap H locs) → (lv_has ls 6 [(0, .ref (h 0)), (1, .int (nI d)), (2, .int (nI mm)), (3, .int (nI i))]) → W p l e (rmK 1) s m args below meth c H locs 0 0 Q (F0 m 6 ls []) := by
    intro kf
    induction kf with
    | zero =>
      intro i mm d Y' wt' H locs ls hm
      exact absurd hm (Nat.not_lt_zero _)
    | succ kf ih6 =>
      intro i mm d Y' wt' H locs ls hm h1 h0 hd2 hY2 h3 h5 hP hD hS hl
      refine lv_iload_n hx hb dX5_sendDynamic_6 rfl (lv_at hl 2 rfl) ?_
      refine lv_aload_n hx hb dX5_sendDynamic_7 rfl (lv_at hl 0 rfl) ?_
      refine va_get (D := D) (ci := 7) (v := .int (nI mi)) (C := RX5) (T := TX5) (N := 27) hx hb hts inX5 hown hK hP 0 rfl rfl 3 (by decide) (hts _ wF_X5_78) (fun _ h9 => h9) rfl dX5_sendDynamic_8 ?_
      refine k_icmp_gt (tgt := 146) hx hb mm mi rfl rfl (by omega) (by omega) dX5_sendDynamic_11 (by decide) (fun c11 => ?_) (fun c11 => ?_)
      · skip
        refine lv_iload_n hx hb dX5_sendDynamic_146 rfl (lv_at hl 1 rfl) ?_
        exact ret _ (Y', wt') _ _ _ _ dX5_sendDynamic_147 hP hD hS ⟨d, rfl, (by rw [← h3, dyn_out c11]), hd2.1, hY2, h5⟩
      · skip
        have q4 : Y' 4 = Y 4 := h5 4 (by decide) (by decide) (by decide)
        have hfu : 61 - i = (61 - (i + 1)) + 1 := by omega
        refine lv_aload_n hx hb dX5_sendDynamic_14 rfl (lv_at hl 0 rfl) ?_
        refine lv_iload_n hx hb dX5_sendDynamic_15 rfl (lv_at hl 3 rfl) ?_
        refine k_callR (D := D) C hK hN hP hD (c_X5_waitingOne hn (by omega) i hY2) hl cf_yX5_waitingOne wM_X5_100 0 7 rfl rfl rfl rfl (Nat.le_of_ble_eq_true rfl) ⟨by decide, by decide⟩ ⟨Nat.le_of_ble_eq_true rfl, Nat.le_of_ble_eq_true rfl⟩ dX5_sendDynamic_16 (fun r16 hr16 => ?_)
        refine lv_istore (lv' := [(4, .int r16), (0, .ref (h 0)), (1, .int (nI d)), (2, .int (nI mm)), (3, .int (nI i))]) hx hb dX5_sendDynamic_19 hl (by decide) rfl (fun ls hl => ?_)
        refine lv_iload hx hb dX5_sendDynamic_21 (lv_at hl 0 rfl) ?_
        refine lv_if_lt (tgt := 137) hx hb dX5_sendDynamic_23 (by decide) (fun c23 => ?_) (fun c23 => ?_)
        · skip
          have hfi : (dl Y' 22 23 24 wt').findIdx? (pm (Y 4) i) = none := by
            rcases hr16 with ⟨k, hk, rfl, _⟩ | ⟨_, h⟩
            · exact absurd c23 (nI_pos (by omega))
            · rw [← q4]; exact fi_none h
          refine k_iinc (k := 3) (lv' := [(2, .int (nI (mm + 1))), (4, .int r16), (0, .ref (h 0)), (1, .int (nI d)), (3, .int (nI i))]) hx hb mm rfl dX5_sendDynamic_137 hl rfl (by decide) rfl (fun ls hl => ?_)
          refine k_iinc (k := 4) (lv' := [(3, .int (nI (i + 1))), (2, .int (nI (mm + 1))), (4, .int r16), (0, .ref (h 0)), (1, .int (nI d))]) hx hb i rfl dX5_sendDynamic_140 hl rfl (by decide) rfl (fun ls hl => ?_)
          refine lv_goto (tgt := 6) hx hb dX5_sendDynamic_143 (by decide) ?_
          exact ih6 (i + 1) (mm + 1) d Y' wt' _ _ _ (by omega) (by omega) (by omega) (by omega) (by first | exact hY2 | exact dy_rmG (a := 22) (b := 23) (c := 24) hk1 hY2 hsh) (by rw [← h3, hfu]; first | exact (dyn_none c11 hfi).symm | exact (dyn_long c11 hfi (by rw [hln]; omega)).symm | exact dy_takeG c11 hfi hln (by omega) hk1 hsh) (by first | exact h5 | exact fun a a1 a2 a3 => (e5 a a1 a2 a3).trans (h5 a a1 a2 a3)) hP hD hS (lv_sub hl [3, 4, 1, 0] rfl)
        · skip
          obtain ⟨k, hk1, rfl, hk2, hk3⟩ := hr16.resolve_right (fun z => c23 (by rw [z.1]; decide))
          have hfi : (dl Y' 22 23 24 wt').findIdx? (pm (Y 4) i) = some k := by rw [← q4]; exact fi_some hk1 hk2 hk3
          obtain ⟨ln, hl1, hl2, hle⟩ := inR_of (hY2 k hk1).2
          have hln : dlen (dl Y' 22 23 24 wt') k = ln := by rw [dlen_dl hk1, hle]; exact nI_clamp (by omega)
          refine lv_iload_n hx hb dX5_sendDynamic_26 rfl (lv_at hl 3 rfl) ?_
          refine lv_aload_n hx hb dX5_sendDynamic_27 rfl (lv_at hl 1 rfl) ?_
          refine va_get (D := D) (ci := 7) (v := .ref (h 24)) (C := RX5) (T := TX5) (N := 27) hx hb hts inX5 hown hK hP 0 rfl rfl 24 (by decide) (hts _ wF_X5_65) (fun _ h9 => h9) rfl dX5_sendDynamic_28 ?_
          refine lv_iload hx hb dX5_sendDynamic_31 (lv_at hl 0 rfl) ?_
          refine k_iald (D := D) (f := Y' 24) hx hb hK hP 19 0 rfl rfl k rfl (by omega) (by omega) dX5_sendDynamic_33 ?_
          refine k_int (y := (nI ln)) hle ?_
          refine k_iadd hx hb mm ln rfl rfl dX5_sendDynamic_34 ?_
          refine lv_iconst (v := 1) hx hb dX5_sendDynamic_35 (by decide) ?_
          refine k_isub hx hb (mm + ln) 1 rfl rfl (by omega) dX5_sendDynamic_36 ?_
          refine lv_aload_n hx hb dX5_sendDynamic_37 rfl (lv_at hl 1 rfl) ?_
          refine va_get (D := D) (ci := 7) (v := .int (nI mi)) (C := RX5) (T := TX5) (N := 27) hx hb hts inX5 hown hK hP 0 rfl rfl 3 (by decide) (hts _ wF_X5_78) (fun _ h9 => h9) rfl dX5_sendDynamic_38 ?_
          refine k_icmp_gt (tgt := 137) hx hb ((mm + ln) - 1) mi rfl rfl (by omega) (by omega) dX5_sendDynamic_41 (by decide) (fun c41 => ?_) (fun c41 => ?_)
          · skip
            refine k_iinc (k := 3) (lv' := [(2, .int (nI (mm + 1))), (4, .int (nI k)), (0, .ref (h 0)), (1, .int (nI d)), (3, .int (nI i))]) hx hb mm rfl dX5_sendDynamic_137 hl rfl (by decide) rfl (fun ls hl => ?_)
            refine k_iinc (k := 4) (lv' := [(3, .int (nI (i + 1))), (2, .int (nI (mm + 1))), (4, .int (nI k)), (0, .ref (h 0)), (1, .int (nI d))]) hx hb i rfl dX5_sendDynamic_140 hl rfl (by decide) rfl (fun ls hl => ?_)
            refine lv_goto (tgt := 6) hx hb dX5_sendDynamic_143 (by decide) ?_
            exact ih6 (i + 1) (mm + 1) d Y' wt' _ _ _ (by omega) (by omega) (by omega) (by omega) (by first | exact hY2 | exact dy_rmG (a := 22) (b := 23) (c := 24) hk1 hY2 hsh) (by rw [← h3, hfu]; first | exact (dyn_none c11 hfi).symm | exact (dyn_long c11 hfi (by rw [hln]; omega)).symm | exact dy_takeG c11 hfi hln (by omega) hk1 hsh) (by first | exact h5 | exact fun a a1 a2 a3 => (e5 a a1 a2 a3).trans (h5 a a1 a2 a3)) hP hD hS (lv_sub hl [3, 4, 1, 0] rfl)
          · skip
            refine lv_iload_n hx hb dX5_sendDynamic_44 rfl (lv_at hl 3 rfl) ?_
            refine lv_aload_n hx hb dX5_sendDynamic_45 rfl (lv_at hl 1 rfl) ?_
            refine va_get (D := D) (ci := 7) (v := .ref (h 24)) (C := RX5) (T := TX5) (N := 27) hx hb hts inX5 hown hK hP 0 rfl rfl 24 (by decide) (hts _ wF_X5_65) (fun _ h9 => h9) rfl dX5_sendDynamic_46 ?_
            refine lv_iload hx hb dX5_sendDynamic_49 (lv_at hl 0 rfl) ?_
            refine k_iald (D := D) (f := Y' 24) hx hb hK hP 19 0 rfl rfl k rfl (by omega) (by omega) dX5_sendDynamic_51 ?_
            refine k_int (y := (nI ln)) hle ?_
            refine k_iadd hx hb mm ln rfl rfl dX5_sendDynamic_52 ?_
            refine lv_istore_n (lv' := [(2, .int (nI (mm + ln))), (4, .int (nI k)), (0, .ref (h 0)), (1, .int (nI d)), (3, .int (nI i))]) hx hb dX5_sendDynamic_53 rfl hl (by decide) rfl (fun ls hl => ?_)
            refine k_iinc (k := 3) (lv' := [(1, .int (nI (d + 1))), (2, .int (nI (mm + ln))), (4, .int (nI k)), (0, .ref (h 0)), (3, .int (nI i))]) hx hb d rfl dX5_sendDynamic_54 hl rfl (by decide) rfl (fun ls hl => ?_)
            refine lv_aload_n hx hb dX5_sendDynamic_57 rfl (lv_at hl 3 rfl) ?_
            refine lv_dup hx hb dX5_sendDynamic_58 rfl ?_
            refine va_get (D := D) (ci := 7) (v := .int (nI wt')) (C := RX5) (T := TX5) (N := 27) hx hb hts inX5 hown hK hP 0 rfl rfl 21 (by decide) (hts _ wF_X5_94) (fun _ h9 => h9) rfl dX5_sendDynamic_59 ?_
            refine lv_iconst (v := 1) hx hb dX5_sendDynamic_62 (by decide) ?_
            refine k_isub hx hb wt' 1 rfl rfl (by omega) dX5_sendDynamic_63 ?_
            refine k_put (D := D) (ci := 7) (v := .int (nI (wt' - 1))) (ty := .int) (C := RX5) (T := TX5) (N := 27) (ws' := mw h cI cZ sl mi n Y' th fr (wt' - 1) cy) hx hb hts inX5 tyX5 tyX5_ok nmX5 hown hK hP hD hS 0 rfl rfl 21 (by decide) (hts _ wF_X5_94) (fun _ h9 => h9) rfl (by decide +kernel) rfl rfl (Nat.le_of_ble_eq_true rfl) rfl dX5_sendDynamic_64 (fun H locs hP hD hS => ?_)
            refine lv_iload hx hb dX5_sendDynamic_67 (lv_at hl 2 rfl) ?_
            refine lv_istore (lv' := [(5, .int (nI k)), (1, .int (nI (d + 1))), (2, .int (nI (mm + ln))), (4, .int (nI k)), (0, .ref (h 0)), (3, .int (nI i))]) hx hb dX5_sendDynamic_69 hl (by decide) rfl (fun ls hl => ?_)
            have L71 : ∀ (kf : Nat) (ee : Nat) (Z : Nat → Nat → Int32) (H : Heap) (locs : List Loc) (ls : Array Slot), (wt' - 1 - ee < kf) → (k ≤ ee) → (ee ≤ wt' - 1) → (∀ a, (a = 22 ∨ a = 23 ∨ a = 24) → (∀ j, j < ee → Z a j = if j < k then Y' a j else Y' a (j + 1)) ∧ ∀ j, ee ≤ j → Z a j = Y' a j) → (∀ a, a ≠ 22 → a ≠ 23 → a ≠ 24 → Z a = Y' a) → (va_P D vwCl (mw h cI cZ sl mi n Z th fr (wt' - 1) cy) H) → (va_D A (mw h cI cZ sl mi n Z th fr (wt' - 1) cy)) → (va_S A s.heap H locs) → (lv_has ls 6 [(0, .ref (h 0)), (1, .int (nI (d + 1))), (2, .int (nI (mm + ln))), (3, .int (nI i)), (4, .int (nI k)), (5, .int (nI ee))]) → W p l e (rmK 1) s m args below meth c H locs 0 0 Q (F0 m 71 ls []) := by
              intro kf
              induction kf with
              | zero =>
                intro ee Z H locs ls hm
                exact absurd hm (Nat.not_lt_zero _)
              | succ kf ih71 =>
                intro ee Z H locs ls hm e1 e2 e3 e5 hP hD hS hl
                refine lv_iload hx hb dX5_sendDynamic_71 (lv_at hl 5 rfl) ?_
                refine lv_aload_n hx hb dX5_sendDynamic_73 rfl (lv_at hl 0 rfl) ?_
                refine va_get (D := D) (ci := 7) (v := .int (nI (wt' - 1))) (C := RX5) (T := TX5) (N := 27) hx hb hts inX5 hown hK hP 0 rfl rfl 21 (by decide) (hts _ wF_X5_94) (fun _ h9 => h9) rfl dX5_sendDynamic_74 ?_
                refine k_icmp_ge (tgt := 134) hx hb ee (wt' - 1) rfl rfl (by omega) (by omega) dX5_sendDynamic_77 (by decide) (fun c77 => ?_) (fun c77 => ?_)
                · skip
                  have hsh : ∀ a, (a = 22 ∨ a = 23 ∨ a = 24) → ∀ j, j < wt' - 1 → Z a j = if j < k then Y' a j else Y' a (j + 1) := fun a ha j hj => (e3 a ha).1 j (by omega)
                  refine lv_goto (tgt := 140) hx hb dX5_sendDynamic_134 (by decide) ?_
                  refine k_iinc (k := 3) (lv' := [(3, .int (nI (i + 1))), (0, .ref (h 0)), (1, .int (nI (d + 1))), (2, .int (nI (mm + ln))), (4, .int (nI k)), (5, .int (nI ee))]) hx hb i rfl dX5_sendDynamic_140 hl rfl (by decide) rfl (fun ls hl => ?_)
                  refine lv_goto (tgt := 6) hx hb dX5_sendDynamic_143 (by decide) ?_
                  exact ih6 (i + 1) (mm + ln) (d + 1) Z (wt' - 1) _ _ _ (by omega) (by omega) (by omega) (by omega) (by first | exact hY2 | exact dy_rmG (a := 22) (b := 23) (c := 24) hk1 hY2 hsh) (by rw [← h3, hfu]; first | exact (dyn_none c11 hfi).symm | exact (dyn_long c11 hfi (by rw [hln]; omega)).symm | exact dy_takeG c11 hfi hln (by omega) hk1 hsh) (by first | exact h5 | exact fun a a1 a2 a3 => (e5 a a1 a2 a3).trans (h5 a a1 a2 a3)) hP hD hS (lv_sub hl [1, 2, 3, 0] rfl)
                · skip
                  refine lv_aload_n hx hb dX5_sendDynamic_80 rfl (lv_at hl 0 rfl) ?_
                  refine va_get (D := D) (ci := 7) (v := .ref (h 22)) (C := RX5) (T := TX5) (N := 27) hx hb hts inX5 hown hK hP 0 rfl rfl 22 (by decide) (hts _ wF_X5_59) (fun _ h9 => h9) rfl dX5_sendDynamic_81 ?_
                  refine lv_iload hx hb dX5_sendDynamic_84 (lv_at hl 5 rfl) ?_
                  refine lv_aload_n hx hb dX5_sendDynamic_86 rfl (lv_at hl 0 rfl) ?_
                  refine va_get (D := D) (ci := 7) (v := .ref (h 22)) (C := RX5) (T := TX5) (N := 27) hx hb hts inX5 hown hK hP 0 rfl rfl 22 (by decide) (hts _ wF_X5_59) (fun _ h9 => h9) rfl dX5_sendDynamic_87 ?_
                  refine lv_iload hx hb dX5_sendDynamic_90 (lv_at hl 5 rfl) ?_
                  refine lv_iconst (v := 1) hx hb dX5_sendDynamic_92 (by decide) ?_
                  refine k_iadd hx hb ee 1 rfl rfl dX5_sendDynamic_93 ?_
                  refine k_iald (D := D) (f := Z 22) hx hb hK hP 17 0 rfl rfl (ee + 1) rfl (by omega) (by omega) dX5_sendDynamic_94 ?_
                  refine k_iast (D := D) (f := Z 22) (ws' := mw h cI cZ sl mi n (sX Z 22 ee (Z 22 (ee + 1))) th fr (wt' - 1) cy) hx hb hK hP hD hS 17 0 rfl rfl ee rfl (by omega) (by omega) rfl dX5_sendDynamic_95 (fun H locs hP hD hS => ?_)
                  refine lv_aload_n hx hb dX5_sendDynamic_96 rfl (lv_at hl 0 rfl) ?_
                  refine va_get (D := D) (ci := 7) (v := .ref (h 23)) (C := RX5) (T := TX5) (N := 27) hx hb hts inX5 hown hK hP 0 rfl rfl 23 (by decide) (hts _ wF_X5_62) (fun _ h9 => h9) rfl dX5_sendDynamic_97 ?_
                  refine lv_iload hx hb dX5_sendDynamic_100 (lv_at hl 5 rfl) ?_
                  refine lv_aload_n hx hb dX5_sendDynamic_102 rfl (lv_at hl 0 rfl) ?_
                  refine va_get (D := D) (ci := 7) (v := .ref (h 23)) (C := RX5) (T := TX5) (N := 27) hx hb hts inX5 hown hK hP 0 rfl rfl 23 (by decide) (hts _ wF_X5_62) (fun _ h9 => h9) rfl dX5_sendDynamic_103 ?_
                  refine lv_iload hx hb dX5_sendDynamic_106 (lv_at hl 5 rfl) ?_
                  refine lv_iconst (v := 1) hx hb dX5_sendDynamic_108 (by decide) ?_
                  refine k_iadd hx hb ee 1 rfl rfl dX5_sendDynamic_109 ?_
                  refine k_iald (D := D) (f := Z 23) hx hb hK hP 18 0 rfl rfl (ee + 1) rfl (by omega) (by omega) dX5_sendDynamic_110 ?_
                  refine k_iast (D := D) (f := Z 23) (ws' := mw h cI cZ sl mi n (sX (sX Z 22 ee (Z 22 (ee + 1))) 23 ee (Z 23 (ee + 1))) th fr (wt' - 1) cy) hx hb hK hP hD hS 18 0 rfl rfl ee rfl (by omega) (by omega) rfl dX5_sendDynamic_111 (fun H locs hP hD hS => ?_)
                  refine lv_aload_n hx hb dX5_sendDynamic_112 rfl (lv_at hl 0 rfl) ?_
                  refine va_get (D := D) (ci := 7) (v := .ref (h 24)) (C := RX5) (T := TX5) (N := 27) hx hb hts inX5 hown hK hP 0 rfl rfl 24 (by decide) (hts _ wF_X5_65) (fun _ h9 => h9) rfl dX5_sendDynamic_113 ?_
                  refine lv_iload hx hb dX5_sendDynamic_116 (lv_at hl 5 rfl) ?_
                  refine lv_aload_n hx hb dX5_sendDynamic_118 rfl (lv_at hl 0 rfl) ?_
                  refine va_get (D := D) (ci := 7) (v := .ref (h 24)) (C := RX5) (T := TX5) (N := 27) hx hb hts inX5 hown hK hP 0 rfl rfl 24 (by decide) (hts _ wF_X5_65) (fun _ h9 => h9) rfl dX5_sendDynamic_119 ?_
                  refine lv_iload hx hb dX5_sendDynamic_122 (lv_at hl 5 rfl) ?_
                  refine lv_iconst (v := 1) hx hb dX5_sendDynamic_124 (by decide) ?_
                  refine k_iadd hx hb ee 1 rfl rfl dX5_sendDynamic_125 ?_
                  refine k_iald (D := D) (f := Z 24) hx hb hK hP 19 0 rfl rfl (ee + 1) rfl (by omega) (by omega) dX5_sendDynamic_126 ?_
                  refine k_iast (D := D) (f := Z 24) (ws' := mw h cI cZ sl mi n (sX (sX (sX Z 22 ee (Z 22 (ee + 1))) 23 ee (Z 23 (ee + 1))) 24 ee (Z 24 (ee + 1))) th fr (wt' - 1) cy) hx hb hK hP hD hS 19 0 rfl rfl ee rfl (by omega) (by omega) rfl dX5_sendDynamic_127 (fun H locs hP hD hS => ?_)
                  refine k_iinc (k := 5) (lv' := [(5, .int (nI (ee + 1))), (0, .ref (h 0)), (1, .int (nI (d + 1))), (2, .int (nI (mm + ln))), (3, .int (nI i)), (4, .int (nI k))]) hx hb ee rfl dX5_sendDynamic_128 hl rfl (by decide) rfl (fun ls hl => ?_)
                  refine lv_goto (tgt := 71) hx hb dX5_sendDynamic_131 (by decide) ?_
                  exact ih71 (ee + 1) (sX (sX (sX Z 22 ee (Z 22 (ee + 1))) 23 ee (Z 23 (ee + 1))) 24 ee (Z 24 (ee + 1))) _ _ _ (by omega) (by omega) (by omega) (rm_stepG (b1 := 22) (b2 := 23) (b3 := 24) (by decide) (by decide) (by decide) e1 e3) (fun a a1 a2 a3 => by rw [sX_ne a3, sX_ne a2, sX_ne a1]; exact e5 a a1 a2 a3) hP hD hS (lv_sub hl [1, 2, 3, 4, 5, 0] rfl)
            exact L71 ((wt' - 1 - k) + 1) k Y' _ _ _ (Nat.lt_succ_self _) (Nat.le_refl _) (by omega) (fun a _ => ⟨fun j hj => by rw [if_pos hj], fun _ _ => rfl⟩) (fun _ _ _ _ => rfl) hP hD hS (lv_sub hl [4, 1, 2, 5, 3, 0] rfl)
  exact L6 ((mi + 1 - 1) + 1) 1 1 0 Y wt _ _ _ (Nat.lt_succ_self _) (Nat.le_refl _) ⟨Nat.le_refl _, by omega⟩ ⟨Nat.le_refl _, by omega⟩ hY rfl (fun _ _ _ _ => rfl) hP hD hS (lv_sub hl [3, 2, 1, 0] rfl)
set_option maxHeartbeats 4000000 in
set_option maxRecDepth 100000 in
theorem c_X5_midpointOf {l : Launch} {D : va_G} {cI cZ cL : ClassId} {h : Nat → Nat} {sl mi n : Nat} {Y : Nat → Nat → Int32} {th fr wt cy : Nat} (hn : n ≤ 16) (j : Nat) (h1j : 1 ≤ j) (hj : j ≤ n) : KI l yX5_midpointOf (.code yX5_midpointOf cX5_midpointOf 6 (some .int)) 0 D (tyz cI cZ cL) [.ref (h 0), .int (nI j)] (mw h cI cZ sl mi n Y th fr wt cy) (fun r u => r = mpv (Y 4) (Y 12) (Y 6) n j ∧ ∀ a, a ≠ 14 → u a = Y a) (fun u : Nat → Nat → Int32 => mw h cI cZ sl mi n u th fr wt cy) := by
  refine KI.of (own := RX5) (lvs := [(0, .ref (h 0)), (1, .int (nI j))]) (by decide) rfl (Nat.le_of_ble_eq_true rfl) rfl ?_
  intro p e s m args below meth c Q C hK hN A hA hP hD hS ret ls hl
  obtain ⟨hx, hb, hml, hown, hts, hr9, hlk9⟩ := id C
  refine lv_iconst (v := 0) hx hb dX5_midpointOf_0 (by decide) ?_
  refine lv_istore_n (lv' := [(2, .int 0), (0, .ref (h 0)), (1, .int (nI j))]) hx hb dX5_midpointOf_1 rfl hl (by decide) rfl (fun ls hl => ?_)
  refine lv_aload_n hx hb dX5_midpointOf_2 rfl (lv_at hl 1 rfl) ?_
  refine va_get (D := D) (ci := 7) (v := .ref (h 14)) (C := RX5) (T := TX5) (N := 27) hx hb hts inX5 hown hK hP 0 rfl rfl 14 (by decide) (hts _ wF_X5_41) (fun _ h9 => h9) rfl dX5_midpointOf_3 ?_
  refine lv_iload_n hx hb dX5_midpointOf_6 rfl (lv_at hl 0 rfl) ?_
  refine lv_iconst (v := 0) hx hb dX5_midpointOf_7 (by decide) ?_
  refine k_iast (D := D) (f := Y 14) (ws' := mw h cI cZ sl mi n (sX Y 14 0 0) th fr wt cy) hx hb hK hP hD hS 11 0 rfl rfl 0 rfl (by omega) (by omega) rfl dX5_midpointOf_8 (fun H locs hP hD hS => ?_)
  refine k_iinc (k := 0) (lv' := [(2, .int 1), (0, .ref (h 0)), (1, .int (nI j))]) hx hb 0 rfl dX5_midpointOf_9 hl rfl (by decide) rfl (fun ls hl => ?_)
  refine lv_iconst (v := 1) hx hb dX5_midpointOf_12 (by decide) ?_
  refine lv_istore_n (lv' := [(3, .int 1), (2, .int 1), (0, .ref (h 0)), (1, .int (nI j))]) hx hb dX5_midpointOf_13 rfl hl (by decide) rfl (fun ls hl => ?_)
  have L14 : ∀ (kf : Nat) (i : Nat) (f : Nat) (Y' : Nat → Nat → Int32) (H : Heap) (locs : List Loc) (ls : Array Slot), (n + 1 - i < kf) → (1 ≤ i) → (i ≤ n + 1) → (f = dc (Y 4) (Y 12) j i) → (∀ t, t < f → Y' 14 t = de (Y 4) (Y 12) (Y 6) j i t) → (∀ a, a ≠ 14 → Y' a = Y a) → (va_P D vwCl (mw h cI cZ sl mi n Y' th fr wt cy) H) → (va_D A (mw h cI cZ sl mi n Y' th fr wt cy)) → (va_S A s.heap H locs) → (lv_has ls 6 [(0, .ref (h 0)), (1, .int (nI j)), (2, .int (nI f)), (3, .int (nI i))]) → W p l e (rmK 0) s m args below meth c H locs 0 0 Q (F0 m 14 ls []) := by
    intro kf
    induction kf with
    | zero =>
      intro i f Y' H locs ls hm
      exact absurd hm (Nat.not_lt_zero _)
    | succ kf ih14 =>
      intro i f Y' H locs ls hm h1 h2 h3 h4 h5 hP hD hS hl
      have hf1 := dc_pos (Y 4) (Y 12) j i
      have hf2 := dc_le (Y 4) (Y 12) j (i - 1)
      rw [Nat.sub_add_cancel h1, ← h3] at hf2
      rw [← h3] at hf1
      refine lv_iload_n hx hb dX5_midpointOf_14 rfl (lv_at hl 3 rfl) ?_
      refine lv_aload_n hx hb dX5_midpointOf_15 rfl (lv_at hl 0 rfl) ?_
      refine va_get (D := D) (ci := 7) (v := .int (nI n)) (C := RX5) (T := TX5) (N := 27) hx hb hts inX5 hown hK hP 0 rfl rfl 1 (by decide) (hts _ wF_X5_71) (fun _ h9 => h9) rfl dX5_midpointOf_16 ?_
      refine k_icmp_gt (tgt := 74) hx hb i n rfl rfl (by omega) (by omega) dX5_midpointOf_19 (by decide) (fun c19 => ?_) (fun c19 => ?_)
      · skip
        have hi : i = n + 1 := by omega
        subst hi
        have hfn : f ≤ n := by omega
        refine lv_iconst (v := 1) hx hb dX5_midpointOf_74 (by decide) ?_
        refine lv_istore_n (lv' := [(3, .int 1), (0, .ref (h 0)), (1, .int (nI j)), (2, .int (nI f))]) hx hb dX5_midpointOf_75 rfl hl (by decide) rfl (fun ls hl => ?_)
        have L76 : ∀ (kf : Nat) (k : Nat) (Z : Nat → Nat → Int32) (H : Heap) (locs : List Loc) (ls : Array Slot), (f - k < kf) → (1 ≤ k) → (k ≤ f) → (∀ t, t < k → Z 14 t = srt (de (Y 4) (Y 12) (Y 6) j (n + 1)) k t) → (∀ t, k ≤ t → t < f → Z 14 t = (de (Y 4) (Y 12) (Y 6) j (n + 1)) t) → (∀ a, a ≠ 14 → Z a = Y a) → (va_P D vwCl (mw h cI cZ sl mi n Z th fr wt cy) H) → (va_D A (mw h cI cZ sl mi n Z th fr wt cy)) → (va_S A s.heap H locs) → (lv_has ls 6 [(0, .ref (h 0)), (1, .int (nI j)), (2, .int (nI f)), (3, .int (nI k))]) → W p l e (rmK 0) s m args below meth c H locs 0 0 Q (F0 m 76 ls []) := by
          intro kf
          induction kf with
          | zero =>
            intro k Z H locs ls hm
            exact absurd hm (Nat.not_lt_zero _)
          | succ kf ih76 =>
            intro k Z H locs ls hm s1 s2 s3 s4 s5 hP hD hS hl
            refine lv_iload_n hx hb dX5_midpointOf_76 rfl (lv_at hl 3 rfl) ?_
            refine lv_iload_n hx hb dX5_midpointOf_77 rfl (lv_at hl 2 rfl) ?_
            refine k_icmp_ge (tgt := 156) hx hb k f rfl rfl (by omega) (by omega) dX5_midpointOf_78 (by decide) (fun c78 => ?_) (fun c78 => ?_)
            · skip
              have hkf : k = f := by omega
              subst hkf
              have L176 : ∀ (kd : Nat) (ls : Array Slot), (kd = if k < 3 then 0 else if k < 8 then 1 else 2) → (lv_has ls 6 [(0, .ref (h 0)), (1, .int (nI j)), (2, .int (nI k))]) → W p l e (rmK 0) s m args below meth c H locs 0 0 Q (F0 m 176 ls [.int (nI kd)]) := by
                intro kd ls hk hl
                have hk3 : kd ≤ k - 1 := by rw [hk]; split <;> (try split) <;> omega
                refine lv_istore_n (lv' := [(3, .int (nI kd)), (0, .ref (h 0)), (1, .int (nI j)), (2, .int (nI k))]) hx hb dX5_midpointOf_176 rfl hl (by decide) rfl (fun ls hl => ?_)
                refine lv_aload_n hx hb dX5_midpointOf_177 rfl (lv_at hl 1 rfl) ?_
                refine va_get (D := D) (ci := 7) (v := .ref (h 14)) (C := RX5) (T := TX5) (N := 27) hx hb hts inX5 hown hK hP 0 rfl rfl 14 (by decide) (hts _ wF_X5_41) (fun _ h9 => h9) rfl dX5_midpointOf_178 ?_
                refine lv_iload_n hx hb dX5_midpointOf_181 rfl (lv_at hl 0 rfl) ?_
                refine k_iald (D := D) (f := Z 14) hx hb hK hP 11 0 rfl rfl kd rfl (by omega) (by omega) dX5_midpointOf_182 ?_
                refine lv_aload_n hx hb dX5_midpointOf_183 rfl (lv_at hl 1 rfl) ?_
                refine va_get (D := D) (ci := 7) (v := .ref (h 14)) (C := RX5) (T := TX5) (N := 27) hx hb hts inX5 hown hK hP 0 rfl rfl 14 (by decide) (hts _ wF_X5_41) (fun _ h9 => h9) rfl dX5_midpointOf_184 ?_
                refine lv_iload_n hx hb dX5_midpointOf_187 rfl (lv_at hl 3 rfl) ?_
                refine lv_iconst (v := 1) hx hb dX5_midpointOf_188 (by decide) ?_
                refine k_isub hx hb k 1 rfl rfl (by omega) dX5_midpointOf_189 ?_
                refine lv_iload_n hx hb dX5_midpointOf_190 rfl (lv_at hl 0 rfl) ?_
                refine k_isub hx hb (k - 1) kd rfl rfl (by omega) dX5_midpointOf_191 ?_
                refine k_iald (D := D) (f := Z 14) hx hb hK hP 11 0 rfl rfl ((k - 1) - kd) rfl (by omega) (by omega) dX5_midpointOf_192 ?_
                refine lv_iadd hx hb dX5_midpointOf_193 ?_
                refine lv_iconst (v := 2) hx hb dX5_midpointOf_194 (by decide) ?_
                refine lv_idiv hx hb dX5_midpointOf_195 (by decide) ?_
                exact ret _ Z _ _ _ _ dX5_midpointOf_196 hP hD hS ⟨(by rw [s3 _ (by omega), s3 _ (by omega)]; subst h3; rw [hk]; rfl), s5⟩
              refine lv_iload_n hx hb dX5_midpointOf_156 rfl (lv_at hl 2 rfl) ?_
              refine lv_iconst (v := 3) hx hb dX5_midpointOf_157 (by decide) ?_
              refine k_icmp_ge (tgt := 165) hx hb k 3 rfl rfl (by omega) (by omega) dX5_midpointOf_158 (by decide) (fun c158 => ?_) (fun c158 => ?_)
              · skip
                refine lv_iload_n hx hb dX5_midpointOf_165 rfl (lv_at hl 2 rfl) ?_
                refine lv_bipush (v := 8) hx hb dX5_midpointOf_166 (by decide) ?_
                refine k_icmp_ge (tgt := 175) hx hb k 8 rfl rfl (by omega) (by omega) dX5_midpointOf_168 (by decide) (fun c168 => ?_) (fun c168 => ?_)
                · skip
                  refine lv_iconst (v := 2) hx hb dX5_midpointOf_175 (by decide) ?_
                  exact L176 2 _ (by grind) (lv_sub hl [0, 1, 2] rfl)
                · skip
                  refine lv_iconst (v := 1) hx hb dX5_midpointOf_171 (by decide) ?_
                  refine lv_goto (tgt := 176) hx hb dX5_midpointOf_172 (by decide) ?_
                  exact L176 1 _ (by grind) (lv_sub hl [0, 1, 2] rfl)
              · skip
                refine lv_iconst (v := 0) hx hb dX5_midpointOf_161 (by decide) ?_
                refine lv_goto (tgt := 176) hx hb dX5_midpointOf_162 (by decide) ?_
                exact L176 0 _ (by grind) (lv_sub hl [0, 1, 2] rfl)
            · skip
              refine lv_iload_n hx hb dX5_midpointOf_81 rfl (lv_at hl 3 rfl) ?_
              refine lv_istore (lv' := [(4, .int (nI k)), (0, .ref (h 0)), (1, .int (nI j)), (2, .int (nI f)), (3, .int (nI k))]) hx hb dX5_midpointOf_82 hl (by decide) rfl (fun ls hl => ?_)
              have L84 : ∀ (kf : Nat) (a : Nat) (U : Nat → Nat → Int32) (H : Heap) (locs : List Loc) (ls : Array Slot), (a < kf) → (a ≤ k) → (insF a (U 14) (Z 14 k) = insF k (Z 14) (Z 14 k)) → (U 14 a = Z 14 k) → (∀ b, b ≠ 14 → U b = Y b) → (va_P D vwCl (mw h cI cZ sl mi n U th fr wt cy) H) → (va_D A (mw h cI cZ sl mi n U th fr wt cy)) → (va_S A s.heap H locs) → (lv_has ls 6 [(0, .ref (h 0)), (1, .int (nI j)), (2, .int (nI f)), (3, .int (nI k)), (4, .int (nI a))]) → W p l e (rmK 0) s m args below meth c H locs 0 0 Q (F0 m 84 ls []) := by
                intro kf
                induction kf with
                | zero =>
                  intro a U H locs ls hm
                  exact absurd hm (Nat.not_lt_zero _)
                | succ kf ih84 =>
                  intro a U H locs ls hm a1 a2 a3 a5 hP hD hS hl
                  refine lv_iload hx hb dX5_midpointOf_84 (lv_at hl 4 rfl) ?_
                  refine k_if_le (tgt := 150) hx hb a rfl (by omega) dX5_midpointOf_86 (by decide) (fun c86 => ?_) (fun c86 => ?_)
                  · skip
                    have hV : U 14 = insF k (Z 14) (Z 14 k) := by rw [← a2, insF_0 c86, ← a3, upd_self]
                    refine k_iinc (k := 3) (lv' := [(3, .int (nI (k + 1))), (0, .ref (h 0)), (1, .int (nI j)), (2, .int (nI f)), (4, .int (nI a))]) hx hb k rfl dX5_midpointOf_150 hl rfl (by decide) rfl (fun ls hl => ?_)
                    refine lv_goto (tgt := 76) hx hb dX5_midpointOf_153 (by decide) ?_
                    exact ih76 (k + 1) U _ _ _ (by omega) (by omega) (by omega) (so_step s3 (s4 k (Nat.le_refl k) (by omega)) hV) (fun t q1 q2 => by rw [hV, insF_hi (by omega)]; exact s4 t (by omega) q2) a5 hP hD hS (lv_sub hl [1, 2, 3, 0] rfl)
                  · skip
                    refine lv_aload_n hx hb dX5_midpointOf_89 rfl (lv_at hl 0 rfl) ?_
                    refine va_get (D := D) (ci := 7) (v := .ref (h 14)) (C := RX5) (T := TX5) (N := 27) hx hb hts inX5 hown hK hP 0 rfl rfl 14 (by decide) (hts _ wF_X5_41) (fun _ h9 => h9) rfl dX5_midpointOf_90 ?_
                    refine lv_iload hx hb dX5_midpointOf_93 (lv_at hl 4 rfl) ?_
                    refine lv_iconst (v := 1) hx hb dX5_midpointOf_95 (by decide) ?_
                    refine k_isub hx hb a 1 rfl rfl (by omega) dX5_midpointOf_96 ?_
                    refine k_iald (D := D) (f := U 14) hx hb hK hP 11 0 rfl rfl (a - 1) rfl (by omega) (by omega) dX5_midpointOf_97 ?_
                    refine lv_aload_n hx hb dX5_midpointOf_98 rfl (lv_at hl 0 rfl) ?_
                    refine va_get (D := D) (ci := 7) (v := .ref (h 14)) (C := RX5) (T := TX5) (N := 27) hx hb hts inX5 hown hK hP 0 rfl rfl 14 (by decide) (hts _ wF_X5_41) (fun _ h9 => h9) rfl dX5_midpointOf_99 ?_
                    refine lv_iload hx hb dX5_midpointOf_102 (lv_at hl 4 rfl) ?_
                    refine k_iald (D := D) (f := U 14) hx hb hK hP 11 0 rfl rfl a rfl (by omega) (by omega) dX5_midpointOf_104 ?_
                    refine lv_icmp_le (tgt := 150) hx hb dX5_midpointOf_105 (by decide) (fun c105 => ?_) (fun c105 => ?_)
                    · skip
                      have hV : U 14 = insF k (Z 14) (Z 14 k) := by rw [← a2, insF_stop c86 (by rw [← a3]; exact c105), ← a3, upd_self]
                      refine k_iinc (k := 3) (lv' := [(3, .int (nI (k + 1))), (0, .ref (h 0)), (1, .int (nI j)), (2, .int (nI f)), (4, .int (nI a))]) hx hb k rfl dX5_midpointOf_150 hl rfl (by decide) rfl (fun ls hl => ?_)
                      refine lv_goto (tgt := 76) hx hb dX5_midpointOf_153 (by decide) ?_
                      exact ih76 (k + 1) U _ _ _ (by omega) (by omega) (by omega) (so_step s3 (s4 k (Nat.le_refl k) (by omega)) hV) (fun t q1 q2 => by rw [hV, insF_hi (by omega)]; exact s4 t (by omega) q2) a5 hP hD hS (lv_sub hl [1, 2, 3, 0] rfl)
                    · skip
                      refine lv_aload_n hx hb dX5_midpointOf_108 rfl (lv_at hl 0 rfl) ?_
                      refine va_get (D := D) (ci := 7) (v := .ref (h 14)) (C := RX5) (T := TX5) (N := 27) hx hb hts inX5 hown hK hP 0 rfl rfl 14 (by decide) (hts _ wF_X5_41) (fun _ h9 => h9) rfl dX5_midpointOf_109 ?_
                      refine lv_iload hx hb dX5_midpointOf_112 (lv_at hl 4 rfl) ?_
                      refine k_iald (D := D) (f := U 14) hx hb hK hP 11 0 rfl rfl a rfl (by omega) (by omega) dX5_midpointOf_114 ?_
                      refine lv_istore (lv' := [(5, .int (U 14 a)), (0, .ref (h 0)), (1, .int (nI j)), (2, .int (nI f)), (3, .int (nI k)), (4, .int (nI a))]) hx hb dX5_midpointOf_115 hl (by decide) rfl (fun ls hl => ?_)
                      refine lv_aload_n hx hb dX5_midpointOf_117 rfl (lv_at hl 1 rfl) ?_
                      refine va_get (D := D) (ci := 7) (v := .ref (h 14)) (C := RX5) (T := TX5) (N := 27) hx hb hts inX5 hown hK hP 0 rfl rfl 14 (by decide) (hts _ wF_X5_41) (fun _ h9 => h9) rfl dX5_midpointOf_118 ?_
                      refine lv_iload hx hb dX5_midpointOf_121 (lv_at hl 5 rfl) ?_
                      refine lv_aload_n hx hb dX5_midpointOf_123 rfl (lv_at hl 1 rfl) ?_
                      refine va_get (D := D) (ci := 7) (v := .ref (h 14)) (C := RX5) (T := TX5) (N := 27) hx hb hts inX5 hown hK hP 0 rfl rfl 14 (by decide) (hts _ wF_X5_41) (fun _ h9 => h9) rfl dX5_midpointOf_124 ?_
                      refine lv_iload hx hb dX5_midpointOf_127 (lv_at hl 5 rfl) ?_
                      refine lv_iconst (v := 1) hx hb dX5_midpointOf_129 (by decide) ?_
                      refine k_isub hx hb a 1 rfl rfl (by omega) dX5_midpointOf_130 ?_
                      refine k_iald (D := D) (f := U 14) hx hb hK hP 11 0 rfl rfl (a - 1) rfl (by omega) (by omega) dX5_midpointOf_131 ?_
                      refine k_iast (D := D) (f := U 14) (ws' := mw h cI cZ sl mi n (sX U 14 a (U 14 (a - 1))) th fr wt cy) hx hb hK hP hD hS 11 0 rfl rfl a rfl (by omega) (by omega) rfl dX5_midpointOf_132 (fun H locs hP hD hS => ?_)
                      refine lv_aload_n hx hb dX5_midpointOf_133 rfl (lv_at hl 1 rfl) ?_
                      refine va_get (D := D) (ci := 7) (v := .ref (h 14)) (C := RX5) (T := TX5) (N := 27) hx hb hts inX5 hown hK hP 0 rfl rfl 14 (by decide) (hts _ wF_X5_41) (fun _ h9 => h9) rfl dX5_midpointOf_134 ?_
                      refine lv_iload hx hb dX5_midpointOf_137 (lv_at hl 5 rfl) ?_
                      refine lv_iconst (v := 1) hx hb dX5_midpointOf_139 (by decide) ?_
                      refine k_isub hx hb a 1 rfl rfl (by omega) dX5_midpointOf_140 ?_
                      refine lv_iload hx hb dX5_midpointOf_141 (lv_at hl 0 rfl) ?_
                      refine k_iast (D := D) (f := (sX U 14 a (U 14 (a - 1))) 14) (ws' := mw h cI cZ sl mi n (sX (sX U 14 a (U 14 (a - 1))) 14 (a - 1) (U 14 a)) th fr wt cy) hx hb hK hP hD hS 11 0 rfl rfl (a - 1) rfl (by omega) (by omega) rfl dX5_midpointOf_143 (fun H locs hP hD hS => ?_)
                      refine k_idec (k := 5) (lv' := [(4, .int (nI (a - 1))), (5, .int (U 14 a)), (0, .ref (h 0)), (1, .int (nI j)), (2, .int (nI f)), (3, .int (nI k))]) hx hb (a - 1) (by rw [Nat.sub_add_cancel c86]) dX5_midpointOf_144 hl rfl (by decide) rfl (fun ls hl => ?_)
                      refine lv_goto (tgt := 84) hx hb dX5_midpointOf_147 (by decide) ?_
                      exact ih84 (a - 1) (sX (sX U 14 a (U 14 (a - 1))) 14 (a - 1) (U 14 a)) _ _ _ (by omega) (by omega) (sw_step c86 c105 a2 a3) (by rw [sX_at]; exact a3) (fun b hb => by rw [sX_ne hb, sX_ne hb]; exact a5 b hb) hP hD hS (lv_sub hl [2, 3, 4, 5, 0] rfl)
              exact L84 (k + 1) k Z _ _ _ (Nat.lt_succ_self _) (Nat.le_refl _) rfl rfl s5 hP hD hS (lv_sub hl [1, 2, 3, 4, 0] rfl)
        exact L76 ((f - 1) + 1) 1 Y' _ _ _ (Nat.lt_succ_self _) (Nat.le_refl _) hf1 (fun t ht => by rw [show t = 0 by omega]; exact h4 0 (by omega)) (fun t _ ht => h4 t ht) h5 hP hD hS (lv_sub hl [1, 2, 3, 0] rfl)
      · skip
        refine lv_iload_n hx hb dX5_midpointOf_22 rfl (lv_at hl 3 rfl) ?_
        refine lv_iload_n hx hb dX5_midpointOf_23 rfl (lv_at hl 1 rfl) ?_
        refine k_icmp_eq (tgt := 68) hx hb i j rfl rfl (by omega) (by omega) dX5_midpointOf_24 (by decide) (fun c24 => ?_) (fun c24 => ?_)
        · skip
          have hnd : ¬ dvP (Y 4) (Y 12) j i := fun z => z.1 c24
          refine k_iinc (k := 3) (lv' := [(3, .int (nI (i + 1))), (0, .ref (h 0)), (1, .int (nI j)), (2, .int (nI f))]) hx hb i rfl dX5_midpointOf_68 hl rfl (by decide) rfl (fun ls hl => ?_)
          refine lv_goto (tgt := 14) hx hb dX5_midpointOf_71 (by decide) ?_
          exact ih14 (i + 1) f Y' _ _ _ (by omega) (by omega) (by omega) (by first | rw [h3, dc_f hnd] | rw [h3, dc_t h1 hd]) (by first | (rw [de_f hnd]; exact h4) | (subst h3; exact de_step h1 hd h4 (by rw [h5 6 (by decide)]))) (by first | exact h5 | exact fun a ha => by rw [sX_ne ha]; exact h5 a ha) hP hD hS (lv_sub hl [1, 2, 3, 0] rfl)
        · skip
          refine lv_aload_n hx hb dX5_midpointOf_27 rfl (lv_at hl 0 rfl) ?_
          refine va_get (D := D) (ci := 7) (v := .ref (h 4)) (C := RX5) (T := TX5) (N := 27) hx hb hts inX5 hown hK hP 0 rfl rfl 4 (by decide) (hts _ wF_X5_7) (fun _ h9 => h9) rfl dX5_midpointOf_28 ?_
          refine lv_iload_n hx hb dX5_midpointOf_31 rfl (lv_at hl 3 rfl) ?_
          refine k_iald (D := D) (f := Y' 4) hx hb hK hP 1 0 rfl rfl i rfl (by omega) (by omega) dX5_midpointOf_32 ?_
          refine lv_iconst (v := 2) hx hb dX5_midpointOf_33 (by decide) ?_
          refine lv_icmp_ne (tgt := 68) hx hb dX5_midpointOf_34 (by decide) (fun c34 => ?_) (fun c34 => ?_)
          · skip
            have hnd : ¬ dvP (Y 4) (Y 12) j i := fun z => c34 (by rw [h5 4 (by decide)]; exact z.2.1)
            refine k_iinc (k := 3) (lv' := [(3, .int (nI (i + 1))), (0, .ref (h 0)), (1, .int (nI j)), (2, .int (nI f))]) hx hb i rfl dX5_midpointOf_68 hl rfl (by decide) rfl (fun ls hl => ?_)
            refine lv_goto (tgt := 14) hx hb dX5_midpointOf_71 (by decide) ?_
            exact ih14 (i + 1) f Y' _ _ _ (by omega) (by omega) (by omega) (by first | rw [h3, dc_f hnd] | rw [h3, dc_t h1 hd]) (by first | (rw [de_f hnd]; exact h4) | (subst h3; exact de_step h1 hd h4 (by rw [h5 6 (by decide)]))) (by first | exact h5 | exact fun a ha => by rw [sX_ne ha]; exact h5 a ha) hP hD hS (lv_sub hl [1, 2, 3, 0] rfl)
          · skip
            refine lv_aload_n hx hb dX5_midpointOf_37 rfl (lv_at hl 0 rfl) ?_
            refine va_get (D := D) (ci := 7) (v := .ref (h 12)) (C := RX5) (T := TX5) (N := 27) hx hb hts inX5 hown hK hP 0 rfl rfl 12 (by decide) (hts _ wF_X5_35) (fun _ h9 => h9) rfl dX5_midpointOf_38 ?_
            refine lv_iload_n hx hb dX5_midpointOf_41 rfl (lv_at hl 3 rfl) ?_
            refine k_zald (D := D) (f := Y' 12) hx hb hK hP 9 1 rfl rfl i rfl (by omega) (by omega) dX5_midpointOf_42 ?_
            refine lv_if_eq (tgt := 68) hx hb dX5_midpointOf_43 (by decide) (fun c43 => ?_) (fun c43 => ?_)
            · skip
              have hnd : ¬ dvP (Y 4) (Y 12) j i := fun z => z.2.2 (by rw [← h5 12 (by decide)]; exact c43)
              refine k_iinc (k := 3) (lv' := [(3, .int (nI (i + 1))), (0, .ref (h 0)), (1, .int (nI j)), (2, .int (nI f))]) hx hb i rfl dX5_midpointOf_68 hl rfl (by decide) rfl (fun ls hl => ?_)
              refine lv_goto (tgt := 14) hx hb dX5_midpointOf_71 (by decide) ?_
              exact ih14 (i + 1) f Y' _ _ _ (by omega) (by omega) (by omega) (by first | rw [h3, dc_f hnd] | rw [h3, dc_t h1 hd]) (by first | (rw [de_f hnd]; exact h4) | (subst h3; exact de_step h1 hd h4 (by rw [h5 6 (by decide)]))) (by first | exact h5 | exact fun a ha => by rw [sX_ne ha]; exact h5 a ha) hP hD hS (lv_sub hl [1, 2, 3, 0] rfl)
            · skip
              have hd : dvP (Y 4) (Y 12) j i := ⟨c24, by rw [← h5 4 (by decide)]; exact c34, by rw [← h5 12 (by decide)]; exact c43⟩
              refine lv_aload_n hx hb dX5_midpointOf_46 rfl (lv_at hl 0 rfl) ?_
              refine va_get (D := D) (ci := 7) (v := .ref (h 14)) (C := RX5) (T := TX5) (N := 27) hx hb hts inX5 hown hK hP 0 rfl rfl 14 (by decide) (hts _ wF_X5_41) (fun _ h9 => h9) rfl dX5_midpointOf_47 ?_
              refine lv_iload_n hx hb dX5_midpointOf_50 rfl (lv_at hl 2 rfl) ?_
              refine lv_aload_n hx hb dX5_midpointOf_51 rfl (lv_at hl 0 rfl) ?_
              refine va_get (D := D) (ci := 7) (v := .ref (h 6)) (C := RX5) (T := TX5) (N := 27) hx hb hts inX5 hown hK hP 0 rfl rfl 6 (by decide) (hts _ wF_X5_17) (fun _ h9 => h9) rfl dX5_midpointOf_52 ?_
              refine lv_iload_n hx hb dX5_midpointOf_55 rfl (lv_at hl 3 rfl) ?_
              refine k_iald (D := D) (f := Y' 6) hx hb hK hP 3 0 rfl rfl i rfl (by omega) (by omega) dX5_midpointOf_56 ?_
              refine lv_aload_n hx hb dX5_midpointOf_57 rfl (lv_at hl 0 rfl) ?_
              refine va_get (D := D) (ci := 7) (v := .ref (h 6)) (C := RX5) (T := TX5) (N := 27) hx hb hts inX5 hown hK hP 0 rfl rfl 6 (by decide) (hts _ wF_X5_17) (fun _ h9 => h9) rfl dX5_midpointOf_58 ?_
              refine lv_iload_n hx hb dX5_midpointOf_61 rfl (lv_at hl 1 rfl) ?_
              refine k_iald (D := D) (f := Y' 6) hx hb hK hP 3 0 rfl rfl j rfl (by omega) (by omega) dX5_midpointOf_62 ?_
              refine lv_isub hx hb dX5_midpointOf_63 ?_
              refine k_iast (D := D) (f := Y' 14) (ws' := mw h cI cZ sl mi n (sX Y' 14 f ((Y' 6 i) - (Y' 6 j))) th fr wt cy) hx hb hK hP hD hS 11 0 rfl rfl f rfl (by omega) (by omega) rfl dX5_midpointOf_64 (fun H locs hP hD hS => ?_)
              refine k_iinc (k := 2) (lv' := [(2, .int (nI (f + 1))), (0, .ref (h 0)), (1, .int (nI j)), (3, .int (nI i))]) hx hb f rfl dX5_midpointOf_65 hl rfl (by decide) rfl (fun ls hl => ?_)
              refine k_iinc (k := 3) (lv' := [(3, .int (nI (i + 1))), (2, .int (nI (f + 1))), (0, .ref (h 0)), (1, .int (nI j))]) hx hb i rfl dX5_midpointOf_68 hl rfl (by decide) rfl (fun ls hl => ?_)
              refine lv_goto (tgt := 14) hx hb dX5_midpointOf_71 (by decide) ?_
              exact ih14 (i + 1) (f + 1) (sX Y' 14 f ((Y' 6 i) - (Y' 6 j))) _ _ _ (by omega) (by omega) (by omega) (by first | rw [h3, dc_f hnd] | rw [h3, dc_t h1 hd]) (by first | (rw [de_f hnd]; exact h4) | (subst h3; exact de_step h1 hd h4 (by rw [h5 6 (by decide)]))) (by first | exact h5 | exact fun a ha => by rw [sX_ne ha]; exact h5 a ha) hP hD hS (lv_sub hl [2, 3, 1, 0] rfl)
  exact L14 ((n + 1 - 1) + 1) 1 1 (sX Y 14 0 0) _ _ _ (Nat.lt_succ_self _) (Nat.le_refl 1) (by omega) (dc_1 _ _ _).symm (fun t ht => by rw [show t = 0 by omega]; rfl) (fun a ha => sX_ne ha) hP hD hS (lv_sub hl [2, 3, 1, 0] rfl)
