/-! the reference: reads and small writes -/
theorem slot_1 {x : Int32} {sl : Nat} (h1 : 1 ≤ sl) (hn : sl < 2147483648) (a : ¬ x < 0) (b : ¬ nI sl ≤ x) : (1 : Int32) = if inR x 0 (sl - 1) then 1 else 0 := by
  have a := Int32.le_iff_toInt_le.mp (Int32.not_lt.mp a)
  have b := Int32.lt_iff_toInt_lt.mp (Int32.not_le.mp b)
  rw [nI_toInt hn] at b
  rw [if_pos (⟨by simpa using a, by omega⟩ : inR x 0 (sl - 1))]
theorem slot_0 {x : Int32} {sl : Nat} (h1 : 1 ≤ sl) (hn : sl < 2147483648) (h : x < 0 ∨ nI sl ≤ x) : (0 : Int32) = if inR x 0 (sl - 1) then 1 else 0 := by
  rw [if_neg]
  rintro ⟨a, b⟩
  rcases h with h | h
  · have := Int32.lt_iff_toInt_lt.mp h
    simp at this a
    omega
  · have := Int32.le_iff_toInt_le.mp h
    rw [nI_toInt hn] at this
    omega
/-- flips on both channels of the first k slots -/
def flc (f : Nat → Int32) : Nat → Int32
  | 0 => 0
  | k + 1 => flc f k + ((f k &&& 1) + (f k >>> ((1 : Int32) &&& 31)))
def rmd (a b : Int32) : Int32 := a - a / b * b
theorem ev_ne {e : Int32} (h : isEv e) : ¬ e = 0 := by rintro rfl; exact absurd h (by decide)
abbrev ClR (fl fc fb fe : Nat → Int32) (sl ch ba ev : Int32) (i : Nat) : Prop := (fl i = sl ∧ fc i &&& ch ≠ 0) ∧ rmd ba (if fe i ≤ ev then fe i else ev) = rmd (fb i) (if fe i ≤ ev then fe i else ev)
theorem slot63 {x : Int32} (a : ¬ x < 0) (b : x ≤ 63) : inR x 0 63 := by
  have a := Int32.le_iff_toInt_le.mp (Int32.not_lt.mp a)
  have b := Int32.le_iff_toInt_le.mp b
  exact ⟨by simpa using a, by simpa using b⟩
theorem pl_set {v : Int32} {P : Nat → Prop} {f : Nat → Int32} {i : Nat} (h : P i) (e : v = f i := by rfl) : (v = 0 ∧ ∀ k, k < i + 1 → ¬ P k) ∨ ∃ k, k < i + 1 ∧ P k ∧ v = f k := Or.inr ⟨i, by omega, h, e⟩
theorem pl_keep {v : Int32} {P : Nat → Prop} {f : Nat → Int32} {i : Nat} (h : (v = 0 ∧ ∀ k, k < i → ¬ P k) ∨ ∃ k, k < i ∧ P k ∧ v = f k) (hn : ¬ P i) : (v = 0 ∧ ∀ k, k < i + 1 → ¬ P k) ∨ ∃ k, k < i + 1 ∧ P k ∧ v = f k := by
  rcases h with ⟨h1, h2⟩ | ⟨k, h1, h2⟩
  · refine Or.inl ⟨h1, fun k hk => ?_⟩
    by_cases e : k = i
    · subst e; exact hn
    · exact h2 k (by omega)
  · exact Or.inr ⟨k, by omega, h2⟩
theorem pl_ret {B : Prop} [Decidable B] {t i fr : Nat} {o1 o2 r : Int32} {f1 f2 : Nat → Prop} {g : Nat → Int32} (ht : t = if B then 0 else 1) (h : fr ≤ i ∨ 0 < t) (h2 : i ≤ fr) (h3 : (o1 = 0 ∧ ∀ k, k < i → ¬ f1 k) ∨ ∃ k, k < i ∧ f1 k ∧ o1 = g k) (h4 : (o2 = 0 ∧ ∀ k, k < i → ¬ f2 k) ∨ ∃ k, k < i ∧ f2 k ∧ o2 = g k) (hr : r = if 0 < o1 then o1 else o2) :
    (¬ B ∧ t = 1) ∨ (B ∧ t = 0 ∧ ∃ o1 o2 : Int32, ((o1 = 0 ∧ ∀ k, k < fr → ¬ f1 k) ∨ ∃ k, k < fr ∧ f1 k ∧ o1 = g k) ∧ ((o2 = 0 ∧ ∀ k, k < fr → ¬ f2 k) ∨ ∃ k, k < fr ∧ f2 k ∧ o2 = g k) ∧ r = if 0 < o1 then o1 else o2) := by
  by_cases b : B
  · rw [if_pos b] at ht
    have e : i = fr := by omega
    subst e
    exact Or.inr ⟨b, ht, o1, o2, h3, h4, hr⟩
  · rw [if_neg b] at ht
    exact Or.inl ⟨b, ht⟩
/-- how far two errors are apart, as the reference reckons -/
def dsr (x y : Int32) : Int32 := if y < x then x - y else y - x
section CLO
variable {st er : Nat → Int32} {bd as ar bo ap : Int32} {i k n : Nat}
theorem cl_out (h : (as = 1 ∧ (∀ a b, 1 ≤ a → a < i → 1 ≤ b → b < a → (st a = 2 → st b = 2 → dsr (er a) (er b) ≤ bd)) ∧ ∀ b, 1 ≤ b → b < k → (st i = 2 → st b = 2 → dsr (er i) (er b) ≤ bd)) ∨ (as = 0 ∧ ((∃ a b, 1 ≤ a ∧ a < i ∧ 1 ≤ b ∧ b < a ∧ st a = 2 ∧ st b = 2 ∧ ¬ dsr (er a) (er b) ≤ bd) ∨ ∃ b, 1 ≤ b ∧ b < k ∧ st i = 2 ∧ st b = 2 ∧ ¬ dsr (er i) (er b) ≤ bd))) (hk : k = i) (h1 : 1 ≤ i := by omega) :
    (as = 1 ∧ ∀ a b, 1 ≤ a → a < i + 1 → 1 ≤ b → b < a → (st a = 2 → st b = 2 → dsr (er a) (er b) ≤ bd)) ∨ (as = 0 ∧ ∃ a b, 1 ≤ a ∧ a < i + 1 ∧ 1 ≤ b ∧ b < a ∧ st a = 2 ∧ st b = 2 ∧ ¬ dsr (er a) (er b) ≤ bd) := by
  subst hk
  rcases h with ⟨h0, ha, hb⟩ | ⟨h0, ⟨a, b, h⟩ | ⟨b, h⟩⟩
  · refine Or.inl ⟨h0, fun a b q1 q2 q3 q4 => ?_⟩
    by_cases e : a = k
    · subst e; exact hb b q3 q4
    · exact ha a b q1 (by omega) q3 q4
  · exact Or.inr ⟨h0, a, b, h.1, by omega, h.2.2⟩
  · exact Or.inr ⟨h0, k, b, h1, by omega, h.1, h.2⟩
theorem cl_t (h : (as = 1 ∧ (∀ a b, 1 ≤ a → a < i → 1 ≤ b → b < a → (st a = 2 → st b = 2 → dsr (er a) (er b) ≤ bd)) ∧ ∀ b, 1 ≤ b → b < k → (st i = 2 → st b = 2 → dsr (er i) (er b) ≤ bd)) ∨ (as = 0 ∧ ((∃ a b, 1 ≤ a ∧ a < i ∧ 1 ≤ b ∧ b < a ∧ st a = 2 ∧ st b = 2 ∧ ¬ dsr (er a) (er b) ≤ bd) ∨ ∃ b, 1 ≤ b ∧ b < k ∧ st i = 2 ∧ st b = 2 ∧ ¬ dsr (er i) (er b) ≤ bd))) (hbo : bo = if st i = 2 ∧ st k = 2 then 1 else 0) (_ : ap = dsr (er i) (er k)) (ha : ¬ as = 0) (hb : bo = 0) :
    ((1 : Int32) = 1 ∧ (∀ a b, 1 ≤ a → a < i → 1 ≤ b → b < a → (st a = 2 → st b = 2 → dsr (er a) (er b) ≤ bd)) ∧ ∀ b, 1 ≤ b → b < k + 1 → (st i = 2 → st b = 2 → dsr (er i) (er b) ≤ bd)) ∨ ((1 : Int32) = 0 ∧ ((∃ a b, 1 ≤ a ∧ a < i ∧ 1 ≤ b ∧ b < a ∧ st a = 2 ∧ st b = 2 ∧ ¬ dsr (er a) (er b) ≤ bd) ∨ ∃ b, 1 ≤ b ∧ b < k + 1 ∧ st i = 2 ∧ st b = 2 ∧ ¬ dsr (er i) (er b) ≤ bd)) := by
  rcases h with ⟨h0, h1, h2⟩ | ⟨h0, -⟩
  · refine Or.inl ⟨rfl, h1, fun b q1 q2 z1 z2 => ?_⟩
    by_cases e : b = k
    · subst e; rw [if_pos ⟨z1, z2⟩] at hbo; exact absurd (hbo.symm.trans hb) (by decide)
    · exact h2 b q1 (by omega) z1 z2
  · exact absurd h0 ha
theorem cl_t2 (h : (as = 1 ∧ (∀ a b, 1 ≤ a → a < i → 1 ≤ b → b < a → (st a = 2 → st b = 2 → dsr (er a) (er b) ≤ bd)) ∧ ∀ b, 1 ≤ b → b < k → (st i = 2 → st b = 2 → dsr (er i) (er b) ≤ bd)) ∨ (as = 0 ∧ ((∃ a b, 1 ≤ a ∧ a < i ∧ 1 ≤ b ∧ b < a ∧ st a = 2 ∧ st b = 2 ∧ ¬ dsr (er a) (er b) ≤ bd) ∨ ∃ b, 1 ≤ b ∧ b < k ∧ st i = 2 ∧ st b = 2 ∧ ¬ dsr (er i) (er b) ≤ bd))) (_ : bo = if st i = 2 ∧ st k = 2 then 1 else 0) (hap : ap = dsr (er i) (er k)) (ha : ¬ as = 0) (_ : ¬ bo = 0) (hc : ¬ bd < ap) :
    ((1 : Int32) = 1 ∧ (∀ a b, 1 ≤ a → a < i → 1 ≤ b → b < a → (st a = 2 → st b = 2 → dsr (er a) (er b) ≤ bd)) ∧ ∀ b, 1 ≤ b → b < k + 1 → (st i = 2 → st b = 2 → dsr (er i) (er b) ≤ bd)) ∨ ((1 : Int32) = 0 ∧ ((∃ a b, 1 ≤ a ∧ a < i ∧ 1 ≤ b ∧ b < a ∧ st a = 2 ∧ st b = 2 ∧ ¬ dsr (er a) (er b) ≤ bd) ∨ ∃ b, 1 ≤ b ∧ b < k + 1 ∧ st i = 2 ∧ st b = 2 ∧ ¬ dsr (er i) (er b) ≤ bd)) := by
  rcases h with ⟨h0, h1, h2⟩ | ⟨h0, -⟩
  · refine Or.inl ⟨rfl, h1, fun b q1 q2 z1 z2 => ?_⟩
    by_cases e : b = k
    · subst e; rw [← hap]; exact Int32.not_lt.mp hc
    · exact h2 b q1 (by omega) z1 z2
  · exact absurd h0 ha
theorem cl_f (h : (as = 1 ∧ (∀ a b, 1 ≤ a → a < i → 1 ≤ b → b < a → (st a = 2 → st b = 2 → dsr (er a) (er b) ≤ bd)) ∧ ∀ b, 1 ≤ b → b < k → (st i = 2 → st b = 2 → dsr (er i) (er b) ≤ bd)) ∨ (as = 0 ∧ ((∃ a b, 1 ≤ a ∧ a < i ∧ 1 ≤ b ∧ b < a ∧ st a = 2 ∧ st b = 2 ∧ ¬ dsr (er a) (er b) ≤ bd) ∨ ∃ b, 1 ≤ b ∧ b < k ∧ st i = 2 ∧ st b = 2 ∧ ¬ dsr (er i) (er b) ≤ bd))) (ha : as = 0) :
    ((0 : Int32) = 1 ∧ (∀ a b, 1 ≤ a → a < i → 1 ≤ b → b < a → (st a = 2 → st b = 2 → dsr (er a) (er b) ≤ bd)) ∧ ∀ b, 1 ≤ b → b < k + 1 → (st i = 2 → st b = 2 → dsr (er i) (er b) ≤ bd)) ∨ ((0 : Int32) = 0 ∧ ((∃ a b, 1 ≤ a ∧ a < i ∧ 1 ≤ b ∧ b < a ∧ st a = 2 ∧ st b = 2 ∧ ¬ dsr (er a) (er b) ≤ bd) ∨ ∃ b, 1 ≤ b ∧ b < k + 1 ∧ st i = 2 ∧ st b = 2 ∧ ¬ dsr (er i) (er b) ≤ bd)) := by
  rcases h with ⟨h0, -⟩ | ⟨h0, h | ⟨b, h⟩⟩
  · exact absurd (h0.symm.trans ha) (by decide)
  · exact Or.inr ⟨rfl, Or.inl h⟩
  · exact Or.inr ⟨rfl, Or.inr ⟨b, h.1, by omega, h.2.2⟩⟩
theorem cl_f2 (h : (as = 1 ∧ (∀ a b, 1 ≤ a → a < i → 1 ≤ b → b < a → (st a = 2 → st b = 2 → dsr (er a) (er b) ≤ bd)) ∧ ∀ b, 1 ≤ b → b < k → (st i = 2 → st b = 2 → dsr (er i) (er b) ≤ bd)) ∨ (as = 0 ∧ ((∃ a b, 1 ≤ a ∧ a < i ∧ 1 ≤ b ∧ b < a ∧ st a = 2 ∧ st b = 2 ∧ ¬ dsr (er a) (er b) ≤ bd) ∨ ∃ b, 1 ≤ b ∧ b < k ∧ st i = 2 ∧ st b = 2 ∧ ¬ dsr (er i) (er b) ≤ bd))) (hk : 1 ≤ k) (hbo : bo = if st i = 2 ∧ st k = 2 then 1 else 0) (hap : ap = dsr (er i) (er k)) (hb : ¬ bo = 0) (hc : bd < ap) :
    ((0 : Int32) = 1 ∧ (∀ a b, 1 ≤ a → a < i → 1 ≤ b → b < a → (st a = 2 → st b = 2 → dsr (er a) (er b) ≤ bd)) ∧ ∀ b, 1 ≤ b → b < k + 1 → (st i = 2 → st b = 2 → dsr (er i) (er b) ≤ bd)) ∨ ((0 : Int32) = 0 ∧ ((∃ a b, 1 ≤ a ∧ a < i ∧ 1 ≤ b ∧ b < a ∧ st a = 2 ∧ st b = 2 ∧ ¬ dsr (er a) (er b) ≤ bd) ∨ ∃ b, 1 ≤ b ∧ b < k + 1 ∧ st i = 2 ∧ st b = 2 ∧ ¬ dsr (er i) (er b) ≤ bd)) := by
  by_cases z : st i = 2 ∧ st k = 2
  · exact Or.inr ⟨rfl, Or.inr ⟨k, hk, by omega, z.1, z.2, by rw [← hap]; exact i32_nlt hc⟩⟩
  · rw [if_neg z] at hbo; exact absurd hbo hb
theorem cl_end (h : (ar = 1 ∧ ∀ a b, 1 ≤ a → a < n + 1 → 1 ≤ b → b < a → (st a = 2 → st b = 2 → dsr (er a) (er b) ≤ bd)) ∨ (ar = 0 ∧ ∃ a b, 1 ≤ a ∧ a < n + 1 ∧ 1 ≤ b ∧ b < a ∧ st a = 2 ∧ st b = 2 ∧ ¬ dsr (er a) (er b) ≤ bd)) : (ar = 1 ∧ ∀ a b, 1 ≤ a → a ≤ n → 1 ≤ b → b < a → (st a = 2 → st b = 2 → dsr (er a) (er b) ≤ bd)) ∨ (ar = 0 ∧ ∃ a b, 1 ≤ a ∧ a ≤ n ∧ 1 ≤ b ∧ b < a ∧ st a = 2 ∧ st b = 2 ∧ ¬ dsr (er a) (er b) ≤ bd) := by
  rcases h with ⟨h0, h⟩ | ⟨h0, a, b, h⟩
  · exact Or.inl ⟨h0, fun a b q1 q2 => h a b q1 (by omega)⟩
  · exact Or.inr ⟨h0, a, b, h.1, by omega, h.2.2⟩
end CLO
set_option maxHeartbeats 4000000 in
set_option maxRecDepth 100000 in
theorem c_X5_thrown {l : Launch} {D : va_G} {cI cZ cL : ClassId} {h : Nat → Nat} {sl mi n : Nat} {Y : Nat → Nat → Int32} {th fr wt cy : Nat}  : KR l yX5_thrown (.code yX5_thrown cX5_thrown 1 (some .int)) 0 D (tyz cI cZ cL) [.ref (h 0)] (mw h cI cZ sl mi n Y th fr wt cy) (fun r => r = nI th) := by
  refine KR.of (own := RX5) (lvs := [(0, .ref (h 0))]) (by decide) rfl (Nat.le_of_ble_eq_true rfl) rfl ?_
  intro p e s m args below meth c Q C hK hN hP hD ret ls hl
  obtain ⟨hx, hb, hml, hown, hts, hr9, hlk9⟩ := id C
  refine lv_aload_n hx hb dX5_thrown_0 rfl (lv_at hl 0 rfl) ?_
  refine va_get (D := D) (ci := 7) (v := .int (nI th)) (C := RX5) (T := TX5) (N := 27) hx hb hts inX5 hown hK hP 0 rfl rfl 0 (by decide) (hts _ wF_X5_81) (fun _ h9 => h9) rfl dX5_thrown_1 ?_
  exact ret _ _ _ dX5_thrown_4 rfl
set_option maxHeartbeats 4000000 in
set_option maxRecDepth 100000 in
theorem c_X5_isNode {l : Launch} {D : va_G} {cI cZ cL : ClassId} {h : Nat → Nat} {sl mi n : Nat} {Y : Nat → Nat → Int32} {th fr wt cy : Nat} (hn : n ≤ 16) (x : Int32) : KR l yX5_isNode (.code yX5_isNode cX5_isNode 2 (some .boolean)) 0 D (tyz cI cZ cL) [.ref (h 0), .int x] (mw h cI cZ sl mi n Y th fr wt cy) (fun r => r = if inR x 1 n then 1 else 0) := by
  refine KR.ofz (own := RX5) (lvs := [(0, .ref (h 0)), (1, .int x)]) (by decide) rfl (Nat.le_of_ble_eq_true rfl) rfl ?_
  intro p e s m args below meth c Q C hK hN hP hD ret ls hl
  obtain ⟨hx, hb, hml, hown, hts, hr9, hlk9⟩ := id C
  refine lv_iload_n hx hb dX5_isNode_0 rfl (lv_at hl 1 rfl) ?_
  refine lv_iconst (v := 1) hx hb dX5_isNode_1 (by decide) ?_
  refine lv_icmp_lt (tgt := 17) hx hb dX5_isNode_2 (by decide) (fun c2 => ?_) (fun c2 => ?_)
  · skip
    refine lv_iconst (v := 0) hx hb dX5_isNode_17 (by decide) ?_
    exact ret _ _ _ dX5_isNode_18 (Or.inl rfl) (has_0 (by omega) (by first | exact Or.inl c2 | exact Or.inr c10))
  · skip
    refine lv_iload_n hx hb dX5_isNode_5 rfl (lv_at hl 1 rfl) ?_
    refine lv_aload_n hx hb dX5_isNode_6 rfl (lv_at hl 0 rfl) ?_
    refine va_get (D := D) (ci := 7) (v := .int (nI n)) (C := RX5) (T := TX5) (N := 27) hx hb hts inX5 hown hK hP 0 rfl rfl 1 (by decide) (hts _ wF_X5_71) (fun _ h9 => h9) rfl dX5_isNode_7 ?_
    refine lv_icmp_gt (tgt := 17) hx hb dX5_isNode_10 (by decide) (fun c10 => ?_) (fun c10 => ?_)
    · skip
      refine lv_iconst (v := 0) hx hb dX5_isNode_17 (by decide) ?_
      exact ret _ _ _ dX5_isNode_18 (Or.inl rfl) (has_0 (by omega) (by first | exact Or.inl c2 | exact Or.inr c10))
    · skip
      refine lv_iconst (v := 1) hx hb dX5_isNode_13 (by decide) ?_
      refine lv_goto (tgt := 18) hx hb dX5_isNode_14 (by decide) ?_
      exact ret _ _ _ dX5_isNode_18 (Or.inr rfl) (has_1 (by omega) c2 c10)
set_option maxHeartbeats 4000000 in
set_option maxRecDepth 100000 in
theorem c_X5_isSlot {l : Launch} {D : va_G} {cI cZ cL : ClassId} {h : Nat → Nat} {sl mi n : Nat} {Y : Nat → Nat → Int32} {th fr wt cy : Nat} (hs1 : 1 ≤ sl) (hsl : sl ≤ 60) (x : Int32) : KR l yX5_isSlot (.code yX5_isSlot cX5_isSlot 2 (some .boolean)) 0 D (tyz cI cZ cL) [.ref (h 0), .int x] (mw h cI cZ sl mi n Y th fr wt cy) (fun r => r = if inR x 0 (sl - 1) then 1 else 0) := by
  refine KR.ofz (own := RX5) (lvs := [(0, .ref (h 0)), (1, .int x)]) (by decide) rfl (Nat.le_of_ble_eq_true rfl) rfl ?_
  intro p e s m args below meth c Q C hK hN hP hD ret ls hl
  obtain ⟨hx, hb, hml, hown, hts, hr9, hlk9⟩ := id C
  refine lv_iload_n hx hb dX5_isSlot_0 rfl (lv_at hl 1 rfl) ?_
  refine lv_if_lt (tgt := 16) hx hb dX5_isSlot_1 (by decide) (fun c1 => ?_) (fun c1 => ?_)
  · skip
    refine lv_iconst (v := 0) hx hb dX5_isSlot_16 (by decide) ?_
    exact ret _ _ _ dX5_isSlot_17 (Or.inl rfl) (slot_0 hs1 (by omega) (by first | exact Or.inl c1 | exact Or.inr c9))
  · skip
    refine lv_iload_n hx hb dX5_isSlot_4 rfl (lv_at hl 1 rfl) ?_
    refine lv_aload_n hx hb dX5_isSlot_5 rfl (lv_at hl 0 rfl) ?_
    refine va_get (D := D) (ci := 7) (v := .int (nI sl)) (C := RX5) (T := TX5) (N := 27) hx hb hts inX5 hown hK hP 0 rfl rfl 2 (by decide) (hts _ wF_X5_75) (fun _ h9 => h9) rfl dX5_isSlot_6 ?_
    refine lv_icmp_ge (tgt := 16) hx hb dX5_isSlot_9 (by decide) (fun c9 => ?_) (fun c9 => ?_)
    · skip
      refine lv_iconst (v := 0) hx hb dX5_isSlot_16 (by decide) ?_
      exact ret _ _ _ dX5_isSlot_17 (Or.inl rfl) (slot_0 hs1 (by omega) (by first | exact Or.inl c1 | exact Or.inr c9))
    · skip
      refine lv_iconst (v := 1) hx hb dX5_isSlot_12 (by decide) ?_
      refine lv_goto (tgt := 17) hx hb dX5_isSlot_13 (by decide) ?_
      exact ret _ _ _ dX5_isSlot_17 (Or.inr rfl) (slot_1 hs1 (by omega) c1 c9)
set_option maxHeartbeats 4000000 in
set_option maxRecDepth 100000 in
theorem c_X5_state {l : Launch} {D : va_G} {cI cZ cL : ClassId} {h : Nat → Nat} {sl mi n : Nat} {Y : Nat → Nat → Int32} {th fr wt cy : Nat} (hn : n ≤ 16) (x : Int32) : KI l yX5_state (.code yX5_state cX5_state 2 (some .int)) 1 D (tyz cI cZ cL) [.ref (h 0), .int x] (mw h cI cZ sl mi n Y th fr wt cy) (fun r _ => r = if inR x 1 n then Y 4 x.toNatClampNeg else -1) (fun _ : Unit => mw h cI cZ sl mi n Y 0 fr wt cy) := by
  refine KI.of (own := RX5) (lvs := [(0, .ref (h 0)), (1, .int x)]) (by decide) rfl (Nat.le_of_ble_eq_true rfl) rfl ?_
  intro p e s m args below meth c Q C hK hN A hA hP hD hS ret ls hl
  obtain ⟨hx, hb, hml, hown, hts, hr9, hlk9⟩ := id C
  refine lv_aload_n hx hb dX5_state_0 rfl (lv_at hl 0 rfl) ?_
  refine lv_iconst (v := 0) hx hb dX5_state_1 (by decide) ?_
  refine k_put (D := D) (ci := 7) (v := .int (nI 0)) (ty := .int) (C := RX5) (T := TX5) (N := 27) (ws' := mw h cI cZ sl mi n Y 0 fr wt cy) hx hb hts inX5 tyX5 tyX5_ok nmX5 hown hK hP hD hS 0 rfl rfl 0 (by decide) (hts _ wF_X5_81) (fun _ h9 => h9) rfl (by decide +kernel) rfl rfl (Nat.le_of_ble_eq_true rfl) rfl dX5_state_2 (fun H locs hP hD hS => ?_)
  refine lv_aload_n hx hb dX5_state_5 rfl (lv_at hl 0 rfl) ?_
  refine lv_iload_n hx hb dX5_state_6 rfl (lv_at hl 1 rfl) ?_
  refine k_callR (D := D) C hK hN hP hD (c_X5_isNode hn x) hl cf_yX5_isNode wM_X5_84 0 7 rfl rfl rfl rfl (Nat.le_of_ble_eq_true rfl) ⟨by decide, by decide⟩ ⟨Nat.le_of_ble_eq_true rfl, Nat.le_of_ble_eq_true rfl⟩ dX5_state_7 (fun r7 hr7 => ?_)
  have hr7 : r7 = (if inR x 1 n then 1 else 0) := hr7
  subst hr7
  refine k_ifeq_P (P := (inR x 1 n)) (tgt := 22) hx hb rfl dX5_state_10 (by decide) (fun c10 => ?_) (fun c10 => ?_)
  · skip
    refine lv_iconst (v := (-1)) hx hb dX5_state_22 (by decide) ?_
    exact ret _ () _ _ _ _ dX5_state_23 hP hD hS (ite_n c10)
  · skip
    obtain ⟨j, hj1, hj2, rfl⟩ := inR_of c10
    refine lv_aload_n hx hb dX5_state_13 rfl (lv_at hl 0 rfl) ?_
    refine va_get (D := D) (ci := 7) (v := .ref (h 4)) (C := RX5) (T := TX5) (N := 27) hx hb hts inX5 hown hK hP 0 rfl rfl 4 (by decide) (hts _ wF_X5_7) (fun _ h9 => h9) rfl dX5_state_14 ?_
    refine lv_iload_n hx hb dX5_state_17 rfl (lv_at hl 1 rfl) ?_
    refine k_iald (D := D) (f := Y 4) hx hb hK hP 1 0 rfl rfl j rfl (by omega) (by omega) dX5_state_18 ?_
    refine lv_goto (tgt := 23) hx hb dX5_state_19 (by decide) ?_
    exact ret _ () _ _ _ _ dX5_state_23 hP hD hS (by rw [if_pos c10, nI_clamp (by omega)])
set_option maxHeartbeats 4000000 in
set_option maxRecDepth 100000 in
theorem c_X5_offset {l : Launch} {D : va_G} {cI cZ cL : ClassId} {h : Nat → Nat} {sl mi n : Nat} {Y : Nat → Nat → Int32} {th fr wt cy : Nat} (hn : n ≤ 16) (x : Int32) : KI l yX5_offset (.code yX5_offset cX5_offset 2 (some .int)) 1 D (tyz cI cZ cL) [.ref (h 0), .int x] (mw h cI cZ sl mi n Y th fr wt cy) (fun r _ => r = if inR x 1 n then Y 6 x.toNatClampNeg else 0) (fun _ : Unit => mw h cI cZ sl mi n Y 0 fr wt cy) := by
  refine KI.of (own := RX5) (lvs := [(0, .ref (h 0)), (1, .int x)]) (by decide) rfl (Nat.le_of_ble_eq_true rfl) rfl ?_
  intro p e s m args below meth c Q C hK hN A hA hP hD hS ret ls hl
  obtain ⟨hx, hb, hml, hown, hts, hr9, hlk9⟩ := id C
  refine lv_aload_n hx hb dX5_offset_0 rfl (lv_at hl 0 rfl) ?_
  refine lv_iconst (v := 0) hx hb dX5_offset_1 (by decide) ?_
  refine k_put (D := D) (ci := 7) (v := .int (nI 0)) (ty := .int) (C := RX5) (T := TX5) (N := 27) (ws' := mw h cI cZ sl mi n Y 0 fr wt cy) hx hb hts inX5 tyX5 tyX5_ok nmX5 hown hK hP hD hS 0 rfl rfl 0 (by decide) (hts _ wF_X5_81) (fun _ h9 => h9) rfl (by decide +kernel) rfl rfl (Nat.le_of_ble_eq_true rfl) rfl dX5_offset_2 (fun H locs hP hD hS => ?_)
  refine lv_aload_n hx hb dX5_offset_5 rfl (lv_at hl 0 rfl) ?_
  refine lv_iload_n hx hb dX5_offset_6 rfl (lv_at hl 1 rfl) ?_
  refine k_callR (D := D) C hK hN hP hD (c_X5_isNode hn x) hl cf_yX5_isNode wM_X5_84 0 7 rfl rfl rfl rfl (Nat.le_of_ble_eq_true rfl) ⟨by decide, by decide⟩ ⟨Nat.le_of_ble_eq_true rfl, Nat.le_of_ble_eq_true rfl⟩ dX5_offset_7 (fun r7 hr7 => ?_)
  have hr7 : r7 = (if inR x 1 n then 1 else 0) := hr7
  subst hr7
  refine k_ifeq_P (P := (inR x 1 n)) (tgt := 22) hx hb rfl dX5_offset_10 (by decide) (fun c10 => ?_) (fun c10 => ?_)
  · skip
    refine lv_iconst (v := 0) hx hb dX5_offset_22 (by decide) ?_
    exact ret _ () _ _ _ _ dX5_offset_23 hP hD hS (ite_n c10)
  · skip
    obtain ⟨j, hj1, hj2, rfl⟩ := inR_of c10
    refine lv_aload_n hx hb dX5_offset_13 rfl (lv_at hl 0 rfl) ?_
    refine va_get (D := D) (ci := 7) (v := .ref (h 6)) (C := RX5) (T := TX5) (N := 27) hx hb hts inX5 hown hK hP 0 rfl rfl 6 (by decide) (hts _ wF_X5_17) (fun _ h9 => h9) rfl dX5_offset_14 ?_
    refine lv_iload_n hx hb dX5_offset_17 rfl (lv_at hl 1 rfl) ?_
    refine k_iald (D := D) (f := Y 6) hx hb hK hP 3 0 rfl rfl j rfl (by omega) (by omega) dX5_offset_18 ?_
    refine lv_goto (tgt := 23) hx hb dX5_offset_19 (by decide) ?_
    exact ret _ () _ _ _ _ dX5_offset_23 hP hD hS (by rw [if_pos c10, nI_clamp (by omega)])
set_option maxHeartbeats 4000000 in
set_option maxRecDepth 100000 in
theorem c_X5_rate {l : Launch} {D : va_G} {cI cZ cL : ClassId} {h : Nat → Nat} {sl mi n : Nat} {Y : Nat → Nat → Int32} {th fr wt cy : Nat} (hn : n ≤ 16) (x : Int32) : KI l yX5_rate (.code yX5_rate cX5_rate 2 (some .int)) 1 D (tyz cI cZ cL) [.ref (h 0), .int x] (mw h cI cZ sl mi n Y th fr wt cy) (fun r _ => r = if inR x 1 n then Y 8 x.toNatClampNeg else 0) (fun _ : Unit => mw h cI cZ sl mi n Y 0 fr wt cy) := by
  refine KI.of (own := RX5) (lvs := [(0, .ref (h 0)), (1, .int x)]) (by decide) rfl (Nat.le_of_ble_eq_true rfl) rfl ?_
  intro p e s m args below meth c Q C hK hN A hA hP hD hS ret ls hl
  obtain ⟨hx, hb, hml, hown, hts, hr9, hlk9⟩ := id C
  refine lv_aload_n hx hb dX5_rate_0 rfl (lv_at hl 0 rfl) ?_
  refine lv_iconst (v := 0) hx hb dX5_rate_1 (by decide) ?_
  refine k_put (D := D) (ci := 7) (v := .int (nI 0)) (ty := .int) (C := RX5) (T := TX5) (N := 27) (ws' := mw h cI cZ sl mi n Y 0 fr wt cy) hx hb hts inX5 tyX5 tyX5_ok nmX5 hown hK hP hD hS 0 rfl rfl 0 (by decide) (hts _ wF_X5_81) (fun _ h9 => h9) rfl (by decide +kernel) rfl rfl (Nat.le_of_ble_eq_true rfl) rfl dX5_rate_2 (fun H locs hP hD hS => ?_)
  refine lv_aload_n hx hb dX5_rate_5 rfl (lv_at hl 0 rfl) ?_
  refine lv_iload_n hx hb dX5_rate_6 rfl (lv_at hl 1 rfl) ?_
  refine k_callR (D := D) C hK hN hP hD (c_X5_isNode hn x) hl cf_yX5_isNode wM_X5_84 0 7 rfl rfl rfl rfl (Nat.le_of_ble_eq_true rfl) ⟨by decide, by decide⟩ ⟨Nat.le_of_ble_eq_true rfl, Nat.le_of_ble_eq_true rfl⟩ dX5_rate_7 (fun r7 hr7 => ?_)
  have hr7 : r7 = (if inR x 1 n then 1 else 0) := hr7
  subst hr7
  refine k_ifeq_P (P := (inR x 1 n)) (tgt := 22) hx hb rfl dX5_rate_10 (by decide) (fun c10 => ?_) (fun c10 => ?_)
  · skip
    refine lv_iconst (v := 0) hx hb dX5_rate_22 (by decide) ?_
    exact ret _ () _ _ _ _ dX5_rate_23 hP hD hS (ite_n c10)
  · skip
    obtain ⟨j, hj1, hj2, rfl⟩ := inR_of c10
    refine lv_aload_n hx hb dX5_rate_13 rfl (lv_at hl 0 rfl) ?_
    refine va_get (D := D) (ci := 7) (v := .ref (h 8)) (C := RX5) (T := TX5) (N := 27) hx hb hts inX5 hown hK hP 0 rfl rfl 8 (by decide) (hts _ wF_X5_23) (fun _ h9 => h9) rfl dX5_rate_14 ?_
    refine lv_iload_n hx hb dX5_rate_17 rfl (lv_at hl 1 rfl) ?_
    refine k_iald (D := D) (f := Y 8) hx hb hK hP 5 0 rfl rfl j rfl (by omega) (by omega) dX5_rate_18 ?_
    refine lv_goto (tgt := 23) hx hb dX5_rate_19 (by decide) ?_
    exact ret _ () _ _ _ _ dX5_rate_23 hP hD hS (by rw [if_pos c10, nI_clamp (by omega)])
set_option maxHeartbeats 4000000 in
set_option maxRecDepth 100000 in
theorem c_X5_midpoint {l : Launch} {D : va_G} {cI cZ cL : ClassId} {h : Nat → Nat} {sl mi n : Nat} {Y : Nat → Nat → Int32} {th fr wt cy : Nat} (hn : n ≤ 16) (x : Int32) : KI l yX5_midpoint (.code yX5_midpoint cX5_midpoint 2 (some .int)) 1 D (tyz cI cZ cL) [.ref (h 0), .int x] (mw h cI cZ sl mi n Y th fr wt cy) (fun r _ => r = if inR x 1 n then Y 9 x.toNatClampNeg else 0) (fun _ : Unit => mw h cI cZ sl mi n Y 0 fr wt cy) := by
  refine KI.of (own := RX5) (lvs := [(0, .ref (h 0)), (1, .int x)]) (by decide) rfl (Nat.le_of_ble_eq_true rfl) rfl ?_
  intro p e s m args below meth c Q C hK hN A hA hP hD hS ret ls hl
  obtain ⟨hx, hb, hml, hown, hts, hr9, hlk9⟩ := id C
  refine lv_aload_n hx hb dX5_midpoint_0 rfl (lv_at hl 0 rfl) ?_
  refine lv_iconst (v := 0) hx hb dX5_midpoint_1 (by decide) ?_
  refine k_put (D := D) (ci := 7) (v := .int (nI 0)) (ty := .int) (C := RX5) (T := TX5) (N := 27) (ws' := mw h cI cZ sl mi n Y 0 fr wt cy) hx hb hts inX5 tyX5 tyX5_ok nmX5 hown hK hP hD hS 0 rfl rfl 0 (by decide) (hts _ wF_X5_81) (fun _ h9 => h9) rfl (by decide +kernel) rfl rfl (Nat.le_of_ble_eq_true rfl) rfl dX5_midpoint_2 (fun H locs hP hD hS => ?_)
  refine lv_aload_n hx hb dX5_midpoint_5 rfl (lv_at hl 0 rfl) ?_
  refine lv_iload_n hx hb dX5_midpoint_6 rfl (lv_at hl 1 rfl) ?_
  refine k_callR (D := D) C hK hN hP hD (c_X5_isNode hn x) hl cf_yX5_isNode wM_X5_84 0 7 rfl rfl rfl rfl (Nat.le_of_ble_eq_true rfl) ⟨by decide, by decide⟩ ⟨Nat.le_of_ble_eq_true rfl, Nat.le_of_ble_eq_true rfl⟩ dX5_midpoint_7 (fun r7 hr7 => ?_)
  have hr7 : r7 = (if inR x 1 n then 1 else 0) := hr7
  subst hr7
  refine k_ifeq_P (P := (inR x 1 n)) (tgt := 22) hx hb rfl dX5_midpoint_10 (by decide) (fun c10 => ?_) (fun c10 => ?_)
  · skip
    refine lv_iconst (v := 0) hx hb dX5_midpoint_22 (by decide) ?_
    exact ret _ () _ _ _ _ dX5_midpoint_23 hP hD hS (ite_n c10)
  · skip
    obtain ⟨j, hj1, hj2, rfl⟩ := inR_of c10
    refine lv_aload_n hx hb dX5_midpoint_13 rfl (lv_at hl 0 rfl) ?_
    refine va_get (D := D) (ci := 7) (v := .ref (h 9)) (C := RX5) (T := TX5) (N := 27) hx hb hts inX5 hown hK hP 0 rfl rfl 9 (by decide) (hts _ wF_X5_26) (fun _ h9 => h9) rfl dX5_midpoint_14 ?_
    refine lv_iload_n hx hb dX5_midpoint_17 rfl (lv_at hl 1 rfl) ?_
    refine k_iald (D := D) (f := Y 9) hx hb hK hP 6 0 rfl rfl j rfl (by omega) (by omega) dX5_midpoint_18 ?_
    refine lv_goto (tgt := 23) hx hb dX5_midpoint_19 (by decide) ?_
    exact ret _ () _ _ _ _ dX5_midpoint_23 hP hD hS (by rw [if_pos c10, nI_clamp (by omega)])
set_option maxHeartbeats 4000000 in
set_option maxRecDepth 100000 in
theorem c_X5_drift {l : Launch} {D : va_G} {cI cZ cL : ClassId} {h : Nat → Nat} {sl mi n : Nat} {Y : Nat → Nat → Int32} {th fr wt cy : Nat} (hn : n ≤ 16) (x pa : Int32) : KI l yX5_drift (.code yX5_drift cX5_drift 3 (some .int)) 1 D (tyz cI cZ cL) [.ref (h 0), .int x, .int pa] (mw h cI cZ sl mi n Y th fr wt cy) (fun r u => (¬ inR x 1 n ∧ r = -1 ∧ u = Y) ∨ (inR x 1 n ∧ ¬ ((-200) ≤ pa ∧ pa ≤ 200) ∧ r = -2 ∧ u = Y) ∨ (inR x 1 n ∧ ((-200) ≤ pa ∧ pa ≤ 200) ∧ r = 1 ∧ u = sX Y 7 x.toNatClampNeg pa)) (fun u : Nat → Nat → Int32 => mw h cI cZ sl mi n u 0 fr wt cy) := by
  refine KI.of (own := RX5) (lvs := [(0, .ref (h 0)), (1, .int x), (2, .int pa)]) (by decide) rfl (Nat.le_of_ble_eq_true rfl) rfl ?_
  intro p e s m args below meth c Q C hK hN A hA hP hD hS ret ls hl
  obtain ⟨hx, hb, hml, hown, hts, hr9, hlk9⟩ := id C
  refine lv_aload_n hx hb dX5_drift_0 rfl (lv_at hl 0 rfl) ?_
  refine lv_iconst (v := 0) hx hb dX5_drift_1 (by decide) ?_
  refine k_put (D := D) (ci := 7) (v := .int (nI 0)) (ty := .int) (C := RX5) (T := TX5) (N := 27) (ws' := mw h cI cZ sl mi n Y 0 fr wt cy) hx hb hts inX5 tyX5 tyX5_ok nmX5 hown hK hP hD hS 0 rfl rfl 0 (by decide) (hts _ wF_X5_81) (fun _ h9 => h9) rfl (by decide +kernel) rfl rfl (Nat.le_of_ble_eq_true rfl) rfl dX5_drift_2 (fun H locs hP hD hS => ?_)
  refine lv_aload_n hx hb dX5_drift_5 rfl (lv_at hl 0 rfl) ?_
  refine lv_iload_n hx hb dX5_drift_6 rfl (lv_at hl 1 rfl) ?_
  refine k_callR (D := D) C hK hN hP hD (c_X5_isNode hn x) hl cf_yX5_isNode wM_X5_84 0 7 rfl rfl rfl rfl (Nat.le_of_ble_eq_true rfl) ⟨by decide, by decide⟩ ⟨Nat.le_of_ble_eq_true rfl, Nat.le_of_ble_eq_true rfl⟩ dX5_drift_7 (fun r7 hr7 => ?_)
  have hr7 : r7 = (if inR x 1 n then 1 else 0) := hr7
  subst hr7
  refine k_ifne_P (P := (inR x 1 n)) (tgt := 15) hx hb rfl dX5_drift_10 (by decide) (fun c10 => ?_) (fun c10 => ?_)
  · skip
    refine lv_iload_n hx hb dX5_drift_15 rfl (lv_at hl 2 rfl) ?_
    refine lv_sipush (v := (-200)) hx hb dX5_drift_16 (by decide) ?_
    refine lv_icmp_lt (tgt := 29) hx hb dX5_drift_19 (by decide) (fun c19 => ?_) (fun c19 => ?_)
    · skip
      refine lv_bipush (v := (-2)) hx hb dX5_drift_29 (by decide) ?_
      exact ret _ Y _ _ _ _ dX5_drift_31 hP hD hS (Or.inr (Or.inl ⟨c10, (by first | exact fun z => absurd z.1 (i32_nlt c19) | exact fun z => c26 z.2), rfl, rfl⟩))
    · skip
      refine lv_iload_n hx hb dX5_drift_22 rfl (lv_at hl 2 rfl) ?_
      refine lv_sipush (v := 200) hx hb dX5_drift_23 (by decide) ?_
      refine lv_icmp_le (tgt := 32) hx hb dX5_drift_26 (by decide) (fun c26 => ?_) (fun c26 => ?_)
      · skip
        obtain ⟨j, hj1, hj2, rfl⟩ := inR_of c10
        refine lv_aload_n hx hb dX5_drift_32 rfl (lv_at hl 0 rfl) ?_
        refine va_get (D := D) (ci := 7) (v := .ref (h 7)) (C := RX5) (T := TX5) (N := 27) hx hb hts inX5 hown hK hP 0 rfl rfl 7 (by decide) (hts _ wF_X5_20) (fun _ h9 => h9) rfl dX5_drift_33 ?_
        refine lv_iload_n hx hb dX5_drift_36 rfl (lv_at hl 1 rfl) ?_
        refine lv_iload_n hx hb dX5_drift_37 rfl (lv_at hl 2 rfl) ?_
        refine k_iast (D := D) (f := Y 7) (ws' := mw h cI cZ sl mi n (sX Y 7 j pa) 0 fr wt cy) hx hb hK hP hD hS 4 0 rfl rfl j rfl (by omega) (by omega) rfl dX5_drift_38 (fun H locs hP hD hS => ?_)
        refine lv_iconst (v := 1) hx hb dX5_drift_39 (by decide) ?_
        exact ret _ (sX Y 7 j pa) _ _ _ _ dX5_drift_40 hP hD hS (Or.inr (Or.inr ⟨c10, ⟨Int32.not_lt.mp c19, c26⟩, rfl, by rw [nI_clamp (by omega)]⟩))
      · skip
        refine lv_bipush (v := (-2)) hx hb dX5_drift_29 (by decide) ?_
        exact ret _ Y _ _ _ _ dX5_drift_31 hP hD hS (Or.inr (Or.inl ⟨c10, (by first | exact fun z => absurd z.1 (i32_nlt c19) | exact fun z => c26 z.2), rfl, rfl⟩))
  · skip
    refine lv_iconst (v := (-1)) hx hb dX5_drift_13 (by decide) ?_
    exact ret _ Y _ _ _ _ dX5_drift_14 hP hD hS (Or.inl ⟨c10, rfl, rfl⟩)
set_option maxHeartbeats 4000000 in
set_option maxRecDepth 100000 in
theorem c_X5_cold {l : Launch} {D : va_G} {cI cZ cL : ClassId} {h : Nat → Nat} {sl mi n : Nat} {Y : Nat → Nat → Int32} {th fr wt cy : Nat} (hn : n ≤ 16) (x on : Int32) (ho : on = 0 ∨ on = 1) : KI l yX5_cold (.code yX5_cold cX5_cold 5 (some .int)) 1 D (tyz cI cZ cL) [.ref (h 0), .int x, .int on] (mw h cI cZ sl mi n Y th fr wt cy) (fun r u => (¬ inR x 1 n ∧ r = -1 ∧ u = Y) ∨ (inR x 1 n ∧ r = nI (nCo (u 5) (n + 1)) ∧ u = (if on ≠ 0 ∧ ¬ Y 4 x.toNatClampNeg ≤ 2 then sX (sX (sX (sX Y 5 x.toNatClampNeg on) 4 x.toNatClampNeg 0) 6 x.toNatClampNeg 0) 8 x.toNatClampNeg 0 else sX Y 5 x.toNatClampNeg on))) (fun u : Nat → Nat → Int32 => mw h cI cZ sl mi n u 0 fr wt cy) := by
  refine KI.of (own := RX5) (lvs := [(0, .ref (h 0)), (1, .int x), (2, .int on)]) (by decide) rfl (Nat.le_of_ble_eq_true rfl) rfl ?_
  intro p e s m args below meth c Q C hK hN A hA hP hD hS ret ls hl
  obtain ⟨hx, hb, hml, hown, hts, hr9, hlk9⟩ := id C
  refine lv_aload_n hx hb dX5_cold_0 rfl (lv_at hl 0 rfl) ?_
  refine lv_iconst (v := 0) hx hb dX5_cold_1 (by decide) ?_
  refine k_put (D := D) (ci := 7) (v := .int (nI 0)) (ty := .int) (C := RX5) (T := TX5) (N := 27) (ws' := mw h cI cZ sl mi n Y 0 fr wt cy) hx hb hts inX5 tyX5 tyX5_ok nmX5 hown hK hP hD hS 0 rfl rfl 0 (by decide) (hts _ wF_X5_81) (fun _ h9 => h9) rfl (by decide +kernel) rfl rfl (Nat.le_of_ble_eq_true rfl) rfl dX5_cold_2 (fun H locs hP hD hS => ?_)
  refine lv_aload_n hx hb dX5_cold_5 rfl (lv_at hl 0 rfl) ?_
  refine lv_iload_n hx hb dX5_cold_6 rfl (lv_at hl 1 rfl) ?_
  refine k_callR (D := D) C hK hN hP hD (c_X5_isNode hn x) hl cf_yX5_isNode wM_X5_84 0 7 rfl rfl rfl rfl (Nat.le_of_ble_eq_true rfl) ⟨by decide, by decide⟩ ⟨Nat.le_of_ble_eq_true rfl, Nat.le_of_ble_eq_true rfl⟩ dX5_cold_7 (fun r7 hr7 => ?_)
  have hr7 : r7 = (if inR x 1 n then 1 else 0) := hr7
  subst hr7
  refine k_ifne_P (P := (inR x 1 n)) (tgt := 15) hx hb rfl dX5_cold_10 (by decide) (fun c10 => ?_) (fun c10 => ?_)
  · skip
    obtain ⟨j, hj1, hj2, rfl⟩ := inR_of c10
    refine lv_aload_n hx hb dX5_cold_15 rfl (lv_at hl 0 rfl) ?_
    refine va_get (D := D) (ci := 7) (v := .ref (h 5)) (C := RX5) (T := TX5) (N := 27) hx hb hts inX5 hown hK hP 0 rfl rfl 5 (by decide) (hts _ wF_X5_13) (fun _ h9 => h9) rfl dX5_cold_16 ?_
    refine lv_iload_n hx hb dX5_cold_19 rfl (lv_at hl 1 rfl) ?_
    refine lv_iload_n hx hb dX5_cold_20 rfl (lv_at hl 2 rfl) ?_
    refine k_zast (D := D) (f := Y 5) (ws' := mw h cI cZ sl mi n (sX Y 5 j on) 0 fr wt cy) hx hb hK hP hD hS 2 1 rfl rfl j rfl (by omega) (by omega) (by rcases ho with rfl | rfl <;> rfl) rfl dX5_cold_21 (fun H locs hP hD hS => ?_)
    have L57 : ∀ (Z : Nat → Nat → Int32) (H : Heap) (locs : List Loc) (ls : Array Slot), (Z = (if on ≠ 0 ∧ ¬ Y 4 j ≤ 2 then sX (sX (sX (sX Y 5 j on) 4 j 0) 6 j 0) 8 j 0 else sX Y 5 j on)) → (va_P D vwCl (mw h cI cZ sl mi n Z 0 fr wt cy) H) → (va_D A (mw h cI cZ sl mi n Z 0 fr wt cy)) → (va_S A s.heap H locs) → (lv_has ls 5 [(0, .ref (h 0))]) → W p l e (rmK 1) s m args below meth c H locs 0 0 Q (F0 m 57 ls []) := by
      intro Z H locs ls hZ hP hD hS hl
      refine lv_iconst (v := 0) hx hb dX5_cold_57 (by decide) ?_
      refine lv_istore_n (lv' := [(3, .int 0), (0, .ref (h 0))]) hx hb dX5_cold_58 rfl hl (by decide) rfl (fun ls hl => ?_)
      refine lv_iconst (v := 1) hx hb dX5_cold_59 (by decide) ?_
      refine lv_istore (lv' := [(4, .int 1), (3, .int 0), (0, .ref (h 0))]) hx hb dX5_cold_60 hl (by decide) rfl (fun ls hl => ?_)
      have L62 : ∀ (kf : Nat) (i : Nat) (f : Nat) (ls : Array Slot), (n + 1 - i < kf) → (1 ≤ i) → (i ≤ n + 1) → (f = nCo (Z 5) i) → (lv_has ls 5 [(0, .ref (h 0)), (3, .int (nI f)), (4, .int (nI i))]) → W p l e (rmK 1) s m args below meth c H locs 0 0 Q (F0 m 62 ls []) := by
        intro kf
        induction kf with
        | zero =>
          intro i f ls hm
          exact absurd hm (Nat.not_lt_zero _)
        | succ kf ih62 =>
          intro i f ls hm h1 h2 h3 hl
          refine lv_iload hx hb dX5_cold_62 (lv_at hl 2 rfl) ?_
          refine lv_aload_n hx hb dX5_cold_64 rfl (lv_at hl 0 rfl) ?_
          refine va_get (D := D) (ci := 7) (v := .int (nI n)) (C := RX5) (T := TX5) (N := 27) hx hb hts inX5 hown hK hP 0 rfl rfl 1 (by decide) (hts _ wF_X5_71) (fun _ h9 => h9) rfl dX5_cold_65 ?_
          refine k_icmp_gt (tgt := 95) hx hb i n rfl rfl (by omega) (by omega) dX5_cold_68 (by decide) (fun c68 => ?_) (fun c68 => ?_)
          · skip
            refine lv_iload_n hx hb dX5_cold_95 rfl (lv_at hl 1 rfl) ?_
            exact ret _ Z _ _ _ _ dX5_cold_96 hP hD hS (Or.inr ⟨c10, by rw [h3, show i = n + 1 by omega], by rw [nI_clamp (by omega)]; exact hZ⟩)
          · skip
            refine lv_iload_n hx hb dX5_cold_71 rfl (lv_at hl 1 rfl) ?_
            refine lv_aload_n hx hb dX5_cold_72 rfl (lv_at hl 0 rfl) ?_
            refine va_get (D := D) (ci := 7) (v := .ref (h 5)) (C := RX5) (T := TX5) (N := 27) hx hb hts inX5 hown hK hP 0 rfl rfl 5 (by decide) (hts _ wF_X5_13) (fun _ h9 => h9) rfl dX5_cold_73 ?_
            refine lv_iload hx hb dX5_cold_76 (lv_at hl 2 rfl) ?_
            refine k_zald (D := D) (f := Z 5) hx hb hK hP 2 1 rfl rfl i rfl (by omega) (by omega) dX5_cold_78 ?_
            refine lv_if_eq (tgt := 86) hx hb dX5_cold_79 (by decide) (fun c79 => ?_) (fun c79 => ?_)
            · skip
              refine lv_iconst (v := 0) hx hb dX5_cold_86 (by decide) ?_
              refine k_iadd hx hb f 0 rfl rfl dX5_cold_87 ?_
              refine lv_istore_n (lv' := [(3, .int (nI (f + 0))), (0, .ref (h 0)), (4, .int (nI i))]) hx hb dX5_cold_88 rfl hl (by decide) rfl (fun ls hl => ?_)
              refine k_iinc (k := 2) (lv' := [(4, .int (nI (i + 1))), (3, .int (nI (f + 0))), (0, .ref (h 0))]) hx hb i rfl dX5_cold_89 hl rfl (by decide) rfl (fun ls hl => ?_)
              refine lv_goto (tgt := 62) hx hb dX5_cold_92 (by decide) ?_
              exact ih62 (i + 1) (f + 0) _ (by omega) (by omega) (by omega) (by subst h3; first | exact (cnt_t h1 (decide_eq_true c79)).symm | exact (cnt_f (decide_eq_false (fun z => z c79))).symm) (lv_sub hl [2, 1, 0] rfl)
            · skip
              refine lv_iconst (v := 1) hx hb dX5_cold_82 (by decide) ?_
              refine lv_goto (tgt := 87) hx hb dX5_cold_83 (by decide) ?_
              refine k_iadd hx hb f 1 rfl rfl dX5_cold_87 ?_
              refine lv_istore_n (lv' := [(3, .int (nI (f + 1))), (0, .ref (h 0)), (4, .int (nI i))]) hx hb dX5_cold_88 rfl hl (by decide) rfl (fun ls hl => ?_)
              refine k_iinc (k := 2) (lv' := [(4, .int (nI (i + 1))), (3, .int (nI (f + 1))), (0, .ref (h 0))]) hx hb i rfl dX5_cold_89 hl rfl (by decide) rfl (fun ls hl => ?_)
              refine lv_goto (tgt := 62) hx hb dX5_cold_92 (by decide) ?_
              exact ih62 (i + 1) (f + 1) _ (by omega) (by omega) (by omega) (by subst h3; first | exact (cnt_t h1 (decide_eq_true c79)).symm | exact (cnt_f (decide_eq_false (fun z => z c79))).symm) (lv_sub hl [2, 1, 0] rfl)
      exact L62 ((n + 1 - 1) + 1) 1 0 _ (Nat.lt_succ_self _) (Nat.le_refl 1) (by omega) (cnt_1 _).symm (lv_sub hl [2, 1, 0] rfl)
    refine lv_iload_n hx hb dX5_cold_22 rfl (lv_at hl 2 rfl) ?_
    refine lv_if_eq (tgt := 57) hx hb dX5_cold_23 (by decide) (fun c23 => ?_) (fun c23 => ?_)
    · skip
      exact L57 (sX Y 5 j on) _ _ _ (by first | exact ite_n (fun z => z.1 c23) | exact ite_n (fun z => z.2 c33) | exact ite_p ⟨c23, c33⟩) hP hD hS (lv_sub hl [0] rfl)
    · skip
      refine lv_aload_n hx hb dX5_cold_26 rfl (lv_at hl 0 rfl) ?_
      refine va_get (D := D) (ci := 7) (v := .ref (h 4)) (C := RX5) (T := TX5) (N := 27) hx hb hts inX5 hown hK hP 0 rfl rfl 4 (by decide) (hts _ wF_X5_7) (fun _ h9 => h9) rfl dX5_cold_27 ?_
      refine lv_iload_n hx hb dX5_cold_30 rfl (lv_at hl 1 rfl) ?_
      refine k_iald (D := D) (f := Y 4) hx hb hK hP 1 0 rfl rfl j rfl (by omega) (by omega) dX5_cold_31 ?_
      refine lv_iconst (v := 2) hx hb dX5_cold_32 (by decide) ?_
      refine lv_icmp_le (tgt := 57) hx hb dX5_cold_33 (by decide) (fun c33 => ?_) (fun c33 => ?_)
      · skip
        exact L57 (sX Y 5 j on) _ _ _ (by first | exact ite_n (fun z => z.1 c23) | exact ite_n (fun z => z.2 c33) | exact ite_p ⟨c23, c33⟩) hP hD hS (lv_sub hl [0] rfl)
      · skip
        refine lv_aload_n hx hb dX5_cold_36 rfl (lv_at hl 0 rfl) ?_
        refine va_get (D := D) (ci := 7) (v := .ref (h 4)) (C := RX5) (T := TX5) (N := 27) hx hb hts inX5 hown hK hP 0 rfl rfl 4 (by decide) (hts _ wF_X5_7) (fun _ h9 => h9) rfl dX5_cold_37 ?_
        refine lv_iload_n hx hb dX5_cold_40 rfl (lv_at hl 1 rfl) ?_
        refine lv_iconst (v := 0) hx hb dX5_cold_41 (by decide) ?_
        refine k_iast (D := D) (f := Y 4) (ws' := mw h cI cZ sl mi n (sX (sX Y 5 j on) 4 j 0) 0 fr wt cy) hx hb hK hP hD hS 1 0 rfl rfl j rfl (by omega) (by omega) rfl dX5_cold_42 (fun H locs hP hD hS => ?_)
        refine lv_aload_n hx hb dX5_cold_43 rfl (lv_at hl 0 rfl) ?_
        refine va_get (D := D) (ci := 7) (v := .ref (h 6)) (C := RX5) (T := TX5) (N := 27) hx hb hts inX5 hown hK hP 0 rfl rfl 6 (by decide) (hts _ wF_X5_17) (fun _ h9 => h9) rfl dX5_cold_44 ?_
        refine lv_iload_n hx hb dX5_cold_47 rfl (lv_at hl 1 rfl) ?_
        refine lv_iconst (v := 0) hx hb dX5_cold_48 (by decide) ?_
        refine k_iast (D := D) (f := Y 6) (ws' := mw h cI cZ sl mi n (sX (sX (sX Y 5 j on) 4 j 0) 6 j 0) 0 fr wt cy) hx hb hK hP hD hS 3 0 rfl rfl j rfl (by omega) (by omega) rfl dX5_cold_49 (fun H locs hP hD hS => ?_)
        refine lv_aload_n hx hb dX5_cold_50 rfl (lv_at hl 0 rfl) ?_
        refine va_get (D := D) (ci := 7) (v := .ref (h 8)) (C := RX5) (T := TX5) (N := 27) hx hb hts inX5 hown hK hP 0 rfl rfl 8 (by decide) (hts _ wF_X5_23) (fun _ h9 => h9) rfl dX5_cold_51 ?_
        refine lv_iload_n hx hb dX5_cold_54 rfl (lv_at hl 1 rfl) ?_
        refine lv_iconst (v := 0) hx hb dX5_cold_55 (by decide) ?_
        refine k_iast (D := D) (f := Y 8) (ws' := mw h cI cZ sl mi n (sX (sX (sX (sX Y 5 j on) 4 j 0) 6 j 0) 8 j 0) 0 fr wt cy) hx hb hK hP hD hS 5 0 rfl rfl j rfl (by omega) (by omega) rfl dX5_cold_56 (fun H locs hP hD hS => ?_)
        exact L57 (sX (sX (sX (sX Y 5 j on) 4 j 0) 6 j 0) 8 j 0) _ _ _ (by first | exact ite_n (fun z => z.1 c23) | exact ite_n (fun z => z.2 c33) | exact ite_p ⟨c23, c33⟩) hP hD hS (lv_sub hl [0] rfl)
  · skip
    refine lv_iconst (v := (-1)) hx hb dX5_cold_13 (by decide) ?_
    exact ret _ Y _ _ _ _ dX5_cold_14 hP hD hS (Or.inl ⟨c10, rfl, rfl⟩)
set_option maxHeartbeats 4000000 in
set_option maxRecDepth 100000 in
theorem c_X5_flip {l : Launch} {D : va_G} {cI cZ cL : ClassId} {h : Nat → Nat} {sl mi n : Nat} {Y : Nat → Nat → Int32} {th fr wt cy : Nat} (hs1 : 1 ≤ sl) (hsl : sl ≤ 60) (ch x : Int32) : KI l yX5_flip (.code yX5_flip cX5_flip 5 (some .int)) 1 D (tyz cI cZ cL) [.ref (h 0), .int ch, .int x] (mw h cI cZ sl mi n Y th fr wt cy) (fun r u => (¬ ((1 ≤ ch ∧ ch ≤ 2) ∧ inR x 0 (sl - 1)) ∧ r = -1 ∧ u = Y) ∨ (((1 ≤ ch ∧ ch ≤ 2) ∧ inR x 0 (sl - 1)) ∧ Y 25 x.toNatClampNeg &&& ch ≠ 0 ∧ r = -3 ∧ u = Y) ∨ (((1 ≤ ch ∧ ch ≤ 2) ∧ inR x 0 (sl - 1)) ∧ ¬ (Y 25 x.toNatClampNeg &&& ch ≠ 0) ∧ r = flc (u 25) sl ∧ u = sX Y 25 x.toNatClampNeg (Y 25 x.toNatClampNeg ||| ch))) (fun u : Nat → Nat → Int32 => mw h cI cZ sl mi n u 0 fr wt cy) := by
  refine KI.of (own := RX5) (lvs := [(0, .ref (h 0)), (1, .int ch), (2, .int x)]) (by decide) rfl (Nat.le_of_ble_eq_true rfl) rfl ?_
  intro p e s m args below meth c Q C hK hN A hA hP hD hS ret ls hl
  obtain ⟨hx, hb, hml, hown, hts, hr9, hlk9⟩ := id C
  refine lv_aload_n hx hb dX5_flip_0 rfl (lv_at hl 0 rfl) ?_
  refine lv_iconst (v := 0) hx hb dX5_flip_1 (by decide) ?_
  refine k_put (D := D) (ci := 7) (v := .int (nI 0)) (ty := .int) (C := RX5) (T := TX5) (N := 27) (ws' := mw h cI cZ sl mi n Y 0 fr wt cy) hx hb hts inX5 tyX5 tyX5_ok nmX5 hown hK hP hD hS 0 rfl rfl 0 (by decide) (hts _ wF_X5_81) (fun _ h9 => h9) rfl (by decide +kernel) rfl rfl (Nat.le_of_ble_eq_true rfl) rfl dX5_flip_2 (fun H locs hP hD hS => ?_)
  refine lv_iload_n hx hb dX5_flip_5 rfl (lv_at hl 1 rfl) ?_
  refine lv_iconst (v := 1) hx hb dX5_flip_6 (by decide) ?_
  refine lv_icmp_lt (tgt := 23) hx hb dX5_flip_7 (by decide) (fun c7 => ?_) (fun c7 => ?_)
  · skip
    refine lv_iconst (v := (-1)) hx hb dX5_flip_23 (by decide) ?_
    exact ret _ Y _ _ _ _ dX5_flip_24 hP hD hS (Or.inl ⟨(by first | exact fun z => absurd z.1.1 (i32_nlt c7) | exact fun z => absurd z.1.2 (i32_nlt c12) | exact fun z => c20 z.2), rfl, rfl⟩)
  · skip
    refine lv_iload_n hx hb dX5_flip_10 rfl (lv_at hl 1 rfl) ?_
    refine lv_iconst (v := 2) hx hb dX5_flip_11 (by decide) ?_
    refine lv_icmp_gt (tgt := 23) hx hb dX5_flip_12 (by decide) (fun c12 => ?_) (fun c12 => ?_)
    · skip
      refine lv_iconst (v := (-1)) hx hb dX5_flip_23 (by decide) ?_
      exact ret _ Y _ _ _ _ dX5_flip_24 hP hD hS (Or.inl ⟨(by first | exact fun z => absurd z.1.1 (i32_nlt c7) | exact fun z => absurd z.1.2 (i32_nlt c12) | exact fun z => c20 z.2), rfl, rfl⟩)
    · skip
      refine lv_aload_n hx hb dX5_flip_15 rfl (lv_at hl 0 rfl) ?_
      refine lv_iload_n hx hb dX5_flip_16 rfl (lv_at hl 2 rfl) ?_
      refine k_callR (D := D) C hK hN hP hD (c_X5_isSlot hs1 hsl x) hl cf_yX5_isSlot wM_X5_88 0 7 rfl rfl rfl rfl (Nat.le_of_ble_eq_true rfl) ⟨by decide, by decide⟩ ⟨Nat.le_of_ble_eq_true rfl, Nat.le_of_ble_eq_true rfl⟩ dX5_flip_17 (fun r17 hr17 => ?_)
      have hr17 : r17 = (if inR x 0 (sl - 1) then 1 else 0) := hr17
      subst hr17
      refine k_ifne_P (P := (inR x 0 (sl - 1))) (tgt := 25) hx hb rfl dX5_flip_20 (by decide) (fun c20 => ?_) (fun c20 => ?_)
      · skip
        obtain ⟨j, hj1, hj2, rfl⟩ := inR_of c20
        have hcl := nI_clamp (n := j) (by omega)
        refine lv_aload_n hx hb dX5_flip_25 rfl (lv_at hl 0 rfl) ?_
        refine va_get (D := D) (ci := 7) (v := .ref (h 25)) (C := RX5) (T := TX5) (N := 27) hx hb hts inX5 hown hK hP 0 rfl rfl 25 (by decide) (hts _ wF_X5_68) (fun _ h9 => h9) rfl dX5_flip_26 ?_
        refine lv_iload_n hx hb dX5_flip_29 rfl (lv_at hl 2 rfl) ?_
        refine k_iald (D := D) (f := Y 25) hx hb hK hP 20 0 rfl rfl j rfl (by omega) (by omega) dX5_flip_30 ?_
        refine lv_iload_n hx hb dX5_flip_31 rfl (lv_at hl 1 rfl) ?_
        refine lv_iand hx hb dX5_flip_32 ?_
        refine lv_if_eq (tgt := 39) hx hb dX5_flip_33 (by decide) (fun c33 => ?_) (fun c33 => ?_)
        · skip
          refine lv_aload_n hx hb dX5_flip_39 rfl (lv_at hl 0 rfl) ?_
          refine va_get (D := D) (ci := 7) (v := .ref (h 25)) (C := RX5) (T := TX5) (N := 27) hx hb hts inX5 hown hK hP 0 rfl rfl 25 (by decide) (hts _ wF_X5_68) (fun _ h9 => h9) rfl dX5_flip_40 ?_
          refine lv_iload_n hx hb dX5_flip_43 rfl (lv_at hl 2 rfl) ?_
          refine lv_dup2_11 hx hb dX5_flip_44 rfl rfl ?_
          refine k_iald (D := D) (f := Y 25) hx hb hK hP 20 0 rfl rfl j rfl (by omega) (by omega) dX5_flip_45 ?_
          refine lv_iload_n hx hb dX5_flip_46 rfl (lv_at hl 1 rfl) ?_
          refine lv_ior hx hb dX5_flip_47 ?_
          refine k_iast (D := D) (f := Y 25) (ws' := mw h cI cZ sl mi n (sX Y 25 j ((Y 25 j) ||| ch)) 0 fr wt cy) hx hb hK hP hD hS 20 0 rfl rfl j rfl (by omega) (by omega) rfl dX5_flip_48 (fun H locs hP hD hS => ?_)
          refine lv_iconst (v := 0) hx hb dX5_flip_49 (by decide) ?_
          refine lv_istore_n (lv' := [(3, .int 0), (0, .ref (h 0)), (1, .int ch), (2, .int (nI j))]) hx hb dX5_flip_50 rfl hl (by decide) rfl (fun ls hl => ?_)
          refine lv_iconst (v := 0) hx hb dX5_flip_51 (by decide) ?_
          refine lv_istore (lv' := [(4, .int 0), (3, .int 0), (0, .ref (h 0)), (1, .int ch), (2, .int (nI j))]) hx hb dX5_flip_52 hl (by decide) rfl (fun ls hl => ?_)
          have L54 : ∀ (kf : Nat) (i : Nat) (acc : Int32) (ls : Array Slot), (sl - i < kf) → (i ≤ sl) → (acc = flc (sX Y 25 j (Y 25 j ||| ch) 25) i) → (lv_has ls 5 [(0, .ref (h 0)), (3, .int acc), (4, .int (nI i))]) → W p l e (rmK 1) s m args below meth c H locs 0 0 Q (F0 m 54 ls []) := by
            intro kf
            induction kf with
            | zero =>
              intro i acc ls hm
              exact absurd hm (Nat.not_lt_zero _)
            | succ kf ih54 =>
              intro i acc ls hm h2 h3 hl
              refine lv_iload hx hb dX5_flip_54 (lv_at hl 2 rfl) ?_
              refine lv_aload_n hx hb dX5_flip_56 rfl (lv_at hl 0 rfl) ?_
              refine va_get (D := D) (ci := 7) (v := .int (nI sl)) (C := RX5) (T := TX5) (N := 27) hx hb hts inX5 hown hK hP 0 rfl rfl 2 (by decide) (hts _ wF_X5_75) (fun _ h9 => h9) rfl dX5_flip_57 ?_
              refine k_icmp_ge (tgt := 91) hx hb i sl rfl rfl (by omega) (by omega) dX5_flip_60 (by decide) (fun c60 => ?_) (fun c60 => ?_)
              · skip
                refine lv_iload_n hx hb dX5_flip_91 rfl (lv_at hl 1 rfl) ?_
                exact ret _ (sX Y 25 j ((Y 25 j) ||| ch)) _ _ _ _ dX5_flip_92 hP hD hS (Or.inr (Or.inr ⟨⟨⟨Int32.not_lt.mp c7, Int32.not_lt.mp c12⟩, c20⟩, by rw [hcl]; exact fun z => z c33, by rw [h3, show i = sl by omega], by rw [hcl]⟩))
              · skip
                refine lv_iload_n hx hb dX5_flip_63 rfl (lv_at hl 1 rfl) ?_
                refine lv_aload_n hx hb dX5_flip_64 rfl (lv_at hl 0 rfl) ?_
                refine va_get (D := D) (ci := 7) (v := .ref (h 25)) (C := RX5) (T := TX5) (N := 27) hx hb hts inX5 hown hK hP 0 rfl rfl 25 (by decide) (hts _ wF_X5_68) (fun _ h9 => h9) rfl dX5_flip_65 ?_
                refine lv_iload hx hb dX5_flip_68 (lv_at hl 2 rfl) ?_
                refine k_iald (D := D) (f := (sX Y 25 j ((Y 25 j) ||| ch)) 25) hx hb hK hP 20 0 rfl rfl i rfl (by omega) (by omega) dX5_flip_70 ?_
                refine lv_iconst (v := 1) hx hb dX5_flip_71 (by decide) ?_
                refine lv_iand hx hb dX5_flip_72 ?_
                refine lv_aload_n hx hb dX5_flip_73 rfl (lv_at hl 0 rfl) ?_
                refine va_get (D := D) (ci := 7) (v := .ref (h 25)) (C := RX5) (T := TX5) (N := 27) hx hb hts inX5 hown hK hP 0 rfl rfl 25 (by decide) (hts _ wF_X5_68) (fun _ h9 => h9) rfl dX5_flip_74 ?_
                refine lv_iload hx hb dX5_flip_77 (lv_at hl 2 rfl) ?_
                refine k_iald (D := D) (f := (sX Y 25 j ((Y 25 j) ||| ch)) 25) hx hb hK hP 20 0 rfl rfl i rfl (by omega) (by omega) dX5_flip_79 ?_
                refine lv_iconst (v := 1) hx hb dX5_flip_80 (by decide) ?_
                refine lv_ishr hx hb dX5_flip_81 ?_
                refine lv_iadd hx hb dX5_flip_82 ?_
                refine lv_iadd hx hb dX5_flip_83 ?_
                refine lv_istore_n (lv' := [(3, .int (acc + ((((sX Y 25 j ((Y 25 j) ||| ch)) 25 i) &&& 1) + (((sX Y 25 j ((Y 25 j) ||| ch)) 25 i) >>> ((1 : Int32) &&& 31))))), (0, .ref (h 0)), (4, .int (nI i))]) hx hb dX5_flip_84 rfl hl (by decide) rfl (fun ls hl => ?_)
                refine k_iinc (k := 2) (lv' := [(4, .int (nI (i + 1))), (3, .int (acc + ((((sX Y 25 j ((Y 25 j) ||| ch)) 25 i) &&& 1) + (((sX Y 25 j ((Y 25 j) ||| ch)) 25 i) >>> ((1 : Int32) &&& 31))))), (0, .ref (h 0))]) hx hb i rfl dX5_flip_85 hl rfl (by decide) rfl (fun ls hl => ?_)
                refine lv_goto (tgt := 54) hx hb dX5_flip_88 (by decide) ?_
                exact ih54 (i + 1) (acc + ((((sX Y 25 j ((Y 25 j) ||| ch)) 25 i) &&& 1) + (((sX Y 25 j ((Y 25 j) ||| ch)) 25 i) >>> ((1 : Int32) &&& 31)))) _ (by omega) (by omega) (by rw [h3]; rfl) (lv_sub hl [2, 1, 0] rfl)
          exact L54 ((sl - 0) + 1) 0 0 _ (Nat.lt_succ_self _) (Nat.zero_le _) rfl (lv_sub hl [2, 1, 0] rfl)
        · skip
          refine lv_bipush (v := (-3)) hx hb dX5_flip_36 (by decide) ?_
          exact ret _ Y _ _ _ _ dX5_flip_38 hP hD hS (Or.inr (Or.inl ⟨⟨⟨Int32.not_lt.mp c7, Int32.not_lt.mp c12⟩, c20⟩, by rw [hcl]; exact c33, rfl, rfl⟩))
      · skip
        refine lv_iconst (v := (-1)) hx hb dX5_flip_23 (by decide) ?_
        exact ret _ Y _ _ _ _ dX5_flip_24 hP hD hS (Or.inl ⟨(by first | exact fun z => absurd z.1.1 (i32_nlt c7) | exact fun z => absurd z.1.2 (i32_nlt c12) | exact fun z => c20 z.2), rfl, rfl⟩)
set_option maxHeartbeats 4000000 in
set_option maxRecDepth 100000 in
theorem c_X5_dynamic {l : Launch} {D : va_G} {cI cZ cL : ClassId} {h : Nat → Nat} {sl mi n : Nat} {Y : Nat → Nat → Int32} {th fr wt cy : Nat} (hn : n ≤ 16) (hd : wt ≤ 100) (x di ln : Int32) : KI l yX5_dynamic (.code yX5_dynamic cX5_dynamic 4 (some .int)) 1 D (tyz cI cZ cL) [.ref (h 0), .int x, .int di, .int ln] (mw h cI cZ sl mi n Y th fr wt cy) (fun r u => (¬ inR x 1 n ∧ r = -1 ∧ u = (Y, wt)) ∨ (inR x 1 n ∧ ¬ ((1 ≤ di ∧ di ≤ 60) ∧ 1 ≤ ln ∧ ln ≤ 60) ∧ r = -2 ∧ u = (Y, wt)) ∨ (inR x 1 n ∧ ((1 ≤ di ∧ di ≤ 60) ∧ 1 ≤ ln ∧ ln ≤ 60) ∧ 100 ≤ wt ∧ r = -4 ∧ u = (Y, wt)) ∨ (inR x 1 n ∧ ((1 ≤ di ∧ di ≤ 60) ∧ 1 ≤ ln ∧ ln ≤ 60) ∧ wt < 100 ∧ r = nI (wt + 1) ∧ u = (sX (sX (sX Y 22 wt x) 23 wt di) 24 wt ln, wt + 1))) (fun u : (Nat → Nat → Int32) × Nat => mw h cI cZ sl mi n u.1 0 fr u.2 cy) := by
  refine KI.of (own := RX5) (lvs := [(0, .ref (h 0)), (1, .int x), (2, .int di), (3, .int ln)]) (by decide) rfl (Nat.le_of_ble_eq_true rfl) rfl ?_
  intro p e s m args below meth c Q C hK hN A hA hP hD hS ret ls hl
  obtain ⟨hx, hb, hml, hown, hts, hr9, hlk9⟩ := id C
  refine lv_aload_n hx hb dX5_dynamic_0 rfl (lv_at hl 0 rfl) ?_
  refine lv_iconst (v := 0) hx hb dX5_dynamic_1 (by decide) ?_
  refine k_put (D := D) (ci := 7) (v := .int (nI 0)) (ty := .int) (C := RX5) (T := TX5) (N := 27) (ws' := mw h cI cZ sl mi n Y 0 fr wt cy) hx hb hts inX5 tyX5 tyX5_ok nmX5 hown hK hP hD hS 0 rfl rfl 0 (by decide) (hts _ wF_X5_81) (fun _ h9 => h9) rfl (by decide +kernel) rfl rfl (Nat.le_of_ble_eq_true rfl) rfl dX5_dynamic_2 (fun H locs hP hD hS => ?_)
  refine lv_aload_n hx hb dX5_dynamic_5 rfl (lv_at hl 0 rfl) ?_
  refine lv_iload_n hx hb dX5_dynamic_6 rfl (lv_at hl 1 rfl) ?_
  refine k_callR (D := D) C hK hN hP hD (c_X5_isNode hn x) hl cf_yX5_isNode wM_X5_84 0 7 rfl rfl rfl rfl (Nat.le_of_ble_eq_true rfl) ⟨by decide, by decide⟩ ⟨Nat.le_of_ble_eq_true rfl, Nat.le_of_ble_eq_true rfl⟩ dX5_dynamic_7 (fun r7 hr7 => ?_)
  have hr7 : r7 = (if inR x 1 n then 1 else 0) := hr7
  subst hr7
  refine k_ifne_P (P := (inR x 1 n)) (tgt := 15) hx hb rfl dX5_dynamic_10 (by decide) (fun c10 => ?_) (fun c10 => ?_)
  · skip
    refine lv_iload_n hx hb dX5_dynamic_15 rfl (lv_at hl 2 rfl) ?_
    refine lv_iconst (v := 1) hx hb dX5_dynamic_16 (by decide) ?_
    refine lv_icmp_lt (tgt := 37) hx hb dX5_dynamic_17 (by decide) (fun c17 => ?_) (fun c17 => ?_)
    · skip
      refine lv_bipush (v := (-2)) hx hb dX5_dynamic_37 (by decide) ?_
      exact ret _ (Y, wt) _ _ _ _ dX5_dynamic_39 hP hD hS (Or.inr (Or.inl ⟨c10, (by first | exact fun z => absurd z.1.1 (i32_nlt c17) | exact fun z => absurd z.1.2 (i32_nlt c23) | exact fun z => absurd z.2.1 (i32_nlt c28) | exact fun z => c34 z.2.2), rfl, rfl⟩))
    · skip
      refine lv_iload_n hx hb dX5_dynamic_20 rfl (lv_at hl 2 rfl) ?_
      refine lv_bipush (v := 60) hx hb dX5_dynamic_21 (by decide) ?_
      refine lv_icmp_gt (tgt := 37) hx hb dX5_dynamic_23 (by decide) (fun c23 => ?_) (fun c23 => ?_)
      · skip
        refine lv_bipush (v := (-2)) hx hb dX5_dynamic_37 (by decide) ?_
        exact ret _ (Y, wt) _ _ _ _ dX5_dynamic_39 hP hD hS (Or.inr (Or.inl ⟨c10, (by first | exact fun z => absurd z.1.1 (i32_nlt c17) | exact fun z => absurd z.1.2 (i32_nlt c23) | exact fun z => absurd z.2.1 (i32_nlt c28) | exact fun z => c34 z.2.2), rfl, rfl⟩))
      · skip
        refine lv_iload_n hx hb dX5_dynamic_26 rfl (lv_at hl 3 rfl) ?_
        refine lv_iconst (v := 1) hx hb dX5_dynamic_27 (by decide) ?_
        refine lv_icmp_lt (tgt := 37) hx hb dX5_dynamic_28 (by decide) (fun c28 => ?_) (fun c28 => ?_)
        · skip
          refine lv_bipush (v := (-2)) hx hb dX5_dynamic_37 (by decide) ?_
          exact ret _ (Y, wt) _ _ _ _ dX5_dynamic_39 hP hD hS (Or.inr (Or.inl ⟨c10, (by first | exact fun z => absurd z.1.1 (i32_nlt c17) | exact fun z => absurd z.1.2 (i32_nlt c23) | exact fun z => absurd z.2.1 (i32_nlt c28) | exact fun z => c34 z.2.2), rfl, rfl⟩))
        · skip
          refine lv_iload_n hx hb dX5_dynamic_31 rfl (lv_at hl 3 rfl) ?_
          refine lv_bipush (v := 60) hx hb dX5_dynamic_32 (by decide) ?_
          refine lv_icmp_le (tgt := 40) hx hb dX5_dynamic_34 (by decide) (fun c34 => ?_) (fun c34 => ?_)
          · skip
            have hrg : ((1 ≤ di ∧ di ≤ 60) ∧ 1 ≤ ln ∧ ln ≤ 60) := ⟨⟨Int32.not_lt.mp c17, Int32.not_lt.mp c23⟩, Int32.not_lt.mp c28, c34⟩
            refine lv_aload_n hx hb dX5_dynamic_40 rfl (lv_at hl 0 rfl) ?_
            refine va_get (D := D) (ci := 7) (v := .int (nI wt)) (C := RX5) (T := TX5) (N := 27) hx hb hts inX5 hown hK hP 0 rfl rfl 21 (by decide) (hts _ wF_X5_94) (fun _ h9 => h9) rfl dX5_dynamic_41 ?_
            refine lv_bipush (v := 100) hx hb dX5_dynamic_44 (by decide) ?_
            refine k_icmp_ne (tgt := 52) hx hb wt 100 rfl rfl (by omega) (by omega) dX5_dynamic_46 (by decide) (fun c46 => ?_) (fun c46 => ?_)
            · skip
              refine lv_aload_n hx hb dX5_dynamic_52 rfl (lv_at hl 0 rfl) ?_
              refine va_get (D := D) (ci := 7) (v := .ref (h 22)) (C := RX5) (T := TX5) (N := 27) hx hb hts inX5 hown hK hP 0 rfl rfl 22 (by decide) (hts _ wF_X5_59) (fun _ h9 => h9) rfl dX5_dynamic_53 ?_
              refine lv_aload_n hx hb dX5_dynamic_56 rfl (lv_at hl 0 rfl) ?_
              refine va_get (D := D) (ci := 7) (v := .int (nI wt)) (C := RX5) (T := TX5) (N := 27) hx hb hts inX5 hown hK hP 0 rfl rfl 21 (by decide) (hts _ wF_X5_94) (fun _ h9 => h9) rfl dX5_dynamic_57 ?_
              refine lv_iload_n hx hb dX5_dynamic_60 rfl (lv_at hl 1 rfl) ?_
              refine k_iast (D := D) (f := Y 22) (ws' := mw h cI cZ sl mi n (sX Y 22 wt x) 0 fr wt cy) hx hb hK hP hD hS 17 0 rfl rfl wt rfl (by omega) (by omega) rfl dX5_dynamic_61 (fun H locs hP hD hS => ?_)
              refine lv_aload_n hx hb dX5_dynamic_62 rfl (lv_at hl 0 rfl) ?_
              refine va_get (D := D) (ci := 7) (v := .ref (h 23)) (C := RX5) (T := TX5) (N := 27) hx hb hts inX5 hown hK hP 0 rfl rfl 23 (by decide) (hts _ wF_X5_62) (fun _ h9 => h9) rfl dX5_dynamic_63 ?_
              refine lv_aload_n hx hb dX5_dynamic_66 rfl (lv_at hl 0 rfl) ?_
              refine va_get (D := D) (ci := 7) (v := .int (nI wt)) (C := RX5) (T := TX5) (N := 27) hx hb hts inX5 hown hK hP 0 rfl rfl 21 (by decide) (hts _ wF_X5_94) (fun _ h9 => h9) rfl dX5_dynamic_67 ?_
              refine lv_iload_n hx hb dX5_dynamic_70 rfl (lv_at hl 2 rfl) ?_
              refine k_iast (D := D) (f := Y 23) (ws' := mw h cI cZ sl mi n (sX (sX Y 22 wt x) 23 wt di) 0 fr wt cy) hx hb hK hP hD hS 18 0 rfl rfl wt rfl (by omega) (by omega) rfl dX5_dynamic_71 (fun H locs hP hD hS => ?_)
              refine lv_aload_n hx hb dX5_dynamic_72 rfl (lv_at hl 0 rfl) ?_
              refine va_get (D := D) (ci := 7) (v := .ref (h 24)) (C := RX5) (T := TX5) (N := 27) hx hb hts inX5 hown hK hP 0 rfl rfl 24 (by decide) (hts _ wF_X5_65) (fun _ h9 => h9) rfl dX5_dynamic_73 ?_
              refine lv_aload_n hx hb dX5_dynamic_76 rfl (lv_at hl 0 rfl) ?_
              refine va_get (D := D) (ci := 7) (v := .int (nI wt)) (C := RX5) (T := TX5) (N := 27) hx hb hts inX5 hown hK hP 0 rfl rfl 21 (by decide) (hts _ wF_X5_94) (fun _ h9 => h9) rfl dX5_dynamic_77 ?_
              refine lv_iload_n hx hb dX5_dynamic_80 rfl (lv_at hl 3 rfl) ?_
              refine k_iast (D := D) (f := Y 24) (ws' := mw h cI cZ sl mi n (sX (sX (sX Y 22 wt x) 23 wt di) 24 wt ln) 0 fr wt cy) hx hb hK hP hD hS 19 0 rfl rfl wt rfl (by omega) (by omega) rfl dX5_dynamic_81 (fun H locs hP hD hS => ?_)
              refine lv_aload_n hx hb dX5_dynamic_82 rfl (lv_at hl 0 rfl) ?_
              refine lv_dup hx hb dX5_dynamic_83 rfl ?_
              refine va_get (D := D) (ci := 7) (v := .int (nI wt)) (C := RX5) (T := TX5) (N := 27) hx hb hts inX5 hown hK hP 0 rfl rfl 21 (by decide) (hts _ wF_X5_94) (fun _ h9 => h9) rfl dX5_dynamic_84 ?_
              refine lv_iconst (v := 1) hx hb dX5_dynamic_87 (by decide) ?_
              refine k_iadd hx hb wt 1 rfl rfl dX5_dynamic_88 ?_
              refine k_put (D := D) (ci := 7) (v := .int (nI (wt + 1))) (ty := .int) (C := RX5) (T := TX5) (N := 27) (ws' := mw h cI cZ sl mi n (sX (sX (sX Y 22 wt x) 23 wt di) 24 wt ln) 0 fr (wt + 1) cy) hx hb hts inX5 tyX5 tyX5_ok nmX5 hown hK hP hD hS 0 rfl rfl 21 (by decide) (hts _ wF_X5_94) (fun _ h9 => h9) rfl (by decide +kernel) rfl rfl (Nat.le_of_ble_eq_true rfl) rfl dX5_dynamic_89 (fun H locs hP hD hS => ?_)
              refine lv_aload_n hx hb dX5_dynamic_92 rfl (lv_at hl 0 rfl) ?_
              refine va_get (D := D) (ci := 7) (v := .int (nI (wt + 1))) (C := RX5) (T := TX5) (N := 27) hx hb hts inX5 hown hK hP 0 rfl rfl 21 (by decide) (hts _ wF_X5_94) (fun _ h9 => h9) rfl dX5_dynamic_93 ?_
              exact ret _ (sX (sX (sX Y 22 wt x) 23 wt di) 24 wt ln, wt + 1) _ _ _ _ dX5_dynamic_96 hP hD hS (Or.inr (Or.inr (Or.inr ⟨c10, hrg, by omega, rfl, rfl⟩)))
            · skip
              refine lv_bipush (v := (-4)) hx hb dX5_dynamic_49 (by decide) ?_
              exact ret _ (Y, wt) _ _ _ _ dX5_dynamic_51 hP hD hS (Or.inr (Or.inr (Or.inl ⟨c10, hrg, by omega, rfl, rfl⟩)))
          · skip
            refine lv_bipush (v := (-2)) hx hb dX5_dynamic_37 (by decide) ?_
            exact ret _ (Y, wt) _ _ _ _ dX5_dynamic_39 hP hD hS (Or.inr (Or.inl ⟨c10, (by first | exact fun z => absurd z.1.1 (i32_nlt c17) | exact fun z => absurd z.1.2 (i32_nlt c23) | exact fun z => absurd z.2.1 (i32_nlt c28) | exact fun z => c34 z.2.2), rfl, rfl⟩))
  · skip
    refine lv_iconst (v := (-1)) hx hb dX5_dynamic_13 (by decide) ?_
    exact ret _ (Y, wt) _ _ _ _ dX5_dynamic_14 hP hD hS (Or.inl ⟨c10, rfl, rfl⟩)
set_option maxHeartbeats 4000000 in
set_option maxRecDepth 100000 in
theorem c_X5_frame {l : Launch} {D : va_G} {cI cZ cL : ClassId} {h : Nat → Nat} {sl mi n : Nat} {Y : Nat → Nat → Int32} {th fr wt cy : Nat} (hn : n ≤ 16) (hs1 : 1 ≤ sl) (hsl : sl ≤ 60) (hs : fr ≤ 100) (hE : ∀ i, i < fr → isEv (Y 20 i)) (x q ch ba ev : Int32) : KI l yX5_frame (.code yX5_frame cX5_frame 9 (some .int)) 1 D (tyz cI cZ cL) [.ref (h 0), .int x, .int q, .int ch, .int ba, .int ev] (mw h cI cZ sl mi n Y th fr wt cy) (fun r u => (¬ (inR x 1 n ∧ inR q 0 (sl - 1)) ∧ r = -1 ∧ u = (Y, fr)) ∨ ((inR x 1 n ∧ inR q 0 (sl - 1)) ∧ ¬ ((1 ≤ ch ∧ ch ≤ 3) ∧ isEv ev ∧ 0 ≤ ba ∧ ba < ev) ∧ r = -2 ∧ u = (Y, fr)) ∨ ((inR x 1 n ∧ inR q 0 (sl - 1)) ∧ ((1 ≤ ch ∧ ch ≤ 3) ∧ isEv ev ∧ 0 ≤ ba ∧ ba < ev) ∧ (∃ i, i < fr ∧ ClR (Y 17) (Y 18) (Y 19) (Y 20) q ch ba ev i) ∧ r = -3 ∧ u = (Y, fr)) ∨ ((inR x 1 n ∧ inR q 0 (sl - 1)) ∧ ((1 ≤ ch ∧ ch ≤ 3) ∧ isEv ev ∧ 0 ≤ ba ∧ ba < ev) ∧ (∀ i, i < fr → ¬ ClR (Y 17) (Y 18) (Y 19) (Y 20) q ch ba ev i) ∧ 100 ≤ fr ∧ r = -4 ∧ u = (Y, fr)) ∨ ((inR x 1 n ∧ inR q 0 (sl - 1)) ∧ ((1 ≤ ch ∧ ch ≤ 3) ∧ isEv ev ∧ 0 ≤ ba ∧ ba < ev) ∧ (∀ i, i < fr → ¬ ClR (Y 17) (Y 18) (Y 19) (Y 20) q ch ba ev i) ∧ fr < 100 ∧ r = nI (fr + 1) ∧ u = (sX (sX (sX (sX (sX Y 16 fr x) 17 fr q) 18 fr ch) 19 fr ba) 20 fr ev, fr + 1))) (fun u : (Nat → Nat → Int32) × Nat => mw h cI cZ sl mi n u.1 0 u.2 wt cy) := by
  refine KI.of (own := RX5) (lvs := [(0, .ref (h 0)), (1, .int x), (2, .int q), (3, .int ch), (4, .int ba), (5, .int ev)]) (by decide) rfl (Nat.le_of_ble_eq_true rfl) rfl ?_
  intro p e s m args below meth c Q C hK hN A hA hP hD hS ret ls hl
  obtain ⟨hx, hb, hml, hown, hts, hr9, hlk9⟩ := id C
  refine lv_aload_n hx hb dX5_frame_0 rfl (lv_at hl 0 rfl) ?_
  refine lv_iconst (v := 0) hx hb dX5_frame_1 (by decide) ?_
  refine k_put (D := D) (ci := 7) (v := .int (nI 0)) (ty := .int) (C := RX5) (T := TX5) (N := 27) (ws' := mw h cI cZ sl mi n Y 0 fr wt cy) hx hb hts inX5 tyX5 tyX5_ok nmX5 hown hK hP hD hS 0 rfl rfl 0 (by decide) (hts _ wF_X5_81) (fun _ h9 => h9) rfl (by decide +kernel) rfl rfl (Nat.le_of_ble_eq_true rfl) rfl dX5_frame_2 (fun H locs hP hD hS => ?_)
  refine lv_aload_n hx hb dX5_frame_5 rfl (lv_at hl 0 rfl) ?_
  refine lv_iload_n hx hb dX5_frame_6 rfl (lv_at hl 1 rfl) ?_
  refine k_callR (D := D) C hK hN hP hD (c_X5_isNode hn x) hl cf_yX5_isNode wM_X5_84 0 7 rfl rfl rfl rfl (Nat.le_of_ble_eq_true rfl) ⟨by decide, by decide⟩ ⟨Nat.le_of_ble_eq_true rfl, Nat.le_of_ble_eq_true rfl⟩ dX5_frame_7 (fun r7 hr7 => ?_)
  have hr7 : r7 = (if inR x 1 n then 1 else 0) := hr7
  subst hr7
  refine k_ifeq_P (P := (inR x 1 n)) (tgt := 21) hx hb rfl dX5_frame_10 (by decide) (fun c10 => ?_) (fun c10 => ?_)
  · skip
    refine lv_iconst (v := (-1)) hx hb dX5_frame_21 (by decide) ?_
    exact ret _ (Y, fr) _ _ _ _ dX5_frame_22 hP hD hS (Or.inl ⟨(by first | exact fun z => c10 z.1 | exact fun z => c18 z.2), rfl, rfl⟩)
  · skip
    refine lv_aload_n hx hb dX5_frame_13 rfl (lv_at hl 0 rfl) ?_
    refine lv_iload_n hx hb dX5_frame_14 rfl (lv_at hl 2 rfl) ?_
    refine k_callR (D := D) C hK hN hP hD (c_X5_isSlot hs1 hsl q) hl cf_yX5_isSlot wM_X5_88 0 7 rfl rfl rfl rfl (Nat.le_of_ble_eq_true rfl) ⟨by decide, by decide⟩ ⟨Nat.le_of_ble_eq_true rfl, Nat.le_of_ble_eq_true rfl⟩ dX5_frame_15 (fun r15 hr15 => ?_)
    have hr15 : r15 = (if inR q 0 (sl - 1) then 1 else 0) := hr15
    subst hr15
    refine k_ifne_P (P := (inR q 0 (sl - 1))) (tgt := 23) hx hb rfl dX5_frame_18 (by decide) (fun c18 => ?_) (fun c18 => ?_)
    · skip
      have L74 : ∀ (pd : Int32) (ls : Array Slot), (pd = if isEv ev then 1 else 0) → (lv_has ls 9 [(0, .ref (h 0)), (1, .int x), (2, .int q), (3, .int ch), (4, .int ba), (5, .int ev)]) → W p l e (rmK 1) s m args below meth c H locs 0 0 Q (F0 m 74 ls [.int pd]) := by
        intro pd ls hpd hl
        subst hpd
        refine lv_istore (lv' := [(6, .int (if isEv ev then 1 else 0)), (0, .ref (h 0)), (1, .int x), (2, .int q), (3, .int ch), (4, .int ba), (5, .int ev)]) hx hb dX5_frame_74 hl (by decide) rfl (fun ls hl => ?_)
        refine lv_iload_n hx hb dX5_frame_76 rfl (lv_at hl 4 rfl) ?_
        refine lv_iconst (v := 1) hx hb dX5_frame_77 (by decide) ?_
        refine lv_icmp_lt (tgt := 103) hx hb dX5_frame_78 (by decide) (fun c78 => ?_) (fun c78 => ?_)
        · skip
          refine lv_bipush (v := (-2)) hx hb dX5_frame_103 (by decide) ?_
          exact ret _ (Y, fr) _ _ _ _ dX5_frame_105 hP hD hS (Or.inr (Or.inl ⟨⟨c10, c18⟩, (by first | exact fun z => absurd z.1.1 (i32_nlt c78) | exact fun z => absurd z.1.2 (i32_nlt c83) | exact fun z => c88 z.2.1 | exact fun z => absurd z.2.2.1 (i32_nlt c93) | exact fun z => c100 z.2.2.2), rfl, rfl⟩))
        · skip
          refine lv_iload_n hx hb dX5_frame_81 rfl (lv_at hl 4 rfl) ?_
          refine lv_iconst (v := 3) hx hb dX5_frame_82 (by decide) ?_
          refine lv_icmp_gt (tgt := 103) hx hb dX5_frame_83 (by decide) (fun c83 => ?_) (fun c83 => ?_)
          · skip
            refine lv_bipush (v := (-2)) hx hb dX5_frame_103 (by decide) ?_
            exact ret _ (Y, fr) _ _ _ _ dX5_frame_105 hP hD hS (Or.inr (Or.inl ⟨⟨c10, c18⟩, (by first | exact fun z => absurd z.1.1 (i32_nlt c78) | exact fun z => absurd z.1.2 (i32_nlt c83) | exact fun z => c88 z.2.1 | exact fun z => absurd z.2.2.1 (i32_nlt c93) | exact fun z => c100 z.2.2.2), rfl, rfl⟩))
          · skip
            refine lv_iload hx hb dX5_frame_86 (lv_at hl 0 rfl) ?_
            refine k_ifeq_P (P := (isEv ev)) (tgt := 103) hx hb rfl dX5_frame_88 (by decide) (fun c88 => ?_) (fun c88 => ?_)
            · skip
              refine lv_bipush (v := (-2)) hx hb dX5_frame_103 (by decide) ?_
              exact ret _ (Y, fr) _ _ _ _ dX5_frame_105 hP hD hS (Or.inr (Or.inl ⟨⟨c10, c18⟩, (by first | exact fun z => absurd z.1.1 (i32_nlt c78) | exact fun z => absurd z.1.2 (i32_nlt c83) | exact fun z => c88 z.2.1 | exact fun z => absurd z.2.2.1 (i32_nlt c93) | exact fun z => c100 z.2.2.2), rfl, rfl⟩))
            · skip
              refine lv_iload hx hb dX5_frame_91 (lv_at hl 5 rfl) ?_
              refine lv_if_lt (tgt := 103) hx hb dX5_frame_93 (by decide) (fun c93 => ?_) (fun c93 => ?_)
              · skip
                refine lv_bipush (v := (-2)) hx hb dX5_frame_103 (by decide) ?_
                exact ret _ (Y, fr) _ _ _ _ dX5_frame_105 hP hD hS (Or.inr (Or.inl ⟨⟨c10, c18⟩, (by first | exact fun z => absurd z.1.1 (i32_nlt c78) | exact fun z => absurd z.1.2 (i32_nlt c83) | exact fun z => c88 z.2.1 | exact fun z => absurd z.2.2.1 (i32_nlt c93) | exact fun z => c100 z.2.2.2), rfl, rfl⟩))
              · skip
                refine lv_iload hx hb dX5_frame_96 (lv_at hl 5 rfl) ?_
                refine lv_iload hx hb dX5_frame_98 (lv_at hl 6 rfl) ?_
                refine lv_icmp_lt (tgt := 106) hx hb dX5_frame_100 (by decide) (fun c100 => ?_) (fun c100 => ?_)
                · skip
                  have hk2 : ((1 ≤ ch ∧ ch ≤ 3) ∧ isEv ev ∧ 0 ≤ ba ∧ ba < ev) := ⟨⟨Int32.not_lt.mp c78, Int32.not_lt.mp c83⟩, c88, Int32.not_lt.mp c93, c100⟩
                  refine lv_iconst (v := 0) hx hb dX5_frame_106 (by decide) ?_
                  refine lv_istore (lv' := [(7, .int 0), (6, .int (if isEv ev then 1 else 0)), (0, .ref (h 0)), (1, .int x), (2, .int q), (3, .int ch), (4, .int ba), (5, .int ev)]) hx hb dX5_frame_107 hl (by decide) rfl (fun ls hl => ?_)
                  have L109 : ∀ (kf : Nat) (i : Nat) (ls : Array Slot), (fr - i < kf) → (i ≤ fr) → (∀ j, j < i → ¬ ClR (Y 17) (Y 18) (Y 19) (Y 20) q ch ba ev j) → (lv_has ls 9 [(0, .ref (h 0)), (1, .int x), (2, .int q), (3, .int ch), (4, .int ba), (5, .int ev), (7, .int (nI i))]) → W p l e (rmK 1) s m args below meth c H locs 0 0 Q (F0 m 109 ls []) := by
                    intro kf
                    induction kf with
                    | zero =>
                      intro i ls hm
                      exact absurd hm (Nat.not_lt_zero _)
                    | succ kf ih109 =>
                      intro i ls hm h2 h3 hl
                      refine lv_iload hx hb dX5_frame_109 (lv_at hl 6 rfl) ?_
                      refine lv_aload_n hx hb dX5_frame_111 rfl (lv_at hl 0 rfl) ?_
                      refine va_get (D := D) (ci := 7) (v := .int (nI fr)) (C := RX5) (T := TX5) (N := 27) hx hb hts inX5 hown hK hP 0 rfl rfl 15 (by decide) (hts _ wF_X5_91) (fun _ h9 => h9) rfl dX5_frame_112 ?_
                      refine k_icmp_ge (tgt := 194) hx hb i fr rfl rfl (by omega) (by omega) dX5_frame_115 (by decide) (fun c115 => ?_) (fun c115 => ?_)
                      · skip
                        refine lv_aload_n hx hb dX5_frame_194 rfl (lv_at hl 0 rfl) ?_
                        refine va_get (D := D) (ci := 7) (v := .int (nI fr)) (C := RX5) (T := TX5) (N := 27) hx hb hts inX5 hown hK hP 0 rfl rfl 15 (by decide) (hts _ wF_X5_91) (fun _ h9 => h9) rfl dX5_frame_195 ?_
                        refine lv_bipush (v := 100) hx hb dX5_frame_198 (by decide) ?_
                        refine k_icmp_ne (tgt := 206) hx hb fr 100 rfl rfl (by omega) (by omega) dX5_frame_200 (by decide) (fun c200 => ?_) (fun c200 => ?_)
                        · skip
                          refine lv_aload_n hx hb dX5_frame_206 rfl (lv_at hl 0 rfl) ?_
                          refine va_get (D := D) (ci := 7) (v := .ref (h 16)) (C := RX5) (T := TX5) (N := 27) hx hb hts inX5 hown hK hP 0 rfl rfl 16 (by decide) (hts _ wF_X5_44) (fun _ h9 => h9) rfl dX5_frame_207 ?_
                          refine lv_aload_n hx hb dX5_frame_210 rfl (lv_at hl 0 rfl) ?_
                          refine va_get (D := D) (ci := 7) (v := .int (nI fr)) (C := RX5) (T := TX5) (N := 27) hx hb hts inX5 hown hK hP 0 rfl rfl 15 (by decide) (hts _ wF_X5_91) (fun _ h9 => h9) rfl dX5_frame_211 ?_
                          refine lv_iload_n hx hb dX5_frame_214 rfl (lv_at hl 1 rfl) ?_
                          refine k_iast (D := D) (f := Y 16) (ws' := mw h cI cZ sl mi n (sX Y 16 fr x) 0 fr wt cy) hx hb hK hP hD hS 12 0 rfl rfl fr rfl (by omega) (by omega) rfl dX5_frame_215 (fun H locs hP hD hS => ?_)
                          refine lv_aload_n hx hb dX5_frame_216 rfl (lv_at hl 0 rfl) ?_
                          refine va_get (D := D) (ci := 7) (v := .ref (h 17)) (C := RX5) (T := TX5) (N := 27) hx hb hts inX5 hown hK hP 0 rfl rfl 17 (by decide) (hts _ wF_X5_47) (fun _ h9 => h9) rfl dX5_frame_217 ?_
                          refine lv_aload_n hx hb dX5_frame_220 rfl (lv_at hl 0 rfl) ?_
                          refine va_get (D := D) (ci := 7) (v := .int (nI fr)) (C := RX5) (T := TX5) (N := 27) hx hb hts inX5 hown hK hP 0 rfl rfl 15 (by decide) (hts _ wF_X5_91) (fun _ h9 => h9) rfl dX5_frame_221 ?_
                          refine lv_iload_n hx hb dX5_frame_224 rfl (lv_at hl 2 rfl) ?_
                          refine k_iast (D := D) (f := Y 17) (ws' := mw h cI cZ sl mi n (sX (sX Y 16 fr x) 17 fr q) 0 fr wt cy) hx hb hK hP hD hS 13 0 rfl rfl fr rfl (by omega) (by omega) rfl dX5_frame_225 (fun H locs hP hD hS => ?_)
                          refine lv_aload_n hx hb dX5_frame_226 rfl (lv_at hl 0 rfl) ?_
                          refine va_get (D := D) (ci := 7) (v := .ref (h 18)) (C := RX5) (T := TX5) (N := 27) hx hb hts inX5 hown hK hP 0 rfl rfl 18 (by decide) (hts _ wF_X5_50) (fun _ h9 => h9) rfl dX5_frame_227 ?_
                          refine lv_aload_n hx hb dX5_frame_230 rfl (lv_at hl 0 rfl) ?_
                          refine va_get (D := D) (ci := 7) (v := .int (nI fr)) (C := RX5) (T := TX5) (N := 27) hx hb hts inX5 hown hK hP 0 rfl rfl 15 (by decide) (hts _ wF_X5_91) (fun _ h9 => h9) rfl dX5_frame_231 ?_
                          refine lv_iload_n hx hb dX5_frame_234 rfl (lv_at hl 3 rfl) ?_
                          refine k_iast (D := D) (f := Y 18) (ws' := mw h cI cZ sl mi n (sX (sX (sX Y 16 fr x) 17 fr q) 18 fr ch) 0 fr wt cy) hx hb hK hP hD hS 14 0 rfl rfl fr rfl (by omega) (by omega) rfl dX5_frame_235 (fun H locs hP hD hS => ?_)
                          refine lv_aload_n hx hb dX5_frame_236 rfl (lv_at hl 0 rfl) ?_
                          refine va_get (D := D) (ci := 7) (v := .ref (h 19)) (C := RX5) (T := TX5) (N := 27) hx hb hts inX5 hown hK hP 0 rfl rfl 19 (by decide) (hts _ wF_X5_53) (fun _ h9 => h9) rfl dX5_frame_237 ?_
                          refine lv_aload_n hx hb dX5_frame_240 rfl (lv_at hl 0 rfl) ?_
                          refine va_get (D := D) (ci := 7) (v := .int (nI fr)) (C := RX5) (T := TX5) (N := 27) hx hb hts inX5 hown hK hP 0 rfl rfl 15 (by decide) (hts _ wF_X5_91) (fun _ h9 => h9) rfl dX5_frame_241 ?_
                          refine lv_iload hx hb dX5_frame_244 (lv_at hl 4 rfl) ?_
                          refine k_iast (D := D) (f := Y 19) (ws' := mw h cI cZ sl mi n (sX (sX (sX (sX Y 16 fr x) 17 fr q) 18 fr ch) 19 fr ba) 0 fr wt cy) hx hb hK hP hD hS 15 0 rfl rfl fr rfl (by omega) (by omega) rfl dX5_frame_246 (fun H locs hP hD hS => ?_)
                          refine lv_aload_n hx hb dX5_frame_247 rfl (lv_at hl 0 rfl) ?_
                          refine va_get (D := D) (ci := 7) (v := .ref (h 20)) (C := RX5) (T := TX5) (N := 27) hx hb hts inX5 hown hK hP 0 rfl rfl 20 (by decide) (hts _ wF_X5_56) (fun _ h9 => h9) rfl dX5_frame_248 ?_
                          refine lv_aload_n hx hb dX5_frame_251 rfl (lv_at hl 0 rfl) ?_
                          refine va_get (D := D) (ci := 7) (v := .int (nI fr)) (C := RX5) (T := TX5) (N := 27) hx hb hts inX5 hown hK hP 0 rfl rfl 15 (by decide) (hts _ wF_X5_91) (fun _ h9 => h9) rfl dX5_frame_252 ?_
                          refine lv_iload hx hb dX5_frame_255 (lv_at hl 5 rfl) ?_
                          refine k_iast (D := D) (f := Y 20) (ws' := mw h cI cZ sl mi n (sX (sX (sX (sX (sX Y 16 fr x) 17 fr q) 18 fr ch) 19 fr ba) 20 fr ev) 0 fr wt cy) hx hb hK hP hD hS 16 0 rfl rfl fr rfl (by omega) (by omega) rfl dX5_frame_257 (fun H locs hP hD hS => ?_)
                          refine lv_aload_n hx hb dX5_frame_258 rfl (lv_at hl 0 rfl) ?_
                          refine lv_dup hx hb dX5_frame_259 rfl ?_
                          refine va_get (D := D) (ci := 7) (v := .int (nI fr)) (C := RX5) (T := TX5) (N := 27) hx hb hts inX5 hown hK hP 0 rfl rfl 15 (by decide) (hts _ wF_X5_91) (fun _ h9 => h9) rfl dX5_frame_260 ?_
                          refine lv_iconst (v := 1) hx hb dX5_frame_263 (by decide) ?_
                          refine k_iadd hx hb fr 1 rfl rfl dX5_frame_264 ?_
                          refine k_put (D := D) (ci := 7) (v := .int (nI (fr + 1))) (ty := .int) (C := RX5) (T := TX5) (N := 27) (ws' := mw h cI cZ sl mi n (sX (sX (sX (sX (sX Y 16 fr x) 17 fr q) 18 fr ch) 19 fr ba) 20 fr ev) 0 (fr + 1) wt cy) hx hb hts inX5 tyX5 tyX5_ok nmX5 hown hK hP hD hS 0 rfl rfl 15 (by decide) (hts _ wF_X5_91) (fun _ h9 => h9) rfl (by decide +kernel) rfl rfl (Nat.le_of_ble_eq_true rfl) rfl dX5_frame_265 (fun H locs hP hD hS => ?_)
                          refine lv_aload_n hx hb dX5_frame_268 rfl (lv_at hl 0 rfl) ?_
                          refine va_get (D := D) (ci := 7) (v := .int (nI (fr + 1))) (C := RX5) (T := TX5) (N := 27) hx hb hts inX5 hown hK hP 0 rfl rfl 15 (by decide) (hts _ wF_X5_91) (fun _ h9 => h9) rfl dX5_frame_269 ?_
                          exact ret _ (sX (sX (sX (sX (sX Y 16 fr x) 17 fr q) 18 fr ch) 19 fr ba) 20 fr ev, fr + 1) _ _ _ _ dX5_frame_272 hP hD hS (Or.inr (Or.inr (Or.inr (Or.inr ⟨⟨c10, c18⟩, hk2, (fun j b => h3 j (by omega)), by omega, rfl, rfl⟩))))
                        · skip
                          refine lv_bipush (v := (-4)) hx hb dX5_frame_203 (by decide) ?_
                          exact ret _ (Y, fr) _ _ _ _ dX5_frame_205 hP hD hS (Or.inr (Or.inr (Or.inr (Or.inl ⟨⟨c10, c18⟩, hk2, (fun j b => h3 j (by omega)), by omega, rfl, rfl⟩))))
                      · skip
                        have L142 : ∀ (lo : Int32) (ls : Array Slot), (lo = (if Y 20 i ≤ ev then Y 20 i else ev)) → (lv_has ls 9 [(0, .ref (h 0)), (1, .int x), (2, .int q), (3, .int ch), (4, .int ba), (5, .int ev), (7, .int (nI i))]) → W p l e (rmK 1) s m args below meth c H locs 0 0 Q (F0 m 142 ls [.int lo]) := by
                          intro lo ls hlo hl
                          have hl0 : ¬ lo = 0 := by
                            rw [hlo]
                            split
                            · exact ev_ne (hE i c115)
                            · exact ev_ne c88
                          refine lv_istore (lv' := [(8, .int lo), (0, .ref (h 0)), (1, .int x), (2, .int q), (3, .int ch), (4, .int ba), (5, .int ev), (7, .int (nI i))]) hx hb dX5_frame_142 hl (by decide) rfl (fun ls hl => ?_)
                          refine lv_aload_n hx hb dX5_frame_144 rfl (lv_at hl 1 rfl) ?_
                          refine va_get (D := D) (ci := 7) (v := .ref (h 17)) (C := RX5) (T := TX5) (N := 27) hx hb hts inX5 hown hK hP 0 rfl rfl 17 (by decide) (hts _ wF_X5_47) (fun _ h9 => h9) rfl dX5_frame_145 ?_
                          refine lv_iload hx hb dX5_frame_148 (lv_at hl 7 rfl) ?_
                          refine k_iald (D := D) (f := Y 17) hx hb hK hP 13 0 rfl rfl i rfl (by omega) (by omega) dX5_frame_150 ?_
                          refine lv_iload_n hx hb dX5_frame_151 rfl (lv_at hl 3 rfl) ?_
                          refine lv_icmp_ne (tgt := 188) hx hb dX5_frame_152 (by decide) (fun c152 => ?_) (fun c152 => ?_)
                          · skip
                            refine k_iinc (k := 7) (lv' := [(7, .int (nI (i + 1))), (8, .int lo), (0, .ref (h 0)), (1, .int x), (2, .int q), (3, .int ch), (4, .int ba), (5, .int ev)]) hx hb i rfl dX5_frame_188 hl rfl (by decide) rfl (fun ls hl => ?_)
                            refine lv_goto (tgt := 109) hx hb dX5_frame_191 (by decide) ?_
                            exact ih109 (i + 1) _ (by omega) (by omega) (fun j b => if e : j = i then (by subst e; subst hlo; first | exact fun z => c152 z.1.1 | exact fun z => z.1.2 c164 | exact fun z => c182 z.2) else h3 j (by omega)) (lv_sub hl [2, 3, 4, 5, 6, 7, 0] rfl)
                          · skip
                            refine lv_aload_n hx hb dX5_frame_155 rfl (lv_at hl 1 rfl) ?_
                            refine va_get (D := D) (ci := 7) (v := .ref (h 18)) (C := RX5) (T := TX5) (N := 27) hx hb hts inX5 hown hK hP 0 rfl rfl 18 (by decide) (hts _ wF_X5_50) (fun _ h9 => h9) rfl dX5_frame_156 ?_
                            refine lv_iload hx hb dX5_frame_159 (lv_at hl 7 rfl) ?_
                            refine k_iald (D := D) (f := Y 18) hx hb hK hP 14 0 rfl rfl i rfl (by omega) (by omega) dX5_frame_161 ?_
                            refine lv_iload_n hx hb dX5_frame_162 rfl (lv_at hl 4 rfl) ?_
                            refine lv_iand hx hb dX5_frame_163 ?_
                            refine lv_if_eq (tgt := 188) hx hb dX5_frame_164 (by decide) (fun c164 => ?_) (fun c164 => ?_)
                            · skip
                              refine k_iinc (k := 7) (lv' := [(7, .int (nI (i + 1))), (8, .int lo), (0, .ref (h 0)), (1, .int x), (2, .int q), (3, .int ch), (4, .int ba), (5, .int ev)]) hx hb i rfl dX5_frame_188 hl rfl (by decide) rfl (fun ls hl => ?_)
                              refine lv_goto (tgt := 109) hx hb dX5_frame_191 (by decide) ?_
                              exact ih109 (i + 1) _ (by omega) (by omega) (fun j b => if e : j = i then (by subst e; subst hlo; first | exact fun z => c152 z.1.1 | exact fun z => z.1.2 c164 | exact fun z => c182 z.2) else h3 j (by omega)) (lv_sub hl [2, 3, 4, 5, 6, 7, 0] rfl)
                            · skip
                              refine lv_iload hx hb dX5_frame_167 (lv_at hl 5 rfl) ?_
                              refine lv_iload hx hb dX5_frame_169 (lv_at hl 0 rfl) ?_
                              refine lv_irem hx hb dX5_frame_171 hl0 ?_
                              refine lv_aload_n hx hb dX5_frame_172 rfl (lv_at hl 1 rfl) ?_
                              refine va_get (D := D) (ci := 7) (v := .ref (h 19)) (C := RX5) (T := TX5) (N := 27) hx hb hts inX5 hown hK hP 0 rfl rfl 19 (by decide) (hts _ wF_X5_53) (fun _ h9 => h9) rfl dX5_frame_173 ?_
                              refine lv_iload hx hb dX5_frame_176 (lv_at hl 7 rfl) ?_
                              refine k_iald (D := D) (f := Y 19) hx hb hK hP 15 0 rfl rfl i rfl (by omega) (by omega) dX5_frame_178 ?_
                              refine lv_iload hx hb dX5_frame_179 (lv_at hl 0 rfl) ?_
                              refine lv_irem hx hb dX5_frame_181 hl0 ?_
                              refine lv_icmp_ne (tgt := 188) hx hb dX5_frame_182 (by decide) (fun c182 => ?_) (fun c182 => ?_)
                              · skip
                                refine k_iinc (k := 7) (lv' := [(7, .int (nI (i + 1))), (8, .int lo), (0, .ref (h 0)), (1, .int x), (2, .int q), (3, .int ch), (4, .int ba), (5, .int ev)]) hx hb i rfl dX5_frame_188 hl rfl (by decide) rfl (fun ls hl => ?_)
                                refine lv_goto (tgt := 109) hx hb dX5_frame_191 (by decide) ?_
                                exact ih109 (i + 1) _ (by omega) (by omega) (fun j b => if e : j = i then (by subst e; subst hlo; first | exact fun z => c152 z.1.1 | exact fun z => z.1.2 c164 | exact fun z => c182 z.2) else h3 j (by omega)) (lv_sub hl [2, 3, 4, 5, 6, 7, 0] rfl)
                              · skip
                                refine lv_bipush (v := (-3)) hx hb dX5_frame_185 (by decide) ?_
                                exact ret _ (Y, fr) _ _ _ _ dX5_frame_187 hP hD hS (Or.inr (Or.inr (Or.inl ⟨⟨c10, c18⟩, hk2, ⟨i, c115, ⟨c152, c164⟩, (by subst hlo; exact c182)⟩, rfl, rfl⟩)))
                        refine lv_iload hx hb dX5_frame_118 (lv_at hl 5 rfl) ?_
                        refine lv_aload_n hx hb dX5_frame_120 rfl (lv_at hl 0 rfl) ?_
                        refine va_get (D := D) (ci := 7) (v := .ref (h 20)) (C := RX5) (T := TX5) (N := 27) hx hb hts inX5 hown hK hP 0 rfl rfl 20 (by decide) (hts _ wF_X5_56) (fun _ h9 => h9) rfl dX5_frame_121 ?_
                        refine lv_iload hx hb dX5_frame_124 (lv_at hl 6 rfl) ?_
                        refine k_iald (D := D) (f := Y 20) hx hb hK hP 16 0 rfl rfl i rfl (by omega) (by omega) dX5_frame_126 ?_
                        refine lv_icmp_ge (tgt := 135) hx hb dX5_frame_127 (by decide) (fun c127 => ?_) (fun c127 => ?_)
                        · skip
                          refine lv_aload_n hx hb dX5_frame_135 rfl (lv_at hl 0 rfl) ?_
                          refine va_get (D := D) (ci := 7) (v := .ref (h 20)) (C := RX5) (T := TX5) (N := 27) hx hb hts inX5 hown hK hP 0 rfl rfl 20 (by decide) (hts _ wF_X5_56) (fun _ h9 => h9) rfl dX5_frame_136 ?_
                          refine lv_iload hx hb dX5_frame_139 (lv_at hl 6 rfl) ?_
                          refine k_iald (D := D) (f := Y 20) hx hb hK hP 16 0 rfl rfl i rfl (by omega) (by omega) dX5_frame_141 ?_
                          exact L142 (Y 20 i) _ (by first | exact ite_p c127 | exact ite_n c127) (lv_sub hl [0, 1, 2, 3, 4, 5, 6] rfl)
                        · skip
                          refine lv_iload hx hb dX5_frame_130 (lv_at hl 5 rfl) ?_
                          refine lv_goto (tgt := 142) hx hb dX5_frame_132 (by decide) ?_
                          exact L142 ev _ (by first | exact ite_p c127 | exact ite_n c127) (lv_sub hl [0, 1, 2, 3, 4, 5, 6] rfl)
                  exact L109 ((fr - 0) + 1) 0 _ (Nat.lt_succ_self _) (Nat.zero_le _) (fun j b => absurd b (by omega)) (lv_sub hl [2, 3, 4, 5, 6, 7, 0] rfl)
                · skip
                  refine lv_bipush (v := (-2)) hx hb dX5_frame_103 (by decide) ?_
                  exact ret _ (Y, fr) _ _ _ _ dX5_frame_105 hP hD hS (Or.inr (Or.inl ⟨⟨c10, c18⟩, (by first | exact fun z => absurd z.1.1 (i32_nlt c78) | exact fun z => absurd z.1.2 (i32_nlt c83) | exact fun z => c88 z.2.1 | exact fun z => absurd z.2.2.1 (i32_nlt c93) | exact fun z => c100 z.2.2.2), rfl, rfl⟩))
      refine lv_iload hx hb dX5_frame_23 (lv_at hl 5 rfl) ?_
      refine lv_iconst (v := 1) hx hb dX5_frame_25 (by decide) ?_
      refine lv_icmp_eq (tgt := 69) hx hb dX5_frame_26 (by decide) (fun c26 => ?_) (fun c26 => ?_)
      · skip
        refine lv_iconst (v := 1) hx hb dX5_frame_69 (by decide) ?_
        refine lv_goto (tgt := 74) hx hb dX5_frame_70 (by decide) ?_
        exact L74 1 _ (by first | exact ite_p (Or.inl c26) | exact ite_p (Or.inr (Or.inl c32)) | exact ite_p (Or.inr (Or.inr (Or.inl c38))) | exact ite_p (Or.inr (Or.inr (Or.inr (Or.inl c45)))) | exact ite_p (Or.inr (Or.inr (Or.inr (Or.inr (Or.inl c52))))) | exact ite_p (Or.inr (Or.inr (Or.inr (Or.inr (Or.inr (Or.inl c59)))))) | exact ite_p (Or.inr (Or.inr (Or.inr (Or.inr (Or.inr (Or.inr c66)))))) | exact ite_n (fun z => by rcases z with z | z | z | z | z | z | z <;> contradiction)) (lv_sub hl [0, 1, 2, 3, 4, 5] rfl)
      · skip
        refine lv_iload hx hb dX5_frame_29 (lv_at hl 5 rfl) ?_
        refine lv_iconst (v := 2) hx hb dX5_frame_31 (by decide) ?_
        refine lv_icmp_eq (tgt := 69) hx hb dX5_frame_32 (by decide) (fun c32 => ?_) (fun c32 => ?_)
        · skip
          refine lv_iconst (v := 1) hx hb dX5_frame_69 (by decide) ?_
          refine lv_goto (tgt := 74) hx hb dX5_frame_70 (by decide) ?_
          exact L74 1 _ (by first | exact ite_p (Or.inl c26) | exact ite_p (Or.inr (Or.inl c32)) | exact ite_p (Or.inr (Or.inr (Or.inl c38))) | exact ite_p (Or.inr (Or.inr (Or.inr (Or.inl c45)))) | exact ite_p (Or.inr (Or.inr (Or.inr (Or.inr (Or.inl c52))))) | exact ite_p (Or.inr (Or.inr (Or.inr (Or.inr (Or.inr (Or.inl c59)))))) | exact ite_p (Or.inr (Or.inr (Or.inr (Or.inr (Or.inr (Or.inr c66)))))) | exact ite_n (fun z => by rcases z with z | z | z | z | z | z | z <;> contradiction)) (lv_sub hl [0, 1, 2, 3, 4, 5] rfl)
        · skip
          refine lv_iload hx hb dX5_frame_35 (lv_at hl 5 rfl) ?_
          refine lv_iconst (v := 4) hx hb dX5_frame_37 (by decide) ?_
          refine lv_icmp_eq (tgt := 69) hx hb dX5_frame_38 (by decide) (fun c38 => ?_) (fun c38 => ?_)
          · skip
            refine lv_iconst (v := 1) hx hb dX5_frame_69 (by decide) ?_
            refine lv_goto (tgt := 74) hx hb dX5_frame_70 (by decide) ?_
            exact L74 1 _ (by first | exact ite_p (Or.inl c26) | exact ite_p (Or.inr (Or.inl c32)) | exact ite_p (Or.inr (Or.inr (Or.inl c38))) | exact ite_p (Or.inr (Or.inr (Or.inr (Or.inl c45)))) | exact ite_p (Or.inr (Or.inr (Or.inr (Or.inr (Or.inl c52))))) | exact ite_p (Or.inr (Or.inr (Or.inr (Or.inr (Or.inr (Or.inl c59)))))) | exact ite_p (Or.inr (Or.inr (Or.inr (Or.inr (Or.inr (Or.inr c66)))))) | exact ite_n (fun z => by rcases z with z | z | z | z | z | z | z <;> contradiction)) (lv_sub hl [0, 1, 2, 3, 4, 5] rfl)
          · skip
            refine lv_iload hx hb dX5_frame_41 (lv_at hl 5 rfl) ?_
            refine lv_bipush (v := 8) hx hb dX5_frame_43 (by decide) ?_
            refine lv_icmp_eq (tgt := 69) hx hb dX5_frame_45 (by decide) (fun c45 => ?_) (fun c45 => ?_)
            · skip
              refine lv_iconst (v := 1) hx hb dX5_frame_69 (by decide) ?_
              refine lv_goto (tgt := 74) hx hb dX5_frame_70 (by decide) ?_
              exact L74 1 _ (by first | exact ite_p (Or.inl c26) | exact ite_p (Or.inr (Or.inl c32)) | exact ite_p (Or.inr (Or.inr (Or.inl c38))) | exact ite_p (Or.inr (Or.inr (Or.inr (Or.inl c45)))) | exact ite_p (Or.inr (Or.inr (Or.inr (Or.inr (Or.inl c52))))) | exact ite_p (Or.inr (Or.inr (Or.inr (Or.inr (Or.inr (Or.inl c59)))))) | exact ite_p (Or.inr (Or.inr (Or.inr (Or.inr (Or.inr (Or.inr c66)))))) | exact ite_n (fun z => by rcases z with z | z | z | z | z | z | z <;> contradiction)) (lv_sub hl [0, 1, 2, 3, 4, 5] rfl)
            · skip
              refine lv_iload hx hb dX5_frame_48 (lv_at hl 5 rfl) ?_
              refine lv_bipush (v := 16) hx hb dX5_frame_50 (by decide) ?_
              refine lv_icmp_eq (tgt := 69) hx hb dX5_frame_52 (by decide) (fun c52 => ?_) (fun c52 => ?_)
              · skip
                refine lv_iconst (v := 1) hx hb dX5_frame_69 (by decide) ?_
                refine lv_goto (tgt := 74) hx hb dX5_frame_70 (by decide) ?_
                exact L74 1 _ (by first | exact ite_p (Or.inl c26) | exact ite_p (Or.inr (Or.inl c32)) | exact ite_p (Or.inr (Or.inr (Or.inl c38))) | exact ite_p (Or.inr (Or.inr (Or.inr (Or.inl c45)))) | exact ite_p (Or.inr (Or.inr (Or.inr (Or.inr (Or.inl c52))))) | exact ite_p (Or.inr (Or.inr (Or.inr (Or.inr (Or.inr (Or.inl c59)))))) | exact ite_p (Or.inr (Or.inr (Or.inr (Or.inr (Or.inr (Or.inr c66)))))) | exact ite_n (fun z => by rcases z with z | z | z | z | z | z | z <;> contradiction)) (lv_sub hl [0, 1, 2, 3, 4, 5] rfl)
              · skip
                refine lv_iload hx hb dX5_frame_55 (lv_at hl 5 rfl) ?_
                refine lv_bipush (v := 32) hx hb dX5_frame_57 (by decide) ?_
                refine lv_icmp_eq (tgt := 69) hx hb dX5_frame_59 (by decide) (fun c59 => ?_) (fun c59 => ?_)
                · skip
                  refine lv_iconst (v := 1) hx hb dX5_frame_69 (by decide) ?_
                  refine lv_goto (tgt := 74) hx hb dX5_frame_70 (by decide) ?_
                  exact L74 1 _ (by first | exact ite_p (Or.inl c26) | exact ite_p (Or.inr (Or.inl c32)) | exact ite_p (Or.inr (Or.inr (Or.inl c38))) | exact ite_p (Or.inr (Or.inr (Or.inr (Or.inl c45)))) | exact ite_p (Or.inr (Or.inr (Or.inr (Or.inr (Or.inl c52))))) | exact ite_p (Or.inr (Or.inr (Or.inr (Or.inr (Or.inr (Or.inl c59)))))) | exact ite_p (Or.inr (Or.inr (Or.inr (Or.inr (Or.inr (Or.inr c66)))))) | exact ite_n (fun z => by rcases z with z | z | z | z | z | z | z <;> contradiction)) (lv_sub hl [0, 1, 2, 3, 4, 5] rfl)
                · skip
                  refine lv_iload hx hb dX5_frame_62 (lv_at hl 5 rfl) ?_
                  refine lv_bipush (v := 64) hx hb dX5_frame_64 (by decide) ?_
                  refine lv_icmp_ne (tgt := 73) hx hb dX5_frame_66 (by decide) (fun c66 => ?_) (fun c66 => ?_)
                  · skip
                    refine lv_iconst (v := 0) hx hb dX5_frame_73 (by decide) ?_
                    exact L74 0 _ (by first | exact ite_p (Or.inl c26) | exact ite_p (Or.inr (Or.inl c32)) | exact ite_p (Or.inr (Or.inr (Or.inl c38))) | exact ite_p (Or.inr (Or.inr (Or.inr (Or.inl c45)))) | exact ite_p (Or.inr (Or.inr (Or.inr (Or.inr (Or.inl c52))))) | exact ite_p (Or.inr (Or.inr (Or.inr (Or.inr (Or.inr (Or.inl c59)))))) | exact ite_p (Or.inr (Or.inr (Or.inr (Or.inr (Or.inr (Or.inr c66)))))) | exact ite_n (fun z => by rcases z with z | z | z | z | z | z | z <;> contradiction)) (lv_sub hl [0, 1, 2, 3, 4, 5] rfl)
                  · skip
                    refine lv_iconst (v := 1) hx hb dX5_frame_69 (by decide) ?_
                    refine lv_goto (tgt := 74) hx hb dX5_frame_70 (by decide) ?_
                    exact L74 1 _ (by first | exact ite_p (Or.inl c26) | exact ite_p (Or.inr (Or.inl c32)) | exact ite_p (Or.inr (Or.inr (Or.inl c38))) | exact ite_p (Or.inr (Or.inr (Or.inr (Or.inl c45)))) | exact ite_p (Or.inr (Or.inr (Or.inr (Or.inr (Or.inl c52))))) | exact ite_p (Or.inr (Or.inr (Or.inr (Or.inr (Or.inr (Or.inl c59)))))) | exact ite_p (Or.inr (Or.inr (Or.inr (Or.inr (Or.inr (Or.inr c66)))))) | exact ite_n (fun z => by rcases z with z | z | z | z | z | z | z <;> contradiction)) (lv_sub hl [0, 1, 2, 3, 4, 5] rfl)
    · skip
      refine lv_iconst (v := (-1)) hx hb dX5_frame_21 (by decide) ?_
      exact ret _ (Y, fr) _ _ _ _ dX5_frame_22 hP hD hS (Or.inl ⟨(by first | exact fun z => c10 z.1 | exact fun z => c18 z.2), rfl, rfl⟩)
set_option maxHeartbeats 4000000 in
set_option maxRecDepth 100000 in
theorem c_X5_place {l : Launch} {D : va_G} {cI cZ cL : ClassId} {h : Nat → Nat} {sl mi n : Nat} {Y : Nat → Nat → Int32} {th fr wt cy : Nat} (hs1 : 1 ≤ sl) (hsl : sl ≤ 60) (hs : fr ≤ 100) (hE : ∀ i, i < fr → isEv (Y 20 i)) (q cv : Int32) : KI l yX5_place (.code yX5_place cX5_place 7 (some .int)) 1 D (tyz cI cZ cL) [.ref (h 0), .int q, .int cv] (mw h cI cZ sl mi n Y th fr wt cy) (fun r u => (¬ (inR q 0 (sl - 1) ∧ inR cv 0 63) ∧ u = 1) ∨ ((inR q 0 (sl - 1) ∧ inR cv 0 63) ∧ u = 0 ∧ ∃ o1 o2 : Int32, ((o1 = 0 ∧ ∀ k, k < fr → ¬ ((Y 17 k = q ∧ rmd cv (Y 20 k) = Y 19 k) ∧ Y 18 k &&& 1 ≠ 0)) ∨ ∃ k, k < fr ∧ ((Y 17 k = q ∧ rmd cv (Y 20 k) = Y 19 k) ∧ Y 18 k &&& 1 ≠ 0) ∧ o1 = Y 16 k) ∧ ((o2 = 0 ∧ ∀ k, k < fr → ¬ ((Y 17 k = q ∧ rmd cv (Y 20 k) = Y 19 k) ∧ Y 18 k &&& 2 ≠ 0)) ∨ ∃ k, k < fr ∧ ((Y 17 k = q ∧ rmd cv (Y 20 k) = Y 19 k) ∧ Y 18 k &&& 2 ≠ 0) ∧ o2 = Y 16 k) ∧ r = if 0 < o1 then o1 else o2)) (fun u : Nat => mw h cI cZ sl mi n Y u fr wt cy) := by
  refine KI.of (own := RX5) (lvs := [(0, .ref (h 0)), (1, .int q), (2, .int cv)]) (by decide) rfl (Nat.le_of_ble_eq_true rfl) rfl ?_
  intro p e s m args below meth c Q C hK hN A hA hP hD hS ret ls hl
  obtain ⟨hx, hb, hml, hown, hts, hr9, hlk9⟩ := id C
  refine lv_aload_n hx hb dX5_place_0 rfl (lv_at hl 0 rfl) ?_
  have L24 : ∀ (t : Nat) (ls : Array Slot), (t = if (inR q 0 (sl - 1) ∧ inR cv 0 63) then 0 else 1) → (lv_has ls 7 [(0, .ref (h 0)), (1, .int q), (2, .int cv)]) → W p l e (rmK 1) s m args below meth c s.heap [] 0 0 Q (F0 m 24 ls [.int (nI t), .ref (h 0)]) := by
    intro t ls ht hl
    have ht1 : t ≤ 1 := by rw [ht]; split <;> omega
    refine k_put (D := D) (ci := 7) (v := .int (nI t)) (ty := .int) (C := RX5) (T := TX5) (N := 27) (ws' := mw h cI cZ sl mi n Y t fr wt cy) hx hb hts inX5 tyX5 tyX5_ok nmX5 hown hK hP hD hS 0 rfl rfl 0 (by decide) (hts _ wF_X5_81) (fun _ h9 => h9) rfl (by decide +kernel) rfl rfl (Nat.le_of_ble_eq_true rfl) rfl dX5_place_24 (fun H locs hP hD hS => ?_)
    refine lv_iconst (v := 0) hx hb dX5_place_27 (by decide) ?_
    refine lv_istore_n (lv' := [(3, .int 0), (0, .ref (h 0)), (1, .int q), (2, .int cv)]) hx hb dX5_place_28 rfl hl (by decide) rfl (fun ls hl => ?_)
    refine lv_iconst (v := 0) hx hb dX5_place_29 (by decide) ?_
    refine lv_istore (lv' := [(4, .int 0), (3, .int 0), (0, .ref (h 0)), (1, .int q), (2, .int cv)]) hx hb dX5_place_30 hl (by decide) rfl (fun ls hl => ?_)
    refine lv_iconst (v := 0) hx hb dX5_place_32 (by decide) ?_
    refine lv_istore (lv' := [(5, .int 0), (4, .int 0), (3, .int 0), (0, .ref (h 0)), (1, .int q), (2, .int cv)]) hx hb dX5_place_33 hl (by decide) rfl (fun ls hl => ?_)
    have L35 : ∀ (kf : Nat) (i : Nat) (o1 : Int32) (o2 : Int32) (ls : Array Slot), (fr - i < kf) → (i ≤ fr) → (((o1 = 0 ∧ ∀ k, k < i → ¬ ((Y 17 k = q ∧ rmd cv (Y 20 k) = Y 19 k) ∧ Y 18 k &&& 1 ≠ 0)) ∨ ∃ k, k < i ∧ ((Y 17 k = q ∧ rmd cv (Y 20 k) = Y 19 k) ∧ Y 18 k &&& 1 ≠ 0) ∧ o1 = Y 16 k)) → (((o2 = 0 ∧ ∀ k, k < i → ¬ ((Y 17 k = q ∧ rmd cv (Y 20 k) = Y 19 k) ∧ Y 18 k &&& 2 ≠ 0)) ∨ ∃ k, k < i ∧ ((Y 17 k = q ∧ rmd cv (Y 20 k) = Y 19 k) ∧ Y 18 k &&& 2 ≠ 0) ∧ o2 = Y 16 k)) → (lv_has ls 7 [(0, .ref (h 0)), (1, .int q), (2, .int cv), (3, .int o1), (4, .int o2), (5, .int (nI i))]) → W p l e (rmK 1) s m args below meth c H locs 0 0 Q (F0 m 35 ls []) := by
      intro kf
      induction kf with
      | zero =>
        intro i o1 o2 ls hm
        exact absurd hm (Nat.not_lt_zero _)
      | succ kf ih35 =>
        intro i o1 o2 ls hm h2 h3 h4 hl
        refine lv_iload hx hb dX5_place_35 (lv_at hl 5 rfl) ?_
        refine lv_aload_n hx hb dX5_place_37 rfl (lv_at hl 0 rfl) ?_
        refine va_get (D := D) (ci := 7) (v := .int (nI fr)) (C := RX5) (T := TX5) (N := 27) hx hb hts inX5 hown hK hP 0 rfl rfl 15 (by decide) (hts _ wF_X5_91) (fun _ h9 => h9) rfl dX5_place_38 ?_
        refine k_icmp_ge (tgt := 154) hx hb i fr rfl rfl (by omega) (by omega) dX5_place_41 (by decide) (fun c41 => ?_) (fun c41 => ?_)
        · skip
          refine lv_iload_n hx hb dX5_place_154 rfl (lv_at hl 3 rfl) ?_
          refine lv_if_le (tgt := 162) hx hb dX5_place_155 (by decide) (fun c155 => ?_) (fun c155 => ?_)
          · skip
            refine lv_iload hx hb dX5_place_162 (lv_at hl 4 rfl) ?_
            exact ret _ t _ _ _ _ dX5_place_164 hP hD hS (pl_ret (f1 := fun k => ((Y 17 k = q ∧ rmd cv (Y 20 k) = Y 19 k) ∧ Y 18 k &&& 1 ≠ 0)) (f2 := fun k => ((Y 17 k = q ∧ rmd cv (Y 20 k) = Y 19 k) ∧ Y 18 k &&& 2 ≠ 0)) ht (by first | exact Or.inr c48 | exact Or.inl (by omega)) h2 h3 h4 (by first | exact (if_neg (i32_nle c155)).symm | exact (if_pos (Int32.not_le.mp c155)).symm))
          · skip
            refine lv_iload_n hx hb dX5_place_158 rfl (lv_at hl 3 rfl) ?_
            refine lv_goto (tgt := 164) hx hb dX5_place_159 (by decide) ?_
            exact ret _ t _ _ _ _ dX5_place_164 hP hD hS (pl_ret (f1 := fun k => ((Y 17 k = q ∧ rmd cv (Y 20 k) = Y 19 k) ∧ Y 18 k &&& 1 ≠ 0)) (f2 := fun k => ((Y 17 k = q ∧ rmd cv (Y 20 k) = Y 19 k) ∧ Y 18 k &&& 2 ≠ 0)) ht (by first | exact Or.inr c48 | exact Or.inl (by omega)) h2 h3 h4 (by first | exact (if_neg (i32_nle c155)).symm | exact (if_pos (Int32.not_le.mp c155)).symm))
        · skip
          refine lv_aload_n hx hb dX5_place_44 rfl (lv_at hl 0 rfl) ?_
          refine va_get (D := D) (ci := 7) (v := .int (nI t)) (C := RX5) (T := TX5) (N := 27) hx hb hts inX5 hown hK hP 0 rfl rfl 0 (by decide) (hts _ wF_X5_81) (fun _ h9 => h9) rfl dX5_place_45 ?_
          refine k_if_ne (tgt := 154) hx hb t rfl (by omega) dX5_place_48 (by decide) (fun c48 => ?_) (fun c48 => ?_)
          · skip
            refine lv_iload_n hx hb dX5_place_154 rfl (lv_at hl 3 rfl) ?_
            refine lv_if_le (tgt := 162) hx hb dX5_place_155 (by decide) (fun c155 => ?_) (fun c155 => ?_)
            · skip
              refine lv_iload hx hb dX5_place_162 (lv_at hl 4 rfl) ?_
              exact ret _ t _ _ _ _ dX5_place_164 hP hD hS (pl_ret (f1 := fun k => ((Y 17 k = q ∧ rmd cv (Y 20 k) = Y 19 k) ∧ Y 18 k &&& 1 ≠ 0)) (f2 := fun k => ((Y 17 k = q ∧ rmd cv (Y 20 k) = Y 19 k) ∧ Y 18 k &&& 2 ≠ 0)) ht (by first | exact Or.inr c48 | exact Or.inl (by omega)) h2 h3 h4 (by first | exact (if_neg (i32_nle c155)).symm | exact (if_pos (Int32.not_le.mp c155)).symm))
            · skip
              refine lv_iload_n hx hb dX5_place_158 rfl (lv_at hl 3 rfl) ?_
              refine lv_goto (tgt := 164) hx hb dX5_place_159 (by decide) ?_
              exact ret _ t _ _ _ _ dX5_place_164 hP hD hS (pl_ret (f1 := fun k => ((Y 17 k = q ∧ rmd cv (Y 20 k) = Y 19 k) ∧ Y 18 k &&& 1 ≠ 0)) (f2 := fun k => ((Y 17 k = q ∧ rmd cv (Y 20 k) = Y 19 k) ∧ Y 18 k &&& 2 ≠ 0)) ht (by first | exact Or.inr c48 | exact Or.inl (by omega)) h2 h3 h4 (by first | exact (if_neg (i32_nle c155)).symm | exact (if_pos (Int32.not_le.mp c155)).symm))
          · skip
            have L86 : ∀ (hr : Int32) (ls : Array Slot), (hr = if (Y 17 i = q ∧ rmd cv (Y 20 i) = Y 19 i) then 1 else 0) → (lv_has ls 7 [(0, .ref (h 0)), (1, .int q), (2, .int cv), (3, .int o1), (4, .int o2), (5, .int (nI i))]) → W p l e (rmK 1) s m args below meth c H locs 0 0 Q (F0 m 86 ls [.int hr]) := by
              intro hr ls hh hl
              subst hh
              refine lv_istore (lv' := [(6, .int (if Y 17 i = q ∧ rmd cv (Y 20 i) = Y 19 i then 1 else 0)), (0, .ref (h 0)), (1, .int q), (2, .int cv), (3, .int o1), (4, .int o2), (5, .int (nI i))]) hx hb dX5_place_86 hl (by decide) rfl (fun ls hl => ?_)
              refine lv_iload hx hb dX5_place_88 (lv_at hl 0 rfl) ?_
              refine k_ifeq_P (P := (Y 17 i = q ∧ rmd cv (Y 20 i) = Y 19 i)) (tgt := 115) hx hb rfl dX5_place_90 (by decide) (fun c90 => ?_) (fun c90 => ?_)
              · skip
                have i1 : ¬ ((Y 17 i = q ∧ rmd cv (Y 20 i) = Y 19 i) ∧ Y 18 i &&& 1 ≠ 0) := fun z => c90 z.1
                refine lv_iload_n hx hb dX5_place_115 rfl (lv_at hl 4 rfl) ?_
                refine lv_istore_n (lv' := [(3, .int o1), (6, .int (if Y 17 i = q ∧ rmd cv (Y 20 i) = Y 19 i then 1 else 0)), (0, .ref (h 0)), (1, .int q), (2, .int cv), (4, .int o2), (5, .int (nI i))]) hx hb dX5_place_116 rfl hl (by decide) rfl (fun ls hl => ?_)
                refine lv_iload hx hb dX5_place_117 (lv_at hl 1 rfl) ?_
                refine k_ifeq_P (P := (Y 17 i = q ∧ rmd cv (Y 20 i) = Y 19 i)) (tgt := 144) hx hb rfl dX5_place_119 (by decide) (fun c119 => ?_) (fun c119 => ?_)
                · skip
                  have i2 : ¬ ((Y 17 i = q ∧ rmd cv (Y 20 i) = Y 19 i) ∧ Y 18 i &&& 2 ≠ 0) := fun z => c119 z.1
                  refine lv_iload hx hb dX5_place_144 (lv_at hl 5 rfl) ?_
                  refine lv_istore (lv' := [(4, .int o2), (3, .int o1), (6, .int (if Y 17 i = q ∧ rmd cv (Y 20 i) = Y 19 i then 1 else 0)), (0, .ref (h 0)), (1, .int q), (2, .int cv), (5, .int (nI i))]) hx hb dX5_place_146 hl (by decide) rfl (fun ls hl => ?_)
                  refine k_iinc (k := 6) (lv' := [(5, .int (nI (i + 1))), (4, .int o2), (3, .int o1), (6, .int (if Y 17 i = q ∧ rmd cv (Y 20 i) = Y 19 i then 1 else 0)), (0, .ref (h 0)), (1, .int q), (2, .int cv)]) hx hb i rfl dX5_place_148 hl rfl (by decide) rfl (fun ls hl => ?_)
                  refine lv_goto (tgt := 35) hx hb dX5_place_151 (by decide) ?_
                  exact ih35 (i + 1) o1 o2 _ (by omega) (by omega) (by first | exact pl_set i1 | exact pl_keep h3 i1) (by first | exact pl_set i2 | exact pl_keep h4 i2) (lv_sub hl [4, 5, 6, 2, 1, 0] rfl)
                · skip
                  refine lv_aload_n hx hb dX5_place_122 rfl (lv_at hl 2 rfl) ?_
                  refine va_get (D := D) (ci := 7) (v := .ref (h 18)) (C := RX5) (T := TX5) (N := 27) hx hb hts inX5 hown hK hP 0 rfl rfl 18 (by decide) (hts _ wF_X5_50) (fun _ h9 => h9) rfl dX5_place_123 ?_
                  refine lv_iload hx hb dX5_place_126 (lv_at hl 6 rfl) ?_
                  refine k_iald (D := D) (f := Y 18) hx hb hK hP 14 0 rfl rfl i rfl (by omega) (by omega) dX5_place_128 ?_
                  refine lv_iconst (v := 2) hx hb dX5_place_129 (by decide) ?_
                  refine lv_iand hx hb dX5_place_130 ?_
                  refine lv_if_eq (tgt := 144) hx hb dX5_place_131 (by decide) (fun c131 => ?_) (fun c131 => ?_)
                  · skip
                    have i2 : ¬ ((Y 17 i = q ∧ rmd cv (Y 20 i) = Y 19 i) ∧ Y 18 i &&& 2 ≠ 0) := fun z => z.2 c131
                    refine lv_iload hx hb dX5_place_144 (lv_at hl 5 rfl) ?_
                    refine lv_istore (lv' := [(4, .int o2), (3, .int o1), (6, .int (if Y 17 i = q ∧ rmd cv (Y 20 i) = Y 19 i then 1 else 0)), (0, .ref (h 0)), (1, .int q), (2, .int cv), (5, .int (nI i))]) hx hb dX5_place_146 hl (by decide) rfl (fun ls hl => ?_)
                    refine k_iinc (k := 6) (lv' := [(5, .int (nI (i + 1))), (4, .int o2), (3, .int o1), (6, .int (if Y 17 i = q ∧ rmd cv (Y 20 i) = Y 19 i then 1 else 0)), (0, .ref (h 0)), (1, .int q), (2, .int cv)]) hx hb i rfl dX5_place_148 hl rfl (by decide) rfl (fun ls hl => ?_)
                    refine lv_goto (tgt := 35) hx hb dX5_place_151 (by decide) ?_
                    exact ih35 (i + 1) o1 o2 _ (by omega) (by omega) (by first | exact pl_set i1 | exact pl_keep h3 i1) (by first | exact pl_set i2 | exact pl_keep h4 i2) (lv_sub hl [4, 5, 6, 2, 1, 0] rfl)
                  · skip
                    have i2 : ((Y 17 i = q ∧ rmd cv (Y 20 i) = Y 19 i) ∧ Y 18 i &&& 2 ≠ 0) := ⟨c119, c131⟩
                    refine lv_aload_n hx hb dX5_place_134 rfl (lv_at hl 2 rfl) ?_
                    refine va_get (D := D) (ci := 7) (v := .ref (h 16)) (C := RX5) (T := TX5) (N := 27) hx hb hts inX5 hown hK hP 0 rfl rfl 16 (by decide) (hts _ wF_X5_44) (fun _ h9 => h9) rfl dX5_place_135 ?_
                    refine lv_iload hx hb dX5_place_138 (lv_at hl 6 rfl) ?_
                    refine k_iald (D := D) (f := Y 16) hx hb hK hP 12 0 rfl rfl i rfl (by omega) (by omega) dX5_place_140 ?_
                    refine lv_goto (tgt := 146) hx hb dX5_place_141 (by decide) ?_
                    refine lv_istore (lv' := [(4, .int (Y 16 i)), (3, .int o1), (6, .int (if Y 17 i = q ∧ rmd cv (Y 20 i) = Y 19 i then 1 else 0)), (0, .ref (h 0)), (1, .int q), (2, .int cv), (5, .int (nI i))]) hx hb dX5_place_146 hl (by decide) rfl (fun ls hl => ?_)
                    refine k_iinc (k := 6) (lv' := [(5, .int (nI (i + 1))), (4, .int (Y 16 i)), (3, .int o1), (6, .int (if Y 17 i = q ∧ rmd cv (Y 20 i) = Y 19 i then 1 else 0)), (0, .ref (h 0)), (1, .int q), (2, .int cv)]) hx hb i rfl dX5_place_148 hl rfl (by decide) rfl (fun ls hl => ?_)
                    refine lv_goto (tgt := 35) hx hb dX5_place_151 (by decide) ?_
                    exact ih35 (i + 1) o1 (Y 16 i) _ (by omega) (by omega) (by first | exact pl_set i1 | exact pl_keep h3 i1) (by first | exact pl_set i2 | exact pl_keep h4 i2) (lv_sub hl [4, 5, 6, 2, 1, 0] rfl)
              · skip
                refine lv_aload_n hx hb dX5_place_93 rfl (lv_at hl 1 rfl) ?_
                refine va_get (D := D) (ci := 7) (v := .ref (h 18)) (C := RX5) (T := TX5) (N := 27) hx hb hts inX5 hown hK hP 0 rfl rfl 18 (by decide) (hts _ wF_X5_50) (fun _ h9 => h9) rfl dX5_place_94 ?_
                refine lv_iload hx hb dX5_place_97 (lv_at hl 6 rfl) ?_
                refine k_iald (D := D) (f := Y 18) hx hb hK hP 14 0 rfl rfl i rfl (by omega) (by omega) dX5_place_99 ?_
                refine lv_iconst (v := 1) hx hb dX5_place_100 (by decide) ?_
                refine lv_iand hx hb dX5_place_101 ?_
                refine lv_if_eq (tgt := 115) hx hb dX5_place_102 (by decide) (fun c102 => ?_) (fun c102 => ?_)
                · skip
                  have i1 : ¬ ((Y 17 i = q ∧ rmd cv (Y 20 i) = Y 19 i) ∧ Y 18 i &&& 1 ≠ 0) := fun z => z.2 c102
                  refine lv_iload_n hx hb dX5_place_115 rfl (lv_at hl 4 rfl) ?_
                  refine lv_istore_n (lv' := [(3, .int o1), (6, .int (if Y 17 i = q ∧ rmd cv (Y 20 i) = Y 19 i then 1 else 0)), (0, .ref (h 0)), (1, .int q), (2, .int cv), (4, .int o2), (5, .int (nI i))]) hx hb dX5_place_116 rfl hl (by decide) rfl (fun ls hl => ?_)
                  refine lv_iload hx hb dX5_place_117 (lv_at hl 1 rfl) ?_
                  refine k_ifeq_P (P := (Y 17 i = q ∧ rmd cv (Y 20 i) = Y 19 i)) (tgt := 144) hx hb rfl dX5_place_119 (by decide) (fun c119 => ?_) (fun c119 => ?_)
                  · skip
                    have i2 : ¬ ((Y 17 i = q ∧ rmd cv (Y 20 i) = Y 19 i) ∧ Y 18 i &&& 2 ≠ 0) := fun z => c119 z.1
                    refine lv_iload hx hb dX5_place_144 (lv_at hl 5 rfl) ?_
                    refine lv_istore (lv' := [(4, .int o2), (3, .int o1), (6, .int (if Y 17 i = q ∧ rmd cv (Y 20 i) = Y 19 i then 1 else 0)), (0, .ref (h 0)), (1, .int q), (2, .int cv), (5, .int (nI i))]) hx hb dX5_place_146 hl (by decide) rfl (fun ls hl => ?_)
                    refine k_iinc (k := 6) (lv' := [(5, .int (nI (i + 1))), (4, .int o2), (3, .int o1), (6, .int (if Y 17 i = q ∧ rmd cv (Y 20 i) = Y 19 i then 1 else 0)), (0, .ref (h 0)), (1, .int q), (2, .int cv)]) hx hb i rfl dX5_place_148 hl rfl (by decide) rfl (fun ls hl => ?_)
                    refine lv_goto (tgt := 35) hx hb dX5_place_151 (by decide) ?_
                    exact ih35 (i + 1) o1 o2 _ (by omega) (by omega) (by first | exact pl_set i1 | exact pl_keep h3 i1) (by first | exact pl_set i2 | exact pl_keep h4 i2) (lv_sub hl [4, 5, 6, 2, 1, 0] rfl)
                  · skip
                    refine lv_aload_n hx hb dX5_place_122 rfl (lv_at hl 2 rfl) ?_
                    refine va_get (D := D) (ci := 7) (v := .ref (h 18)) (C := RX5) (T := TX5) (N := 27) hx hb hts inX5 hown hK hP 0 rfl rfl 18 (by decide) (hts _ wF_X5_50) (fun _ h9 => h9) rfl dX5_place_123 ?_
                    refine lv_iload hx hb dX5_place_126 (lv_at hl 6 rfl) ?_
                    refine k_iald (D := D) (f := Y 18) hx hb hK hP 14 0 rfl rfl i rfl (by omega) (by omega) dX5_place_128 ?_
                    refine lv_iconst (v := 2) hx hb dX5_place_129 (by decide) ?_
                    refine lv_iand hx hb dX5_place_130 ?_
                    refine lv_if_eq (tgt := 144) hx hb dX5_place_131 (by decide) (fun c131 => ?_) (fun c131 => ?_)
                    · skip
                      have i2 : ¬ ((Y 17 i = q ∧ rmd cv (Y 20 i) = Y 19 i) ∧ Y 18 i &&& 2 ≠ 0) := fun z => z.2 c131
                      refine lv_iload hx hb dX5_place_144 (lv_at hl 5 rfl) ?_
                      refine lv_istore (lv' := [(4, .int o2), (3, .int o1), (6, .int (if Y 17 i = q ∧ rmd cv (Y 20 i) = Y 19 i then 1 else 0)), (0, .ref (h 0)), (1, .int q), (2, .int cv), (5, .int (nI i))]) hx hb dX5_place_146 hl (by decide) rfl (fun ls hl => ?_)
                      refine k_iinc (k := 6) (lv' := [(5, .int (nI (i + 1))), (4, .int o2), (3, .int o1), (6, .int (if Y 17 i = q ∧ rmd cv (Y 20 i) = Y 19 i then 1 else 0)), (0, .ref (h 0)), (1, .int q), (2, .int cv)]) hx hb i rfl dX5_place_148 hl rfl (by decide) rfl (fun ls hl => ?_)
                      refine lv_goto (tgt := 35) hx hb dX5_place_151 (by decide) ?_
                      exact ih35 (i + 1) o1 o2 _ (by omega) (by omega) (by first | exact pl_set i1 | exact pl_keep h3 i1) (by first | exact pl_set i2 | exact pl_keep h4 i2) (lv_sub hl [4, 5, 6, 2, 1, 0] rfl)
                    · skip
                      have i2 : ((Y 17 i = q ∧ rmd cv (Y 20 i) = Y 19 i) ∧ Y 18 i &&& 2 ≠ 0) := ⟨c119, c131⟩
                      refine lv_aload_n hx hb dX5_place_134 rfl (lv_at hl 2 rfl) ?_
                      refine va_get (D := D) (ci := 7) (v := .ref (h 16)) (C := RX5) (T := TX5) (N := 27) hx hb hts inX5 hown hK hP 0 rfl rfl 16 (by decide) (hts _ wF_X5_44) (fun _ h9 => h9) rfl dX5_place_135 ?_
                      refine lv_iload hx hb dX5_place_138 (lv_at hl 6 rfl) ?_
                      refine k_iald (D := D) (f := Y 16) hx hb hK hP 12 0 rfl rfl i rfl (by omega) (by omega) dX5_place_140 ?_
                      refine lv_goto (tgt := 146) hx hb dX5_place_141 (by decide) ?_
                      refine lv_istore (lv' := [(4, .int (Y 16 i)), (3, .int o1), (6, .int (if Y 17 i = q ∧ rmd cv (Y 20 i) = Y 19 i then 1 else 0)), (0, .ref (h 0)), (1, .int q), (2, .int cv), (5, .int (nI i))]) hx hb dX5_place_146 hl (by decide) rfl (fun ls hl => ?_)
                      refine k_iinc (k := 6) (lv' := [(5, .int (nI (i + 1))), (4, .int (Y 16 i)), (3, .int o1), (6, .int (if Y 17 i = q ∧ rmd cv (Y 20 i) = Y 19 i then 1 else 0)), (0, .ref (h 0)), (1, .int q), (2, .int cv)]) hx hb i rfl dX5_place_148 hl rfl (by decide) rfl (fun ls hl => ?_)
                      refine lv_goto (tgt := 35) hx hb dX5_place_151 (by decide) ?_
                      exact ih35 (i + 1) o1 (Y 16 i) _ (by omega) (by omega) (by first | exact pl_set i1 | exact pl_keep h3 i1) (by first | exact pl_set i2 | exact pl_keep h4 i2) (lv_sub hl [4, 5, 6, 2, 1, 0] rfl)
                · skip
                  have i1 : ((Y 17 i = q ∧ rmd cv (Y 20 i) = Y 19 i) ∧ Y 18 i &&& 1 ≠ 0) := ⟨c90, c102⟩
                  refine lv_aload_n hx hb dX5_place_105 rfl (lv_at hl 1 rfl) ?_
                  refine va_get (D := D) (ci := 7) (v := .ref (h 16)) (C := RX5) (T := TX5) (N := 27) hx hb hts inX5 hown hK hP 0 rfl rfl 16 (by decide) (hts _ wF_X5_44) (fun _ h9 => h9) rfl dX5_place_106 ?_
                  refine lv_iload hx hb dX5_place_109 (lv_at hl 6 rfl) ?_
                  refine k_iald (D := D) (f := Y 16) hx hb hK hP 12 0 rfl rfl i rfl (by omega) (by omega) dX5_place_111 ?_
                  refine lv_goto (tgt := 116) hx hb dX5_place_112 (by decide) ?_
                  refine lv_istore_n (lv' := [(3, .int (Y 16 i)), (6, .int (if Y 17 i = q ∧ rmd cv (Y 20 i) = Y 19 i then 1 else 0)), (0, .ref (h 0)), (1, .int q), (2, .int cv), (4, .int o2), (5, .int (nI i))]) hx hb dX5_place_116 rfl hl (by decide) rfl (fun ls hl => ?_)
                  refine lv_iload hx hb dX5_place_117 (lv_at hl 1 rfl) ?_
                  refine k_ifeq_P (P := (Y 17 i = q ∧ rmd cv (Y 20 i) = Y 19 i)) (tgt := 144) hx hb rfl dX5_place_119 (by decide) (fun c119 => ?_) (fun c119 => ?_)
                  · skip
                    have i2 : ¬ ((Y 17 i = q ∧ rmd cv (Y 20 i) = Y 19 i) ∧ Y 18 i &&& 2 ≠ 0) := fun z => c119 z.1
                    refine lv_iload hx hb dX5_place_144 (lv_at hl 5 rfl) ?_
                    refine lv_istore (lv' := [(4, .int o2), (3, .int (Y 16 i)), (6, .int (if Y 17 i = q ∧ rmd cv (Y 20 i) = Y 19 i then 1 else 0)), (0, .ref (h 0)), (1, .int q), (2, .int cv), (5, .int (nI i))]) hx hb dX5_place_146 hl (by decide) rfl (fun ls hl => ?_)
                    refine k_iinc (k := 6) (lv' := [(5, .int (nI (i + 1))), (4, .int o2), (3, .int (Y 16 i)), (6, .int (if Y 17 i = q ∧ rmd cv (Y 20 i) = Y 19 i then 1 else 0)), (0, .ref (h 0)), (1, .int q), (2, .int cv)]) hx hb i rfl dX5_place_148 hl rfl (by decide) rfl (fun ls hl => ?_)
                    refine lv_goto (tgt := 35) hx hb dX5_place_151 (by decide) ?_
                    exact ih35 (i + 1) (Y 16 i) o2 _ (by omega) (by omega) (by first | exact pl_set i1 | exact pl_keep h3 i1) (by first | exact pl_set i2 | exact pl_keep h4 i2) (lv_sub hl [4, 5, 6, 2, 1, 0] rfl)
                  · skip
                    refine lv_aload_n hx hb dX5_place_122 rfl (lv_at hl 2 rfl) ?_
                    refine va_get (D := D) (ci := 7) (v := .ref (h 18)) (C := RX5) (T := TX5) (N := 27) hx hb hts inX5 hown hK hP 0 rfl rfl 18 (by decide) (hts _ wF_X5_50) (fun _ h9 => h9) rfl dX5_place_123 ?_
                    refine lv_iload hx hb dX5_place_126 (lv_at hl 6 rfl) ?_
                    refine k_iald (D := D) (f := Y 18) hx hb hK hP 14 0 rfl rfl i rfl (by omega) (by omega) dX5_place_128 ?_
                    refine lv_iconst (v := 2) hx hb dX5_place_129 (by decide) ?_
                    refine lv_iand hx hb dX5_place_130 ?_
                    refine lv_if_eq (tgt := 144) hx hb dX5_place_131 (by decide) (fun c131 => ?_) (fun c131 => ?_)
                    · skip
                      have i2 : ¬ ((Y 17 i = q ∧ rmd cv (Y 20 i) = Y 19 i) ∧ Y 18 i &&& 2 ≠ 0) := fun z => z.2 c131
                      refine lv_iload hx hb dX5_place_144 (lv_at hl 5 rfl) ?_
                      refine lv_istore (lv' := [(4, .int o2), (3, .int (Y 16 i)), (6, .int (if Y 17 i = q ∧ rmd cv (Y 20 i) = Y 19 i then 1 else 0)), (0, .ref (h 0)), (1, .int q), (2, .int cv), (5, .int (nI i))]) hx hb dX5_place_146 hl (by decide) rfl (fun ls hl => ?_)
                      refine k_iinc (k := 6) (lv' := [(5, .int (nI (i + 1))), (4, .int o2), (3, .int (Y 16 i)), (6, .int (if Y 17 i = q ∧ rmd cv (Y 20 i) = Y 19 i then 1 else 0)), (0, .ref (h 0)), (1, .int q), (2, .int cv)]) hx hb i rfl dX5_place_148 hl rfl (by decide) rfl (fun ls hl => ?_)
                      refine lv_goto (tgt := 35) hx hb dX5_place_151 (by decide) ?_
                      exact ih35 (i + 1) (Y 16 i) o2 _ (by omega) (by omega) (by first | exact pl_set i1 | exact pl_keep h3 i1) (by first | exact pl_set i2 | exact pl_keep h4 i2) (lv_sub hl [4, 5, 6, 2, 1, 0] rfl)
                    · skip
                      have i2 : ((Y 17 i = q ∧ rmd cv (Y 20 i) = Y 19 i) ∧ Y 18 i &&& 2 ≠ 0) := ⟨c119, c131⟩
                      refine lv_aload_n hx hb dX5_place_134 rfl (lv_at hl 2 rfl) ?_
                      refine va_get (D := D) (ci := 7) (v := .ref (h 16)) (C := RX5) (T := TX5) (N := 27) hx hb hts inX5 hown hK hP 0 rfl rfl 16 (by decide) (hts _ wF_X5_44) (fun _ h9 => h9) rfl dX5_place_135 ?_
                      refine lv_iload hx hb dX5_place_138 (lv_at hl 6 rfl) ?_
                      refine k_iald (D := D) (f := Y 16) hx hb hK hP 12 0 rfl rfl i rfl (by omega) (by omega) dX5_place_140 ?_
                      refine lv_goto (tgt := 146) hx hb dX5_place_141 (by decide) ?_
                      refine lv_istore (lv' := [(4, .int (Y 16 i)), (3, .int (Y 16 i)), (6, .int (if Y 17 i = q ∧ rmd cv (Y 20 i) = Y 19 i then 1 else 0)), (0, .ref (h 0)), (1, .int q), (2, .int cv), (5, .int (nI i))]) hx hb dX5_place_146 hl (by decide) rfl (fun ls hl => ?_)
                      refine k_iinc (k := 6) (lv' := [(5, .int (nI (i + 1))), (4, .int (Y 16 i)), (3, .int (Y 16 i)), (6, .int (if Y 17 i = q ∧ rmd cv (Y 20 i) = Y 19 i then 1 else 0)), (0, .ref (h 0)), (1, .int q), (2, .int cv)]) hx hb i rfl dX5_place_148 hl rfl (by decide) rfl (fun ls hl => ?_)
                      refine lv_goto (tgt := 35) hx hb dX5_place_151 (by decide) ?_
                      exact ih35 (i + 1) (Y 16 i) (Y 16 i) _ (by omega) (by omega) (by first | exact pl_set i1 | exact pl_keep h3 i1) (by first | exact pl_set i2 | exact pl_keep h4 i2) (lv_sub hl [4, 5, 6, 2, 1, 0] rfl)
            refine lv_aload_n hx hb dX5_place_51 rfl (lv_at hl 0 rfl) ?_
            refine va_get (D := D) (ci := 7) (v := .ref (h 17)) (C := RX5) (T := TX5) (N := 27) hx hb hts inX5 hown hK hP 0 rfl rfl 17 (by decide) (hts _ wF_X5_47) (fun _ h9 => h9) rfl dX5_place_52 ?_
            refine lv_iload hx hb dX5_place_55 (lv_at hl 5 rfl) ?_
            refine k_iald (D := D) (f := Y 17) hx hb hK hP 13 0 rfl rfl i rfl (by omega) (by omega) dX5_place_57 ?_
            refine lv_iload_n hx hb dX5_place_58 rfl (lv_at hl 1 rfl) ?_
            refine lv_icmp_ne (tgt := 85) hx hb dX5_place_59 (by decide) (fun c59 => ?_) (fun c59 => ?_)
            · skip
              refine lv_iconst (v := 0) hx hb dX5_place_85 (by decide) ?_
              exact L86 0 _ (by first | exact ite_p ⟨c59, c78⟩ | exact ite_n (fun z => c59 z.1) | exact ite_n (fun z => c78 z.2)) (lv_sub hl [0, 1, 2, 3, 4, 5] rfl)
            · skip
              refine lv_iload_n hx hb dX5_place_62 rfl (lv_at hl 2 rfl) ?_
              refine lv_aload_n hx hb dX5_place_63 rfl (lv_at hl 0 rfl) ?_
              refine va_get (D := D) (ci := 7) (v := .ref (h 20)) (C := RX5) (T := TX5) (N := 27) hx hb hts inX5 hown hK hP 0 rfl rfl 20 (by decide) (hts _ wF_X5_56) (fun _ h9 => h9) rfl dX5_place_64 ?_
              refine lv_iload hx hb dX5_place_67 (lv_at hl 5 rfl) ?_
              refine k_iald (D := D) (f := Y 20) hx hb hK hP 16 0 rfl rfl i rfl (by omega) (by omega) dX5_place_69 ?_
              refine lv_irem hx hb dX5_place_70 (ev_ne (hE i c41)) ?_
              refine lv_aload_n hx hb dX5_place_71 rfl (lv_at hl 0 rfl) ?_
              refine va_get (D := D) (ci := 7) (v := .ref (h 19)) (C := RX5) (T := TX5) (N := 27) hx hb hts inX5 hown hK hP 0 rfl rfl 19 (by decide) (hts _ wF_X5_53) (fun _ h9 => h9) rfl dX5_place_72 ?_
              refine lv_iload hx hb dX5_place_75 (lv_at hl 5 rfl) ?_
              refine k_iald (D := D) (f := Y 19) hx hb hK hP 15 0 rfl rfl i rfl (by omega) (by omega) dX5_place_77 ?_
              refine lv_icmp_ne (tgt := 85) hx hb dX5_place_78 (by decide) (fun c78 => ?_) (fun c78 => ?_)
              · skip
                refine lv_iconst (v := 0) hx hb dX5_place_85 (by decide) ?_
                exact L86 0 _ (by first | exact ite_p ⟨c59, c78⟩ | exact ite_n (fun z => c59 z.1) | exact ite_n (fun z => c78 z.2)) (lv_sub hl [0, 1, 2, 3, 4, 5] rfl)
              · skip
                refine lv_iconst (v := 1) hx hb dX5_place_81 (by decide) ?_
                refine lv_goto (tgt := 86) hx hb dX5_place_82 (by decide) ?_
                exact L86 1 _ (by first | exact ite_p ⟨c59, c78⟩ | exact ite_n (fun z => c59 z.1) | exact ite_n (fun z => c78 z.2)) (lv_sub hl [0, 1, 2, 3, 4, 5] rfl)
    exact L35 ((fr - 0) + 1) 0 0 0 _ (Nat.lt_succ_self _) (Nat.zero_le _) (Or.inl ⟨rfl, fun k b => absurd b (by omega)⟩) (Or.inl ⟨rfl, fun k b => absurd b (by omega)⟩) (lv_sub hl [3, 4, 5, 2, 1, 0] rfl)
  refine lv_aload_n hx hb dX5_place_1 rfl (lv_at hl 0 rfl) ?_
  refine lv_iload_n hx hb dX5_place_2 rfl (lv_at hl 1 rfl) ?_
  refine k_callR (D := D) C hK hN hP hD (c_X5_isSlot hs1 hsl q) hl cf_yX5_isSlot wM_X5_88 0 7 rfl rfl rfl rfl (Nat.le_of_ble_eq_true rfl) ⟨by decide, by decide⟩ ⟨Nat.le_of_ble_eq_true rfl, Nat.le_of_ble_eq_true rfl⟩ dX5_place_3 (fun r3 hr3 => ?_)
  have hr3 : r3 = (if inR q 0 (sl - 1) then 1 else 0) := hr3
  subst hr3
  refine k_ifeq_P (P := (inR q 0 (sl - 1))) (tgt := 19) hx hb rfl dX5_place_6 (by decide) (fun c6 => ?_) (fun c6 => ?_)
  · skip
    refine lv_iconst (v := 1) hx hb dX5_place_19 (by decide) ?_
    refine lv_goto (tgt := 24) hx hb dX5_place_20 (by decide) ?_
    exact L24 1 _ (by first | exact (if_pos ⟨c6, (slot63 c10 c16)⟩).symm | exact (if_neg (fun z => c6 z.1)).symm | exact (if_neg (fun z => absurd z.2.1 (by have := Int32.lt_iff_toInt_lt.mp c10; simp at this; omega))).symm | exact (if_neg (fun z => c16 (Int32.le_iff_toInt_le.mpr z.2.2))).symm) (lv_sub hl [0, 1, 2] rfl)
  · skip
    refine lv_iload_n hx hb dX5_place_9 rfl (lv_at hl 2 rfl) ?_
    refine lv_if_lt (tgt := 19) hx hb dX5_place_10 (by decide) (fun c10 => ?_) (fun c10 => ?_)
    · skip
      refine lv_iconst (v := 1) hx hb dX5_place_19 (by decide) ?_
      refine lv_goto (tgt := 24) hx hb dX5_place_20 (by decide) ?_
      exact L24 1 _ (by first | exact (if_pos ⟨c6, (slot63 c10 c16)⟩).symm | exact (if_neg (fun z => c6 z.1)).symm | exact (if_neg (fun z => absurd z.2.1 (by have := Int32.lt_iff_toInt_lt.mp c10; simp at this; omega))).symm | exact (if_neg (fun z => c16 (Int32.le_iff_toInt_le.mpr z.2.2))).symm) (lv_sub hl [0, 1, 2] rfl)
    · skip
      refine lv_iload_n hx hb dX5_place_13 rfl (lv_at hl 2 rfl) ?_
      refine lv_bipush (v := 63) hx hb dX5_place_14 (by decide) ?_
      refine lv_icmp_le (tgt := 23) hx hb dX5_place_16 (by decide) (fun c16 => ?_) (fun c16 => ?_)
      · skip
        refine lv_iconst (v := 0) hx hb dX5_place_23 (by decide) ?_
        exact L24 0 _ (by first | exact (if_pos ⟨c6, (slot63 c10 c16)⟩).symm | exact (if_neg (fun z => c6 z.1)).symm | exact (if_neg (fun z => absurd z.2.1 (by have := Int32.lt_iff_toInt_lt.mp c10; simp at this; omega))).symm | exact (if_neg (fun z => c16 (Int32.le_iff_toInt_le.mpr z.2.2))).symm) (lv_sub hl [0, 1, 2] rfl)
      · skip
        refine lv_iconst (v := 1) hx hb dX5_place_19 (by decide) ?_
        refine lv_goto (tgt := 24) hx hb dX5_place_20 (by decide) ?_
        exact L24 1 _ (by first | exact (if_pos ⟨c6, (slot63 c10 c16)⟩).symm | exact (if_neg (fun z => c6 z.1)).symm | exact (if_neg (fun z => absurd z.2.1 (by have := Int32.lt_iff_toInt_lt.mp c10; simp at this; omega))).symm | exact (if_neg (fun z => c16 (Int32.le_iff_toInt_le.mpr z.2.2))).symm) (lv_sub hl [0, 1, 2] rfl)
set_option maxHeartbeats 4000000 in
set_option maxRecDepth 100000 in
theorem c_X5_close {l : Launch} {D : va_G} {cI cZ cL : ClassId} {h : Nat → Nat} {sl mi n : Nat} {Y : Nat → Nat → Int32} {th fr wt cy : Nat} (hn : n ≤ 16) (bd : Int32) : KI l yX5_close (.code yX5_close cX5_close 7 (some .boolean)) 0 D (tyz cI cZ cL) [.ref (h 0), .int bd] (mw h cI cZ sl mi n Y th fr wt cy) (fun r _ => (r = 1 ∧ ∀ a b, 1 ≤ a → a ≤ n → 1 ≤ b → b < a → (Y 4 a = 2 → Y 4 b = 2 → dsr (Y 6 a) (Y 6 b) ≤ bd)) ∨ (r = 0 ∧ ∃ a b, 1 ≤ a ∧ a ≤ n ∧ 1 ≤ b ∧ b < a ∧ Y 4 a = 2 ∧ Y 4 b = 2 ∧ ¬ dsr (Y 6 a) (Y 6 b) ≤ bd)) (fun _ : Unit => mw h cI cZ sl mi n Y 0 fr wt cy) := by
  refine KI.ofz (own := RX5) (lvs := [(0, .ref (h 0)), (1, .int bd)]) (by decide) rfl (Nat.le_of_ble_eq_true rfl) rfl ?_
  intro p e s m args below meth c Q C hK hN A hA hP hD hS ret ls hl
  obtain ⟨hx, hb, hml, hown, hts, hr9, hlk9⟩ := id C
  refine lv_aload_n hx hb dX5_close_0 rfl (lv_at hl 0 rfl) ?_
  refine lv_iconst (v := 0) hx hb dX5_close_1 (by decide) ?_
  refine k_put (D := D) (ci := 7) (v := .int (nI 0)) (ty := .int) (C := RX5) (T := TX5) (N := 27) (ws' := mw h cI cZ sl mi n Y 0 fr wt cy) hx hb hts inX5 tyX5 tyX5_ok nmX5 hown hK hP hD hS 0 rfl rfl 0 (by decide) (hts _ wF_X5_81) (fun _ h9 => h9) rfl (by decide +kernel) rfl rfl (Nat.le_of_ble_eq_true rfl) rfl dX5_close_2 (fun H locs hP hD hS => ?_)
  refine lv_iconst (v := 1) hx hb dX5_close_5 (by decide) ?_
  refine lv_istore_n (lv' := [(2, .int 1), (0, .ref (h 0)), (1, .int bd)]) hx hb dX5_close_6 rfl hl (by decide) rfl (fun ls hl => ?_)
  refine lv_iconst (v := 1) hx hb dX5_close_7 (by decide) ?_
  refine lv_istore_n (lv' := [(3, .int 1), (2, .int 1), (0, .ref (h 0)), (1, .int bd)]) hx hb dX5_close_8 rfl hl (by decide) rfl (fun ls hl => ?_)
  have L9 : ∀ (kf : Nat) (i : Nat) (ar : Int32) (ls : Array Slot), (n + 1 - i < kf) → (1 ≤ i) → (i ≤ n + 1) → ((ar = 1 ∧ ∀ a b, 1 ≤ a → a < i → 1 ≤ b → b < a → (Y 4 a = 2 → Y 4 b = 2 → dsr (Y 6 a) (Y 6 b) ≤ bd)) ∨ (ar = 0 ∧ ∃ a b, 1 ≤ a ∧ a < i ∧ 1 ≤ b ∧ b < a ∧ Y 4 a = 2 ∧ Y 4 b = 2 ∧ ¬ dsr (Y 6 a) (Y 6 b) ≤ bd)) → (lv_has ls 7 [(0, .ref (h 0)), (1, .int bd), (2, .int ar), (3, .int (nI i))]) → W p l e (rmK 0) s m args below meth c H locs 0 0 Q (F0 m 9 ls []) := by
    intro kf
    induction kf with
    | zero =>
      intro i ar ls hm
      exact absurd hm (Nat.not_lt_zero _)
    | succ kf ih9 =>
      intro i ar ls hm h1 h2 h3 hl
      refine lv_iload_n hx hb dX5_close_9 rfl (lv_at hl 3 rfl) ?_
      refine lv_aload_n hx hb dX5_close_10 rfl (lv_at hl 0 rfl) ?_
      refine va_get (D := D) (ci := 7) (v := .int (nI n)) (C := RX5) (T := TX5) (N := 27) hx hb hts inX5 hown hK hP 0 rfl rfl 1 (by decide) (hts _ wF_X5_71) (fun _ h9 => h9) rfl dX5_close_11 ?_
      refine k_icmp_gt (tgt := 136) hx hb i n rfl rfl (by omega) (by omega) dX5_close_14 (by decide) (fun c14 => ?_) (fun c14 => ?_)
      · skip
        refine lv_iload_n hx hb dX5_close_136 rfl (lv_at hl 2 rfl) ?_
        exact ret _ () _ _ _ _ dX5_close_137 (h3.elim (fun h => Or.inr h.1) (fun h => Or.inl h.1)) hP hD hS (by have e9 : i = n + 1 := (by omega); subst e9; exact cl_end h3)
      · skip
        refine lv_iconst (v := 1) hx hb dX5_close_17 (by decide) ?_
        refine lv_istore (lv' := [(4, .int 1), (0, .ref (h 0)), (1, .int bd), (2, .int ar), (3, .int (nI i))]) hx hb dX5_close_18 hl (by decide) rfl (fun ls hl => ?_)
        have L20 : ∀ (kf : Nat) (k : Nat) (as : Int32) (ls : Array Slot), (i - k < kf) → (1 ≤ k) → (k ≤ i) → ((as = 1 ∧ (∀ a b, 1 ≤ a → a < i → 1 ≤ b → b < a → (Y 4 a = 2 → Y 4 b = 2 → dsr (Y 6 a) (Y 6 b) ≤ bd)) ∧ ∀ b, 1 ≤ b → b < k → (Y 4 i = 2 → Y 4 b = 2 → dsr (Y 6 i) (Y 6 b) ≤ bd)) ∨ (as = 0 ∧ ((∃ a b, 1 ≤ a ∧ a < i ∧ 1 ≤ b ∧ b < a ∧ Y 4 a = 2 ∧ Y 4 b = 2 ∧ ¬ dsr (Y 6 a) (Y 6 b) ≤ bd) ∨ ∃ b, 1 ≤ b ∧ b < k ∧ Y 4 i = 2 ∧ Y 4 b = 2 ∧ ¬ dsr (Y 6 i) (Y 6 b) ≤ bd))) → (lv_has ls 7 [(0, .ref (h 0)), (1, .int bd), (2, .int as), (3, .int (nI i)), (4, .int (nI k))]) → W p l e (rmK 0) s m args below meth c H locs 0 0 Q (F0 m 20 ls []) := by
          intro kf
          induction kf with
          | zero =>
            intro k as ls hm
            exact absurd hm (Nat.not_lt_zero _)
          | succ kf ih20 =>
            intro k as ls hm k1 k2 k3 hl
            refine lv_iload hx hb dX5_close_20 (lv_at hl 4 rfl) ?_
            refine lv_iload_n hx hb dX5_close_22 rfl (lv_at hl 3 rfl) ?_
            refine k_icmp_ge (tgt := 130) hx hb k i rfl rfl (by omega) (by omega) dX5_close_23 (by decide) (fun c23 => ?_) (fun c23 => ?_)
            · skip
              refine k_iinc (k := 3) (lv' := [(3, .int (nI (i + 1))), (0, .ref (h 0)), (1, .int bd), (2, .int as), (4, .int (nI k))]) hx hb i rfl dX5_close_130 hl rfl (by decide) rfl (fun ls hl => ?_)
              refine lv_goto (tgt := 9) hx hb dX5_close_133 (by decide) ?_
              exact ih9 (i + 1) as _ (by omega) (by omega) (by omega) (cl_out k3 (by omega)) (lv_sub hl [1, 2, 3, 0] rfl)
            · skip
              have L52 : ∀ (bo : Int32) (ls : Array Slot), (bo = if Y 4 i = 2 ∧ Y 4 k = 2 then 1 else 0) → (lv_has ls 7 [(0, .ref (h 0)), (1, .int bd), (2, .int as), (3, .int (nI i)), (4, .int (nI k))]) → W p l e (rmK 0) s m args below meth c H locs 0 0 Q (F0 m 52 ls [.int bo]) := by
                intro bo ls hbo hl
                refine lv_istore (lv' := [(5, .int bo), (0, .ref (h 0)), (1, .int bd), (2, .int as), (3, .int (nI i)), (4, .int (nI k))]) hx hb dX5_close_52 hl (by decide) rfl (fun ls hl => ?_)
                have L101 : ∀ (ap : Int32) (ls : Array Slot), (ap = dsr (Y 6 i) (Y 6 k)) → (lv_has ls 7 [(0, .ref (h 0)), (1, .int bd), (2, .int as), (3, .int (nI i)), (4, .int (nI k)), (5, .int bo)]) → W p l e (rmK 0) s m args below meth c H locs 0 0 Q (F0 m 101 ls [.int ap]) := by
                  intro ap ls hap hl
                  refine lv_istore (lv' := [(6, .int ap), (0, .ref (h 0)), (1, .int bd), (2, .int as), (3, .int (nI i)), (4, .int (nI k)), (5, .int bo)]) hx hb dX5_close_101 hl (by decide) rfl (fun ls hl => ?_)
                  refine lv_iload_n hx hb dX5_close_103 rfl (lv_at hl 3 rfl) ?_
                  refine lv_if_eq (tgt := 122) hx hb dX5_close_104 (by decide) (fun c104 => ?_) (fun c104 => ?_)
                  · skip
                    refine lv_iconst (v := 0) hx hb dX5_close_122 (by decide) ?_
                    refine lv_istore_n (lv' := [(2, .int 0), (6, .int ap), (0, .ref (h 0)), (1, .int bd), (3, .int (nI i)), (4, .int (nI k)), (5, .int bo)]) hx hb dX5_close_123 rfl hl (by decide) rfl (fun ls hl => ?_)
                    refine k_iinc (k := 5) (lv' := [(4, .int (nI (k + 1))), (2, .int 0), (6, .int ap), (0, .ref (h 0)), (1, .int bd), (3, .int (nI i)), (5, .int bo)]) hx hb k rfl dX5_close_124 hl rfl (by decide) rfl (fun ls hl => ?_)
                    refine lv_goto (tgt := 20) hx hb dX5_close_127 (by decide) ?_
                    exact ih20 (k + 1) 0 _ (by omega) (by omega) (by omega) (by first | exact cl_t k3 hbo hap c104 c109 | exact cl_t2 k3 hbo hap c104 c109 c115 | exact cl_f k3 c104 | exact cl_f2 k3 k1 hbo hap c109 c115) (lv_sub hl [3, 4, 1, 5, 0] rfl)
                  · skip
                    refine lv_iload hx hb dX5_close_107 (lv_at hl 6 rfl) ?_
                    refine lv_if_eq (tgt := 118) hx hb dX5_close_109 (by decide) (fun c109 => ?_) (fun c109 => ?_)
                    · skip
                      refine lv_iconst (v := 1) hx hb dX5_close_118 (by decide) ?_
                      refine lv_goto (tgt := 123) hx hb dX5_close_119 (by decide) ?_
                      refine lv_istore_n (lv' := [(2, .int 1), (6, .int ap), (0, .ref (h 0)), (1, .int bd), (3, .int (nI i)), (4, .int (nI k)), (5, .int bo)]) hx hb dX5_close_123 rfl hl (by decide) rfl (fun ls hl => ?_)
                      refine k_iinc (k := 5) (lv' := [(4, .int (nI (k + 1))), (2, .int 1), (6, .int ap), (0, .ref (h 0)), (1, .int bd), (3, .int (nI i)), (5, .int bo)]) hx hb k rfl dX5_close_124 hl rfl (by decide) rfl (fun ls hl => ?_)
                      refine lv_goto (tgt := 20) hx hb dX5_close_127 (by decide) ?_
                      exact ih20 (k + 1) 1 _ (by omega) (by omega) (by omega) (by first | exact cl_t k3 hbo hap c104 c109 | exact cl_t2 k3 hbo hap c104 c109 c115 | exact cl_f k3 c104 | exact cl_f2 k3 k1 hbo hap c109 c115) (lv_sub hl [3, 4, 1, 5, 0] rfl)
                    · skip
                      refine lv_iload hx hb dX5_close_112 (lv_at hl 0 rfl) ?_
                      refine lv_iload_n hx hb dX5_close_114 rfl (lv_at hl 2 rfl) ?_
                      refine lv_icmp_gt (tgt := 122) hx hb dX5_close_115 (by decide) (fun c115 => ?_) (fun c115 => ?_)
                      · skip
                        refine lv_iconst (v := 0) hx hb dX5_close_122 (by decide) ?_
                        refine lv_istore_n (lv' := [(2, .int 0), (6, .int ap), (0, .ref (h 0)), (1, .int bd), (3, .int (nI i)), (4, .int (nI k)), (5, .int bo)]) hx hb dX5_close_123 rfl hl (by decide) rfl (fun ls hl => ?_)
                        refine k_iinc (k := 5) (lv' := [(4, .int (nI (k + 1))), (2, .int 0), (6, .int ap), (0, .ref (h 0)), (1, .int bd), (3, .int (nI i)), (5, .int bo)]) hx hb k rfl dX5_close_124 hl rfl (by decide) rfl (fun ls hl => ?_)
                        refine lv_goto (tgt := 20) hx hb dX5_close_127 (by decide) ?_
                        exact ih20 (k + 1) 0 _ (by omega) (by omega) (by omega) (by first | exact cl_t k3 hbo hap c104 c109 | exact cl_t2 k3 hbo hap c104 c109 c115 | exact cl_f k3 c104 | exact cl_f2 k3 k1 hbo hap c109 c115) (lv_sub hl [3, 4, 1, 5, 0] rfl)
                      · skip
                        refine lv_iconst (v := 1) hx hb dX5_close_118 (by decide) ?_
                        refine lv_goto (tgt := 123) hx hb dX5_close_119 (by decide) ?_
                        refine lv_istore_n (lv' := [(2, .int 1), (6, .int ap), (0, .ref (h 0)), (1, .int bd), (3, .int (nI i)), (4, .int (nI k)), (5, .int bo)]) hx hb dX5_close_123 rfl hl (by decide) rfl (fun ls hl => ?_)
                        refine k_iinc (k := 5) (lv' := [(4, .int (nI (k + 1))), (2, .int 1), (6, .int ap), (0, .ref (h 0)), (1, .int bd), (3, .int (nI i)), (5, .int bo)]) hx hb k rfl dX5_close_124 hl rfl (by decide) rfl (fun ls hl => ?_)
                        refine lv_goto (tgt := 20) hx hb dX5_close_127 (by decide) ?_
                        exact ih20 (k + 1) 1 _ (by omega) (by omega) (by omega) (by first | exact cl_t k3 hbo hap c104 c109 | exact cl_t2 k3 hbo hap c104 c109 c115 | exact cl_f k3 c104 | exact cl_f2 k3 k1 hbo hap c109 c115) (lv_sub hl [3, 4, 1, 5, 0] rfl)
                refine lv_aload_n hx hb dX5_close_54 rfl (lv_at hl 1 rfl) ?_
                refine va_get (D := D) (ci := 7) (v := .ref (h 6)) (C := RX5) (T := TX5) (N := 27) hx hb hts inX5 hown hK hP 0 rfl rfl 6 (by decide) (hts _ wF_X5_17) (fun _ h9 => h9) rfl dX5_close_55 ?_
                refine lv_iload_n hx hb dX5_close_58 rfl (lv_at hl 4 rfl) ?_
                refine k_iald (D := D) (f := Y 6) hx hb hK hP 3 0 rfl rfl i rfl (by omega) (by omega) dX5_close_59 ?_
                refine lv_aload_n hx hb dX5_close_60 rfl (lv_at hl 1 rfl) ?_
                refine va_get (D := D) (ci := 7) (v := .ref (h 6)) (C := RX5) (T := TX5) (N := 27) hx hb hts inX5 hown hK hP 0 rfl rfl 6 (by decide) (hts _ wF_X5_17) (fun _ h9 => h9) rfl dX5_close_61 ?_
                refine lv_iload hx hb dX5_close_64 (lv_at hl 5 rfl) ?_
                refine k_iald (D := D) (f := Y 6) hx hb hK hP 3 0 rfl rfl k rfl (by omega) (by omega) dX5_close_66 ?_
                refine lv_icmp_le (tgt := 87) hx hb dX5_close_67 (by decide) (fun c67 => ?_) (fun c67 => ?_)
                · skip
                  refine lv_aload_n hx hb dX5_close_87 rfl (lv_at hl 1 rfl) ?_
                  refine va_get (D := D) (ci := 7) (v := .ref (h 6)) (C := RX5) (T := TX5) (N := 27) hx hb hts inX5 hown hK hP 0 rfl rfl 6 (by decide) (hts _ wF_X5_17) (fun _ h9 => h9) rfl dX5_close_88 ?_
                  refine lv_iload hx hb dX5_close_91 (lv_at hl 5 rfl) ?_
                  refine k_iald (D := D) (f := Y 6) hx hb hK hP 3 0 rfl rfl k rfl (by omega) (by omega) dX5_close_93 ?_
                  refine lv_aload_n hx hb dX5_close_94 rfl (lv_at hl 1 rfl) ?_
                  refine va_get (D := D) (ci := 7) (v := .ref (h 6)) (C := RX5) (T := TX5) (N := 27) hx hb hts inX5 hown hK hP 0 rfl rfl 6 (by decide) (hts _ wF_X5_17) (fun _ h9 => h9) rfl dX5_close_95 ?_
                  refine lv_iload_n hx hb dX5_close_98 rfl (lv_at hl 4 rfl) ?_
                  refine k_iald (D := D) (f := Y 6) hx hb hK hP 3 0 rfl rfl i rfl (by omega) (by omega) dX5_close_99 ?_
                  refine lv_isub hx hb dX5_close_100 ?_
                  exact L101 ((Y 6 k) - (Y 6 i)) _ (by first | exact ite_p (Int32.not_le.mp c67) | exact ite_n (i32_nle c67)) (lv_sub hl [1, 2, 3, 4, 5, 0] rfl)
                · skip
                  refine lv_aload_n hx hb dX5_close_70 rfl (lv_at hl 1 rfl) ?_
                  refine va_get (D := D) (ci := 7) (v := .ref (h 6)) (C := RX5) (T := TX5) (N := 27) hx hb hts inX5 hown hK hP 0 rfl rfl 6 (by decide) (hts _ wF_X5_17) (fun _ h9 => h9) rfl dX5_close_71 ?_
                  refine lv_iload_n hx hb dX5_close_74 rfl (lv_at hl 4 rfl) ?_
                  refine k_iald (D := D) (f := Y 6) hx hb hK hP 3 0 rfl rfl i rfl (by omega) (by omega) dX5_close_75 ?_
                  refine lv_aload_n hx hb dX5_close_76 rfl (lv_at hl 1 rfl) ?_
                  refine va_get (D := D) (ci := 7) (v := .ref (h 6)) (C := RX5) (T := TX5) (N := 27) hx hb hts inX5 hown hK hP 0 rfl rfl 6 (by decide) (hts _ wF_X5_17) (fun _ h9 => h9) rfl dX5_close_77 ?_
                  refine lv_iload hx hb dX5_close_80 (lv_at hl 5 rfl) ?_
                  refine k_iald (D := D) (f := Y 6) hx hb hK hP 3 0 rfl rfl k rfl (by omega) (by omega) dX5_close_82 ?_
                  refine lv_isub hx hb dX5_close_83 ?_
                  refine lv_goto (tgt := 101) hx hb dX5_close_84 (by decide) ?_
                  exact L101 ((Y 6 i) - (Y 6 k)) _ (by first | exact ite_p (Int32.not_le.mp c67) | exact ite_n (i32_nle c67)) (lv_sub hl [1, 2, 3, 4, 5, 0] rfl)
              refine lv_aload_n hx hb dX5_close_26 rfl (lv_at hl 0 rfl) ?_
              refine va_get (D := D) (ci := 7) (v := .ref (h 4)) (C := RX5) (T := TX5) (N := 27) hx hb hts inX5 hown hK hP 0 rfl rfl 4 (by decide) (hts _ wF_X5_7) (fun _ h9 => h9) rfl dX5_close_27 ?_
              refine lv_iload_n hx hb dX5_close_30 rfl (lv_at hl 3 rfl) ?_
              refine k_iald (D := D) (f := Y 4) hx hb hK hP 1 0 rfl rfl i rfl (by omega) (by omega) dX5_close_31 ?_
              refine lv_iconst (v := 2) hx hb dX5_close_32 (by decide) ?_
              refine lv_icmp_ne (tgt := 51) hx hb dX5_close_33 (by decide) (fun c33 => ?_) (fun c33 => ?_)
              · skip
                refine lv_iconst (v := 0) hx hb dX5_close_51 (by decide) ?_
                exact L52 0 _ (by first | exact ite_p ⟨c33, c44⟩ | exact ite_n (fun z => c33 z.1) | exact ite_n (fun z => c44 z.2)) (lv_sub hl [0, 1, 2, 3, 4] rfl)
              · skip
                refine lv_aload_n hx hb dX5_close_36 rfl (lv_at hl 0 rfl) ?_
                refine va_get (D := D) (ci := 7) (v := .ref (h 4)) (C := RX5) (T := TX5) (N := 27) hx hb hts inX5 hown hK hP 0 rfl rfl 4 (by decide) (hts _ wF_X5_7) (fun _ h9 => h9) rfl dX5_close_37 ?_
                refine lv_iload hx hb dX5_close_40 (lv_at hl 4 rfl) ?_
                refine k_iald (D := D) (f := Y 4) hx hb hK hP 1 0 rfl rfl k rfl (by omega) (by omega) dX5_close_42 ?_
                refine lv_iconst (v := 2) hx hb dX5_close_43 (by decide) ?_
                refine lv_icmp_ne (tgt := 51) hx hb dX5_close_44 (by decide) (fun c44 => ?_) (fun c44 => ?_)
                · skip
                  refine lv_iconst (v := 0) hx hb dX5_close_51 (by decide) ?_
                  exact L52 0 _ (by first | exact ite_p ⟨c33, c44⟩ | exact ite_n (fun z => c33 z.1) | exact ite_n (fun z => c44 z.2)) (lv_sub hl [0, 1, 2, 3, 4] rfl)
                · skip
                  refine lv_iconst (v := 1) hx hb dX5_close_47 (by decide) ?_
                  refine lv_goto (tgt := 52) hx hb dX5_close_48 (by decide) ?_
                  exact L52 1 _ (by first | exact ite_p ⟨c33, c44⟩ | exact ite_n (fun z => c33 z.1) | exact ite_n (fun z => c44 z.2)) (lv_sub hl [0, 1, 2, 3, 4] rfl)
        exact L20 ((i - 1) + 1) 1 ar _ (Nat.lt_succ_self _) (Nat.le_refl 1) (by omega) (h3.elim (fun h => Or.inl ⟨h.1, h.2, fun b q1 q2 => absurd q2 (by omega)⟩) (fun h => Or.inr ⟨h.1, Or.inl h.2⟩)) (lv_sub hl [1, 2, 3, 4, 0] rfl)
  exact L9 ((n + 1 - 1) + 1) 1 1 _ (Nat.lt_succ_self _) (Nat.le_refl 1) (by omega) (Or.inl ⟨rfl, fun a b q1 q2 => absurd q2 (by omega)⟩) (lv_sub hl [2, 3, 1, 0] rfl)
