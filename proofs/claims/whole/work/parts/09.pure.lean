/-! words for the state: pure -/
theorem sX_app (X : Nat → Nat → Int32) (k j : Nat) (v : Int32) (a b : Nat) : sX X k j v a b = if a = k ∧ b = j then v else X a b := by
  unfold sX
  by_cases h : a = k
  · subst h
    by_cases hb : b = j <;> simp [upd, hb]
  · simp [h]
theorem sX_ne {X : Nat → Nat → Int32} {k j : Nat} {v : Int32} {a : Nat} (h : a ≠ k) : sX X k j v a = X a := by
  unfold sX
  rw [if_neg h]
theorem sX_at {X : Nat → Nat → Int32} {k j : Nat} {v : Int32} : sX X k j v k j = v := by rw [sX_app]; simp
/-- array k as a whole -/
def sA (X : Nat → Nat → Int32) (k : Nat) (f : Nat → Int32) : Nat → Nat → Int32 := fun a => if a = k then f else X a
theorem sA_ne {X : Nat → Nat → Int32} {k : Nat} {f : Nat → Int32} {a : Nat} (h : a ≠ k) : sA X k f a = X a := by unfold sA; rw [if_neg h]
theorem sA_at {X : Nat → Nat → Int32} {k : Nat} {f : Nat → Int32} : sA X k f k = f := by unfold sA; rw [if_pos rfl]
theorem sA_self {X : Nat → Nat → Int32} {k : Nat} : sA X k (X k) = X := by
  funext a
  by_cases h : a = k
  · subst h; rw [sA_at]
  · rw [sA_ne h]
theorem sX_sA {X : Nat → Nat → Int32} {k j : Nat} {v : Int32} : sX X k j v = sA X k (upd (X k) j v) := by
  funext a
  by_cases h : a = k
  · subst h; simp [sX, sA]
  · rw [sX_ne h, sA_ne h]
theorem sA_sA {X : Nat → Nat → Int32} {k : Nat} {f f' : Nat → Int32} : sA (sA X k f) k f' = sA X k f' := by
  funext a
  by_cases h : a = k
  · subst h; rw [sA_at, sA_at]
  · rw [sA_ne h, sA_ne h, sA_ne h]
theorem not_lt_1 {x : Int32} (h : ¬ x < 1) : 1 ≤ x.toInt := by
  have := Int32.not_lt.mp h
  have := Int32.le_iff_toInt_le.mp this
  simpa using this
theorem has_1 {x : Int32} {n : Nat} (hn : n < 2147483648) (h1 : ¬ x < 1) (h2 : ¬ nI n < x) : (1 : Int32) = if inR x 1 n then 1 else 0 := by
  have b := Int32.le_iff_toInt_le.mp (Int32.not_lt.mp h2)
  rw [nI_toInt hn] at b
  rw [if_pos (⟨by simpa using not_lt_1 h1, b⟩ : inR x 1 n)]
theorem has_0 {x : Int32} {n : Nat} (hn : n < 2147483648) (h : x < 1 ∨ nI n < x) : (0 : Int32) = if inR x 1 n then 1 else 0 := by
  rw [if_neg]
  rintro ⟨a, b⟩
  rcases h with h | h
  · have := Int32.lt_iff_toInt_lt.mp h
    simp at this
    omega
  · have := Int32.lt_iff_toInt_lt.mp h
    rw [nI_toInt hn] at this
    omega
/-- k is the least ACTIVE node, 0 if there is none -/
def isLA (f : Nat → Int32) (n k : Nat) : Prop := (k = 0 ∧ ∀ j, 1 ≤ j → j ≤ n → f j ≠ 2) ∨ (1 ≤ k ∧ k ≤ n ∧ f k = 2 ∧ ∀ j, 1 ≤ j → j < k → f j ≠ 2)
theorem isLA_le {f : Nat → Int32} {n k : Nat} (h : isLA f n k) : k ≤ n := by
  rcases h with h | h
  · omega
  · exact h.2.1
theorem isLA_uniq {f f' : Nat → Int32} {n k k' : Nat} (hf : ∀ j, 1 ≤ j → j ≤ n → f j = f' j) (h : isLA f n k) (h' : isLA f' n k') : k = k' := by
  rcases h with ⟨rfl, h⟩ | ⟨h1, h2, h3, h4⟩ <;> rcases h' with ⟨rfl, h'⟩ | ⟨h1', h2', h3', h4'⟩
  · rfl
  · exact absurd h3' (by rw [← hf _ h1' h2']; exact h _ h1' h2')
  · exact absurd h3 (by rw [hf _ h1 h2]; exact h' _ h1 h2)
  · rcases Nat.lt_trichotomy k k' with q | q | q
    · exact absurd (by rw [← hf _ h1 h2]; exact h3) (h4' k h1 q)
    · exact q
    · exact absurd (by rw [hf _ h1' h2']; exact h3') (h4 k' h1' q)
/-- how many of 1 .. k - 1 -/
def cnt (f : Nat → Bool) : Nat → Nat
  | 0 => 0
  | k + 1 => cnt f k + (if 1 ≤ k ∧ f k = true then 1 else 0)
theorem cnt_1 (f : Nat → Bool) : cnt f 1 = 0 := by simp [cnt]
theorem cnt_t {f : Nat → Bool} {k : Nat} (h1 : 1 ≤ k) (h : f k = true) : cnt f (k + 1) = cnt f k + 1 := by simp [cnt, h1, h]
theorem cnt_f {f : Nat → Bool} {k : Nat} (h : f k = false) : cnt f (k + 1) = cnt f k := by simp [cnt, h]
theorem cnt_le (f : Nat → Bool) (k : Nat) : cnt f k ≤ k := by
  induction k with
  | zero => simp [cnt]
  | succ k ih => unfold cnt; split <;> omega
theorem cnt_congr {f g : Nat → Bool} {k : Nat} (h : ∀ j, 1 ≤ j → j < k → f j = g j) : cnt f k = cnt g k := by
  induction k with
  | zero => rfl
  | succ k ih =>
    unfold cnt
    rw [ih (fun j a b => h j a (by omega))]
    by_cases hk : 1 ≤ k
    · rw [h k hk (by omega)]
    · simp [hk]
/-- a starter: COLD, and READY or INTEGRATING -/
abbrev isSt (st co : Nat → Int32) (j : Nat) : Prop := co j ≠ 0 ∧ (st j = 0 ∨ st j = 1)
def nSt (st co : Nat → Int32) (k : Nat) : Nat := cnt (fun j => decide (isSt st co j)) k
def nCo (co : Nat → Int32) (k : Nat) : Nat := cnt (fun j => decide (co j ≠ 0)) k
/-- the sorting of deviations -/
def insF : Nat → (Nat → Int32) → Int32 → (Nat → Int32)
  | 0, a, d => upd a 0 d
  | k + 1, a, d => if a k ≤ d then upd a (k + 1) d else insF k (upd a (k + 1) (a k)) d
theorem insF_hi {k : Nat} : ∀ {a : Nat → Int32} {d : Int32} {t : Nat}, k < t → insF k a d t = a t := by
  induction k with
  | zero => intro a d t h; unfold insF; rw [pk_un (by omega)]
  | succ k ih =>
    intro a d t h
    unfold insF
    split
    · rw [pk_un (by omega)]
    · rw [ih (by omega), pk_un (by omega)]
theorem insF_congr {k : Nat} : ∀ {a b : Nat → Int32} {d : Int32}, (∀ t, t < k → a t = b t) → ∀ t, t ≤ k → insF k a d t = insF k b d t := by
  induction k with
  | zero => intro a b d h t ht; unfold insF; rw [show t = 0 by omega, pk_us, pk_us]
  | succ k ih =>
    intro a b d h t ht
    unfold insF
    rw [h k (by omega)]
    split
    · by_cases e : t = k + 1
      · rw [e, pk_us, pk_us]
      · rw [pk_un e, pk_un e]; exact h t (by omega)
    · by_cases e : t = k + 1
      · rw [e, insF_hi (by omega), insF_hi (by omega), pk_us, pk_us]
      · exact ih (fun t ht => by rw [pk_un (by omega), pk_un (by omega)]; exact h t (by omega)) t (by omega)
def srt (e : Nat → Int32) : Nat → (Nat → Int32)
  | 0 => fun _ => 0
  | m + 1 => insF m (srt e m) (e m)
theorem srt_congr {e e' : Nat → Int32} {m : Nat} (h : ∀ t, t < m → e t = e' t) : srt e m = srt e' m := by
  induction m with
  | zero => rfl
  | succ m ih => unfold srt; rw [ih (fun t ht => h t (by omega)), h m (by omega)]
abbrev dvP (st he : Nat → Int32) (i j : Nat) : Prop := j ≠ i ∧ st j = 2 ∧ he j ≠ 0
def dc (st he : Nat → Int32) (i k : Nat) : Nat := 1 + cnt (fun j => decide (dvP st he i j)) k
def de (st he er : Nat → Int32) (i : Nat) : Nat → (Nat → Int32)
  | 0 => fun _ => 0
  | k + 1 => if 1 ≤ k ∧ dvP st he i k then upd (de st he er i k) (dc st he i k) (er k - er i) else de st he er i k
def mpv (st he er : Nat → Int32) (n i : Nat) : Int32 :=
  let m := dc st he i (n + 1)
  let s := srt (de st he er i (n + 1)) m
  let k := if m < 3 then 0 else if m < 8 then 1 else 2
  (s k + s (m - 1 - k)) / 2
theorem dc_1 (st he : Nat → Int32) (i : Nat) : dc st he i 1 = 1 := by unfold dc; rw [cnt_1]
theorem dc_t {st he : Nat → Int32} {i k : Nat} (h1 : 1 ≤ k) (h : dvP st he i k) : dc st he i (k + 1) = dc st he i k + 1 := by unfold dc; rw [cnt_t h1 (decide_eq_true h)]; omega
theorem dc_f {st he : Nat → Int32} {i k : Nat} (h : ¬ dvP st he i k) : dc st he i (k + 1) = dc st he i k := by unfold dc; rw [cnt_f (decide_eq_false h)]
theorem dc_le (st he : Nat → Int32) (i k : Nat) : dc st he i (k + 1) ≤ k + 1 ∧ (1 ≤ i → i ≤ k → dc st he i (k + 1) ≤ k) := by
  induction k with
  | zero => rw [dc_1]; omega
  | succ k ih =>
    by_cases h : dvP st he i (k + 1)
    · rw [dc_t (by omega) h]
      have := h.1
      refine ⟨by omega, fun a b => ?_⟩
      have := ih.2 a (by omega)
      omega
    · rw [dc_f h]
      refine ⟨by omega, fun a b => ?_⟩
      omega
theorem dc_pos (st he : Nat → Int32) (i k : Nat) : 1 ≤ dc st he i k := by unfold dc; omega
theorem de_t {st he er : Nat → Int32} {i k : Nat} (h1 : 1 ≤ k) (h : dvP st he i k) : de st he er i (k + 1) = upd (de st he er i k) (dc st he i k) (er k - er i) := by conv => lhs; unfold de; rw [if_pos ⟨h1, h⟩]
theorem de_f {st he er : Nat → Int32} {i k : Nat} (h : ¬ dvP st he i k) : de st he er i (k + 1) = de st he er i k := by conv => lhs; unfold de; rw [if_neg (fun z => h z.2)]
/-- sorted so far: one more deviation -/
theorem srt_step {st he er : Nat → Int32} {i k : Nat} {a : Nat → Int32} (h1 : 1 ≤ k) (h : dvP st he i k) (ha : ∀ t, t < dc st he i k → a t = srt (de st he er i k) (dc st he i k) t) :
    ∀ t, t < dc st he i (k + 1) → insF (dc st he i k) a (er k - er i) t = srt (de st he er i (k + 1)) (dc st he i (k + 1)) t := by
  intro t ht
  rw [dc_t h1 h] at ht ⊢
  rw [de_t h1 h]
  show _ = insF (dc st he i k) (srt _ (dc st he i k)) _ t
  rw [pk_us, srt_congr (e' := de st he er i k) (fun t ht => pk_un (by omega))]
  exact insF_congr ha t (by omega)
theorem i32_nlt {a b : Int32} (h : a < b) : ¬ b ≤ a := Int32.not_le.mpr h
theorem i32_nle {a b : Int32} (h : a ≤ b) : ¬ b < a := Int32.not_lt.mpr h
theorem insF_0 {a : Nat} {f : Nat → Int32} {d : Int32} (h : a = 0) : insF a f d = upd f a d := by subst h; rfl
theorem insF_stop {a : Nat} {f : Nat → Int32} {d : Int32} (h : 0 < a) (hd : f (a - 1) ≤ d) : insF a f d = upd f a d := by
  obtain ⟨k, rfl⟩ : ∃ k, a = k + 1 := ⟨a - 1, by omega⟩
  rw [Nat.add_sub_cancel] at hd
  conv => lhs; unfold insF
  rw [if_pos hd]
theorem insF_go {a : Nat} {f : Nat → Int32} {d : Int32} (h : 0 < a) (hd : ¬ f (a - 1) ≤ d) : insF a f d = insF (a - 1) (upd f a (f (a - 1))) d := by
  obtain ⟨k, rfl⟩ : ∃ k, a = k + 1 := ⟨a - 1, by omega⟩
  rw [Nat.add_sub_cancel] at hd ⊢
  conv => lhs; unfold insF
  rw [if_neg hd]
/-- integration of node j, the leader ld -/
def Ig (X u : Nat → Nat → Int32) (ld j : Nat) : Prop := u 1 j = (if X 1 j = 0 then 1 else if X 1 j = 1 then (if 2 ≤ X 6 j + 1 then 2 else 1) else X 1 j) ∧ u 6 j = (if X 1 j = 0 then 0 else if X 1 j = 1 then X 6 j + 1 else X 6 j) ∧ u 2 j = (if X 1 j = 1 ∧ 2 ≤ X 6 j + 1 then X 2 ld else X 2 j)
def SU (X u : Nat → Nat → Int32) (n : Nat) : Prop := ∃ k, isLA (X 1) n k ∧ ((k ≠ 0 ∧ (∀ j, 1 ≤ j → j ≤ n → Ig X u k j) ∧ ∀ a, a ≠ 1 → a ≠ 2 → a ≠ 6 → u a = X a) ∨
  (k = 0 ∧ 2 ≤ nSt (X 1) (X 5) (n + 1) ∧ (∀ j, 1 ≤ j → j ≤ n → u 1 j = if isSt (X 1) (X 5) j then 2 else X 1 j) ∧ ∀ a, a ≠ 1 → u a = X a) ∨ (k = 0 ∧ nSt (X 1) (X 5) (n + 1) < 2 ∧ u = X))
def clp (w : Int32) : Int32 := if (-100) < (if w < 100 then w else 100) then (if w < 100 then w else 100) else (-100)
def apSum (mid ab lm : Int32) : Int32 := mid + (if ab ≠ 0 then lm else 0)
abbrev big (mid : Int32) : Prop := 500 < mid ∨ mid < (-500)
def zSt (st ra mid sm odd : Int32) : Int32 := if big mid then 4 else if odd ≠ 0 ∧ clp (ra + sm / 4) ≠ ra + sm / 4 then 3 else st
def zEr (er mid : Int32) : Int32 := if big mid then er else er + mid
def zRa (ra mid sm odd : Int32) : Int32 := if ¬ big mid ∧ odd ≠ 0 then clp (ra + sm / 4) else ra
/-- a node that is ACTIVE takes its midpoint -/
def AP (X u : Nat → Nat → Int32) (j : Nat) (mid odd : Int32) : Prop := u 1 j = zSt (X 1 j) (X 4 j) mid (apSum mid (X 10 j) (X 9 j)) odd ∧ u 2 j = zEr (X 2 j) mid ∧ u 4 j = zRa (X 4 j) mid (apSum mid (X 10 j) (X 9 j)) odd ∧ u 9 j = mid ∧ u 10 j = 1
def CR (X u : Nat → Nat → Int32) (n j : Nat) (odd : Int32) : Prop := (X 1 j = 2 → AP X u j (mpv (X 1) (X 7) (X 2) n j) odd) ∧ (X 1 j ≠ 2 → u 1 j = X 1 j ∧ u 2 j = X 2 j ∧ u 4 j = X 4 j ∧ u 9 j = X 9 j ∧ u 10 j = 0)
