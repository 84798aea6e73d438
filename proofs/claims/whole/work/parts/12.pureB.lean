/-! frames: pure words -/
def dst (x y : Int32) : Int64 := if 0 < x.toInt64 - y.toInt64 then x.toInt64 - y.toInt64 else -(x.toInt64 - y.toInt64)
abbrev isEv (e : Int32) : Prop := e = 1 ∨ e = 2 ∨ e = 4 ∨ e = 8 ∨ e = 16 ∨ e = 32 ∨ e = 64
/-- how the JDK counts bits -/
def bc1 (x : Int32) : Int32 := x - ((x.toUInt32 >>> ((1 : Int32).toUInt32 &&& Int32.toUInt32 31)).toInt32 &&& 1431655765)
def bc2 (x : Int32) : Int32 := (x &&& 858993459) + ((x.toUInt32 >>> ((2 : Int32).toUInt32 &&& Int32.toUInt32 31)).toInt32 &&& 858993459)
def bc3 (x : Int32) : Int32 := (x + (x.toUInt32 >>> ((4 : Int32).toUInt32 &&& Int32.toUInt32 31)).toInt32) &&& 252645135
def bc4 (x : Int32) : Int32 := x + (x.toUInt32 >>> ((8 : Int32).toUInt32 &&& Int32.toUInt32 31)).toInt32
def bc5 (x : Int32) : Int32 := x + (x.toUInt32 >>> ((16 : Int32).toUInt32 &&& Int32.toUInt32 31)).toInt32
def bc (x : Int32) : Int32 := bc5 (bc4 (bc3 (bc2 (bc1 x)))) &&& 63
theorem bc_all : ∀ k : Fin 65, (bc (nI k.val) = 1 ↔ isEv (nI k.val)) := by decide +kernel
theorem bc_ev {x : Int32} (h1 : ¬ x < 1) (h2 : ¬ 64 < x) : bc x = 1 ↔ isEv x := by
  have a := not_lt_1 h1
  have b := Int32.le_iff_toInt_le.mp (Int32.not_lt.mp h2)
  obtain ⟨j, h3, h4, rfl⟩ := inR_of (x := x) (lo := 1) (hi := 64) ⟨by simpa using a, by simpa using b⟩
  exact bc_all ⟨j, by omega⟩
theorem ev_lo {x : Int32} (h : x < 1) : ¬ isEv x := by rintro (rfl | rfl | rfl | rfl | rfl | rfl | rfl) <;> exact absurd h (by decide)
theorem ev_hi {x : Int32} (h : 64 < x) : ¬ isEv x := by rintro (rfl | rfl | rfl | rfl | rfl | rfl | rfl) <;> exact absurd h (by decide)
/-- how many of 0 .. k - 1 -/
def cnz (f : Nat → Bool) : Nat → Nat
  | 0 => 0
  | k + 1 => cnz f k + (if f k = true then 1 else 0)
theorem cnz_t {f : Nat → Bool} {k : Nat} (h : f k = true) : cnz f (k + 1) = cnz f k + 1 := by simp [cnz, h]
theorem cnz_f {f : Nat → Bool} {k : Nat} (h : f k = false) : cnz f (k + 1) = cnz f k := by simp [cnz, h]
theorem cnz_le (f : Nat → Bool) (k : Nat) : cnz f k ≤ k := by
  induction k with
  | zero => simp [cnz]
  | succ k ih => unfold cnz; split <;> omega
theorem cnz_congr {f g : Nat → Bool} {k : Nat} (h : ∀ j, j < k → f j = g j) : cnz f k = cnz g k := by
  induction k with
  | zero => rfl
  | succ k ih => unfold cnz; rw [ih (fun j b => h j (by omega)), h k (by omega)]
/-- the frames' nodes and slots are there -/
def FrI (fn fl : Nat → Int32) (n sl ss : Nat) : Prop := ∀ i, i < ss → inR (fn i) 1 n ∧ ∃ q : Nat, q < sl ∧ fl i = nI q
def DyI (fn fl : Nat → Int32) (n ds : Nat) : Prop := ∀ i, i < ds → inR (fn i) 1 n ∧ inR (fl i) 1 60
/-- a frame clashes with another -/
abbrev Cl (fl fc fb fe : Nat → Int32) (sl ch ba ev : Int32) (i : Nat) : Prop := (fl i = sl ∧ fc i &&& ch ≠ 0) ∧ ba &&& ((if fe i < ev then fe i else ev) - 1) = fb i &&& ((if fe i < ev then fe i else ev) - 1)
/-- a frame is sent and done: P says that it is in this cycle -/
abbrev Dn (P : Nat → Bool) (st fn fl fc xs : Nat → Int32) (i : Nat) : Prop := (st (fn i).toNatClampNeg = 2 ∧ P i = true) ∧ fc i &&& (xs (fl i).toNatClampNeg ^^^ (-1)) ≠ 0
/-- the dynamic frames that wait -/
abbrev T3 : Type := Int32 × Int32 × Int32
def dl (X : Nat → Nat → Int32) (a b c ds : Nat) : List T3 := (List.range ds).map fun k => (X a k, X b k, X c k)
theorem dl_len (X : Nat → Nat → Int32) (a b c ds : Nat) : (dl X a b c ds).length = ds := by simp [dl]
theorem dl_get {X : Nat → Nat → Int32} {a b c ds k : Nat} (h : k < (dl X a b c ds).length) : (dl X a b c ds)[k] = (X a k, X b k, X c k) := by simp [dl]
theorem dl_congr {X Y : Nat → Nat → Int32} {a b c a' b' c' ds : Nat} (h : ∀ k, k < ds → X a k = Y a' k ∧ X b k = Y b' k ∧ X c k = Y c' k) : dl X a b c ds = dl Y a' b' c' ds := by
  unfold dl
  apply List.map_congr_left
  intro k hk
  obtain ⟨h1, h2, h3⟩ := h k (List.mem_range.mp hk)
  rw [h1, h2, h3]
theorem dl_rm {X u : Nat → Nat → Int32} {a b c ds k : Nat} (hk : k < ds) (h : ∀ x, (x = a ∨ x = b ∨ x = c) → ∀ j, j < ds - 1 → u x j = if j < k then X x j else X x (j + 1)) : dl u a b c (ds - 1) = (dl X a b c ds).eraseIdx k := by
  apply List.ext_getElem
  · rw [List.length_eraseIdx, dl_len, dl_len, if_pos hk]
  · intro j h1 h2
    rw [dl_get, List.getElem_eraseIdx]
    rw [dl_len] at h1
    rw [h a (Or.inl rfl) j h1, h b (Or.inr (Or.inl rfl)) j h1, h c (Or.inr (Or.inr rfl)) j h1]
    split
    · rw [dl_get]
    · rw [dl_get]
/-- a waiting frame of identity id, its node ACTIVE -/
def pm (st : Nat → Int32) (id : Nat) (q : T3) : Bool := decide (q.2.1 = nI id ∧ st q.1.toNatClampNeg = 2)
def dlen (L : List T3) (k : Nat) : Nat := (L.getD k (0, 0, 0)).2.2.toNatClampNeg
/-- the dynamic part of a cycle -/
def dyn (p : Nat → T3 → Bool) (mi : Nat) : Nat → Nat → List T3 → Nat → Nat → List T3 × Nat
  | 0, _, L, _, d => (L, d)
  | f + 1, id, L, m, d => if m ≤ mi then
      (match L.findIdx? (p id) with
      | some k => if m + dlen L k - 1 ≤ mi then dyn p mi f (id + 1) (L.eraseIdx k) (m + dlen L k) (d + 1) else dyn p mi f (id + 1) L (m + 1) d
      | none => dyn p mi f (id + 1) L (m + 1) d)
    else (L, d)
theorem dyn_out {p : Nat → T3 → Bool} {mi f id m d : Nat} {L : List T3} (h : mi < m) : dyn p mi f id L m d = (L, d) := by
  cases f with
  | zero => rfl
  | succ f => unfold dyn; rw [if_neg (by omega)]
theorem dyn_none {p : Nat → T3 → Bool} {mi f id m d : Nat} {L : List T3} (h : m ≤ mi) (hn : L.findIdx? (p id) = none) : dyn p mi (f + 1) id L m d = dyn p mi f (id + 1) L (m + 1) d := by
  conv => lhs; unfold dyn
  rw [if_pos h, hn]
theorem dyn_long {p : Nat → T3 → Bool} {mi f id m d k : Nat} {L : List T3} (h : m ≤ mi) (hn : L.findIdx? (p id) = some k) (hl : ¬ m + dlen L k - 1 ≤ mi) : dyn p mi (f + 1) id L m d = dyn p mi f (id + 1) L (m + 1) d := by
  conv => lhs; unfold dyn
  rw [if_pos h, hn]
  simp only [if_neg hl]
theorem dyn_take {p : Nat → T3 → Bool} {mi f id m d k : Nat} {L : List T3} (h : m ≤ mi) (hn : L.findIdx? (p id) = some k) (hl : m + dlen L k - 1 ≤ mi) : dyn p mi (f + 1) id L m d = dyn p mi f (id + 1) (L.eraseIdx k) (m + dlen L k) (d + 1) := by
  conv => lhs; unfold dyn
  rw [if_pos h, hn]
  simp only [if_pos hl]
theorem fi_none {X : Nat → Nat → Int32} {a b c ds id : Nat} {st : Nat → Int32} (h : ∀ j, j < ds → ¬ (X b j = nI id ∧ st (X a j).toNatClampNeg = 2)) : (dl X a b c ds).findIdx? (pm st id) = none := by
  rw [List.findIdx?_eq_none_iff]
  intro x hx
  obtain ⟨j, hj, rfl⟩ := List.mem_map.mp hx
  exact decide_eq_false (h j (List.mem_range.mp hj))
theorem fi_some {X : Nat → Nat → Int32} {a b c ds id k : Nat} {st : Nat → Int32} (hk : k < ds) (h : X b k = nI id ∧ st (X a k).toNatClampNeg = 2) (hb : ∀ j, j < k → ¬ (X b j = nI id ∧ st (X a j).toNatClampNeg = 2)) : (dl X a b c ds).findIdx? (pm st id) = some k := by
  rw [List.findIdx?_eq_some_iff_getElem]
  refine ⟨by rw [dl_len]; exact hk, ?_, ?_⟩
  · rw [dl_get]; exact decide_eq_true h
  · intro j hj
    rw [dl_get]
    simp only [pm, decide_eq_true_eq, Bool.not_eq_true, decide_eq_false_iff_not]
    exact hb j hj
theorem dlen_dl {X : Nat → Nat → Int32} {a b c ds k : Nat} (hk : k < ds) : dlen (dl X a b c ds) k = (X c k).toNatClampNeg := by
  have h : (dl X a b c ds)[k]? = some (X a k, X b k, X c k) := by simp [dl, hk]
  unfold dlen
  rw [List.getD_eq_getElem?_getD, h]
  rfl
theorem nI_m1 {k : Nat} (h : k < 2147483648) : nI k ≠ -1 := fun z => by
  have := congrArg Int32.toInt z
  rw [nI_toInt h] at this
  have e : (-1 : Int32).toInt = -1 := by decide
  rw [e] at this
  omega
theorem inR_nat {x : Int32} {lo hi : Nat} (h : inR x lo hi) : x = nI x.toNatClampNeg ∧ lo ≤ x.toNatClampNeg ∧ x.toNatClampNeg ≤ hi ∨ 2147483648 ≤ hi := by
  by_cases q : 2147483648 ≤ hi
  · exact Or.inr q
  · obtain ⟨j, h1, h2, rfl⟩ := inR_of h
    rw [nI_clamp (by omega)]
    exact Or.inl ⟨rfl, h1, h2⟩
