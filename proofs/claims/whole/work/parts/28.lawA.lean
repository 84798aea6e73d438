/-! the law's calls: each from its label to the step -/
def wz (g h : Nat → Nat) (cI cZ cL : ClassId) (sl mi n : Nat) (X : NN) (cy ss ds fs : Nat) (Y : NN) (th qo : Nat) (f : Nat → Int64) : va_W := cw g cI cZ sl mi n X cy ss ds fs ++ (mw h cI cZ sl mi n Y th ss ds cy ++ [(qo, .inl (cL, 1, .inr (.inl f)))])
def LC (l : Launch) (p : Program) (s : State) (m : MethodId) (meth : Method) (c : Code) (b L : Nat) (xs : Nat → Int32) (D : va_G) (cI cZ cL : ClassId) : Prop :=
  Cx p s m #[Value.ref b] meth c code 7 RL (some .boolean) ∧ va_K D vwCl (tyz cI cZ cL) s ∧ NW s ∧ va_X b L xs s s.heap ∧ b < s.heap.size ∧ ZS (fun q : Nat => s.heap.size ≤ q) s s.heap ∧ l.stackTraces = false
def LB (sl mi n : Nat) : Prop := n ≤ 16 ∧ 1 ≤ sl ∧ sl ≤ 60 ∧ mi ≤ 60
def LV (b : Nat) (g h : Nat → Nat) (qo i : Nat) : List (Nat × Value) := [(0, .ref b), (1, .ref (g 0)), (2, .ref (h 0)), (3, .ref qo), (4, .int (nI i))]
section LAWROW
variable {p : Program} {l : Launch} {e : Env} {R : Room} {s : State} {m : MethodId} {args : Array Value} {below : List Frame} {meth : Method} {c : Code} {H : Heap} {locs : List Loc} {cells slots : Nat} {Q : State → Prop}
variable {cc : ByteArray} {pc : Nat} {ls : Array Slot} {rest : List Value} {A : Nat → Prop} {H0 : Heap}
theorem k_sld (hx : p.tables.exec = Jvm.exec) (hb : c.code = cc) {b L : Nat} {xs : Nat → Int32} (hX : va_X b L xs s H0) (hbl : b < H0.size) (hbA : ¬ A b) (hS : va_S A H0 H locs) {x : Int32} (k : Nat) (h1 : x = nI k) (hk : k < L) (hL : L < 2147483648) (hdg : decode cc pc = .ok (.iaload, 1))
    (kk : W p l e R s m args below meth c H locs cells slots Q (F0 m (pc + 1) ls (.int (xs k) :: rest))) : W p l e R s m args below meth c H locs cells slots Q (F0 m pc ls (.int x :: .ref b :: rest)) := by
  subst h1
  refine va_sld hx hb hX hbl hbA hS (vp_in_nI hk hL) hdg ?_
  rw [nI_clamp (by omega)]
  exact kk
end LAWROW
theorem lg_self (x : Int64) : lg_cmp x x = 0 := by unfold lg_cmp; simp
section LAWJ
variable {g h : Nat → Nat} {cI cZ cL : ClassId} {sl mi n : Nat} {X Y : NN} {cy ss ds fs th cy' ss' ds' qo : Nat} {f : Nat → Int64}
theorem j_c : [0, 1, 2, 3, 4, 5, 6, 7, 8, 9, 10, 11, 12, 13, 14, 15, 16, 17, 18, 19, 20, 21, 22, 23, 24].map (fun i => (wz g h cI cZ cL sl mi n X cy ss ds fs Y th qo f : va_W)[i]?) = (cw g cI cZ sl mi n X cy ss ds fs : va_W).map some := rfl
theorem j_cr : [25, 26, 27, 28, 29, 30, 31, 32, 33, 34, 35, 36, 37, 38, 39, 40, 41, 42, 43, 44, 45, 46].map (fun i => (wz g h cI cZ cL sl mi n X cy ss ds fs Y th qo f : va_W)[i]?) = (mw h cI cZ sl mi n Y th ss ds cy ++ [(qo, .inl (cL, 1, .inr (.inl f)))] : va_W).map some := rfl
theorem j_m : [0, 1, 2, 3, 4, 5, 6, 7, 8, 9, 10, 11, 12, 13, 14, 15, 16, 17, 18, 19, 20].map (fun i => ((mw h cI cZ sl mi n Y th ss ds cy ++ [(qo, .inl (cL, 1, .inr (.inl f)))]) ++ cw g cI cZ sl mi n X cy' ss' ds' fs : va_W)[i]?) = (mw h cI cZ sl mi n Y th ss ds cy : va_W).map some := rfl
theorem j_mr : [21, 22, 23, 24, 25, 26, 27, 28, 29, 30, 31, 32, 33, 34, 35, 36, 37, 38, 39, 40, 41, 42, 43, 44, 45, 46].map (fun i => ((mw h cI cZ sl mi n Y th ss ds cy ++ [(qo, .inl (cL, 1, .inr (.inl f)))]) ++ cw g cI cZ sl mi n X cy' ss' ds' fs : va_W)[i]?) = ([(qo, .inl (cL, 1, .inr (.inl f)))] ++ cw g cI cZ sl mi n X cy' ss' ds' fs : va_W).map some := rfl
theorem j_z : [1, 2, 3, 4, 5, 6, 7, 8, 9, 10, 11, 12, 13, 14, 15, 16, 17, 18, 19, 20, 21, 22, 23, 24, 25, 26, 27, 28, 29, 30, 31, 32, 33, 34, 35, 36, 37, 38, 39, 40, 41, 42, 43, 44, 45, 46, 0].map (fun i => (([(qo, .inl (cL, 1, .inr (.inl f)))] ++ cw g cI cZ sl mi n X cy ss ds fs) ++ mw h cI cZ sl mi n Y th ss ds cy : va_W)[i]?) = (wz g h cI cZ cL sl mi n X cy ss ds fs Y th qo f : va_W).map some := rfl
theorem j_n : [25, 26, 27, 28, 29, 30, 31, 32, 33, 34, 35, 36, 37, 38, 39, 40, 41, 42, 43, 44, 45].map (fun i => (wz g h cI cZ cL sl mi n X cy ss ds fs Y th qo f : va_W)[i]?) = (mw h cI cZ sl mi n Y th ss ds cy : va_W).map some := rfl
theorem j_nr : [0, 1, 2, 3, 4, 5, 6, 7, 8, 9, 10, 11, 12, 13, 14, 15, 16, 17, 18, 19, 20, 21, 22, 23, 24, 46].map (fun i => (wz g h cI cZ cL sl mi n X cy ss ds fs Y th qo f : va_W)[i]?) = (cw g cI cZ sl mi n X cy ss ds fs ++ [(qo, .inl (cL, 1, .inr (.inl f)))] : va_W).map some := rfl
theorem j_y : [0, 1, 2, 3, 4, 5, 6, 7, 8, 9, 10, 11, 12, 13, 14, 15, 16, 17, 18, 19, 20, 21, 22, 23, 24, 26, 27, 28, 29, 30, 31, 32, 33, 34, 35, 36, 37, 38, 39, 40, 41, 42, 43, 44, 45, 46, 25].map (fun i => ((cw g cI cZ sl mi n X cy ss ds fs ++ [(qo, .inl (cL, 1, .inr (.inl f)))]) ++ mw h cI cZ sl mi n Y th ss ds cy : va_W)[i]?) = (wz g h cI cZ cL sl mi n X cy ss ds fs Y th qo f : va_W).map some := rfl
theorem j_p : [0, 1, 2, 3, 4, 5, 6, 7, 8, 9, 10, 11, 12, 13, 14, 15, 16, 17, 18, 19, 20, 21, 22, 23, 24, 46].map (fun i => (wz g h cI cZ cL sl mi n X cy ss ds fs Y th qo f : va_W)[i]?) = (cw g cI cZ sl mi n X cy ss ds fs ++ [(qo, .inl (cL, 1, .inr (.inl f)))] : va_W).map some := rfl
theorem j_pr : [25, 26, 27, 28, 29, 30, 31, 32, 33, 34, 35, 36, 37, 38, 39, 40, 41, 42, 43, 44, 45].map (fun i => (wz g h cI cZ cL sl mi n X cy ss ds fs Y th qo f : va_W)[i]?) = (mw h cI cZ sl mi n Y th ss ds cy : va_W).map some := rfl
theorem j_q : [0, 1, 2, 3, 4, 5, 6, 7, 8, 9, 10, 11, 12, 13, 14, 15, 16, 17, 18, 19, 20].map (fun i => (mw h cI cZ sl mi n Y th ss ds cy ++ (cw g cI cZ sl mi n X cy ss ds fs ++ [(qo, .inl (cL, 1, .inr (.inl f)))]) : va_W)[i]?) = (mw h cI cZ sl mi n Y th ss ds cy : va_W).map some := rfl
theorem j_qr : [21, 22, 23, 24, 25, 26, 27, 28, 29, 30, 31, 32, 33, 34, 35, 36, 37, 38, 39, 40, 41, 42, 43, 44, 45, 46].map (fun i => (mw h cI cZ sl mi n Y th ss ds cy ++ (cw g cI cZ sl mi n X cy ss ds fs ++ [(qo, .inl (cL, 1, .inr (.inl f)))]) : va_W)[i]?) = (cw g cI cZ sl mi n X cy ss ds fs ++ [(qo, .inl (cL, 1, .inr (.inl f)))] : va_W).map some := rfl
theorem j_t : [26, 27, 28, 29, 30, 31, 32, 33, 34, 35, 36, 37, 38, 39, 40, 41, 42, 43, 44, 45, 46].map (fun i => ((cw g cI cZ sl mi n X cy ss ds fs ++ [(qo, .inl (cL, 1, .inr (.inl f)))]) ++ mw h cI cZ sl mi n Y th ss ds cy : va_W)[i]?) = (mw h cI cZ sl mi n Y th ss ds cy : va_W).map some := rfl
end LAWJ
set_option maxHeartbeats 4000000 in
set_option maxRecDepth 100000 in
theorem law_c0 {p : Program} {l : Launch} {e : Env} {s : State} {m : MethodId} {below : List Frame} {meth : Method} {c : Code} {b L : Nat} {xs : Nat → Int32} {D : va_G} {cI cZ cL : ClassId} {g h : Nat → Nat} {sl mi n : Nat} {Q : State → Prop} (C0 : LC l p s m meth c b L xs D cI cZ cL) (hL : L ≤ 3075) (B : LB sl mi n) {X Y : NN} {cy ss ds fs th qo i cells slots : Nat} {f : Nat → Int64} {H : Heap} {locs : List Loc} {ls : Array Slot} (hi : i + 6 ≤ L) (hR : Rel sl n X Y cy ss ds fs) (hcy : cy < 900000) (hP : va_P D vwCl (wz g h cI cZ cL sl mi n X cy ss ds fs Y th qo f) H) (hD : va_D (fun q : Nat => s.heap.size ≤ q) (wz g h cI cZ cL sl mi n X cy ss ds fs Y th qo f)) (hS : va_S (fun q : Nat => s.heap.size ≤ q) s.heap H locs) (hl : lv_has ls 7 (LV b g h qo i)) (hcl : cells + 1 ≤ 603072) (hsl0 : slots + 6 ≤ 7190184)
    (kk : ∀ (X' Y' : NN) (cy' ss' ds' fs' th' : Nat) (f' : Nat → Int64) (H' : Heap) (locs' : List Loc) (ls' : Array Slot), Rel sl n X' Y' cy' ss' ds' fs' → cy' ≤ cy + 500 → va_P D vwCl (wz g h cI cZ cL sl mi n X' cy' ss' ds' fs' Y' th' qo f') H' → va_D (fun q : Nat => s.heap.size ≤ q) (wz g h cI cZ cL sl mi n X' cy' ss' ds' fs' Y' th' qo f') → va_S (fun q : Nat => s.heap.size ≤ q) s.heap H' locs' → lv_has ls' 7 (LV b g h qo i) → W p l e room_1 s m #[Value.ref b] below meth c H' locs' (cells + 1) (slots + 6) Q (F0 m 599 ls' [])) :
    W p l e room_1 s m #[Value.ref b] below meth c H locs cells slots Q (F0 m 132 ls []) := by
  obtain ⟨C, hK, hN, hX, hbl, hZ, hst⟩ := C0
  obtain ⟨hn, hs1, hsl, hmi⟩ := B
  obtain ⟨hx, hb, hml, hown, hts, hr9, hlk9⟩ := id C
  have hA : ∀ q : Nat, s.heap.size ≤ q → (fun q : Nat => s.heap.size ≤ q) q := fun _ h => h
  have hbA : ¬ (fun q : Nat => s.heap.size ≤ q) b := Nat.not_le.mpr hbl
  have hss : ss ≤ 100 := hR.2.2.2.2.2.1
  have hds : ds ≤ 100 := hR.2.2.2.2.2.2
  refine lv_aload_n hx hb dL_law_132 rfl (lv_at hl 1 rfl) ?_
  refine lv_aload_n hx hb dL_law_133 rfl (lv_at hl 0 rfl) ?_
  refine lv_iload hx hb dL_law_134 (lv_at hl 4 rfl) ?_
  refine lv_iconst (v := 1) hx hb dL_law_136 (by decide) ?_
  refine lv_iadd hx hb dL_law_137 ?_
  refine k_sld hx hb hX hbl hbA hS (i + 1) (nI_add i 1) (by omega) (by omega) dL_law_138 ?_
  refine lv_aload_n hx hb dL_law_139 rfl (lv_at hl 0 rfl) ?_
  refine lv_iload hx hb dL_law_140 (lv_at hl 4 rfl) ?_
  refine lv_iconst (v := 2) hx hb dL_law_142 (by decide) ?_
  refine lv_iadd hx hb dL_law_143 ?_
  refine k_sld hx hb hX hbl hbA hS (i + 2) (nI_add i 2) (by omega) (by omega) dL_law_144 ?_
  refine lv_aload_n hx hb dL_law_145 rfl (lv_at hl 0 rfl) ?_
  refine lv_iload hx hb dL_law_146 (lv_at hl 4 rfl) ?_
  refine lv_iconst (v := 3) hx hb dL_law_148 (by decide) ?_
  refine lv_iadd hx hb dL_law_149 ?_
  refine k_sld hx hb hX hbl hbA hS (i + 3) (nI_add i 3) (by omega) (by omega) dL_law_150 ?_
  refine lv_aload_n hx hb dL_law_151 rfl (lv_at hl 0 rfl) ?_
  refine lv_iload hx hb dL_law_152 (lv_at hl 4 rfl) ?_
  refine lv_iconst (v := 4) hx hb dL_law_154 (by decide) ?_
  refine lv_iadd hx hb dL_law_155 ?_
  refine k_sld hx hb hX hbl hbA hS (i + 4) (nI_add i 4) (by omega) (by omega) dL_law_156 ?_
  refine lv_aload_n hx hb dL_law_157 rfl (lv_at hl 0 rfl) ?_
  refine lv_iload hx hb dL_law_158 (lv_at hl 4 rfl) ?_
  refine lv_iconst (v := 5) hx hb dL_law_160 (by decide) ?_
  refine lv_iadd hx hb dL_law_161 ?_
  refine k_sld hx hb hX hbl hbA hS (i + 5) (nI_add i 5) (by omega) (by omega) dL_law_162 ?_
  refine k_callIJ (D := D) (wr := mw h cI cZ sl mi n Y th ss ds cy ++ [(qo, .inl (cL, 1, .inr (.inl f)))]) C hK hN hP hD hS hA (c_X4_frame hn hs1 hsl hss (xs (i + 1)) (xs (i + 2)) (xs (i + 3)) (xs (i + 4)) (xs (i + 5))) hl cf_yX4_frame wM_L_27 [0, 1, 2, 3, 4, 5, 6, 7, 8, 9, 10, 11, 12, 13, 14, 15, 16, 17, 18, 19, 20, 21, 22, 23, 24] [25, 26, 27, 28, 29, 30, 31, 32, 33, 34, 35, 36, 37, 38, 39, 40, 41, 42, 43, 44, 45, 46] j_c j_cr (by decide) (by decide) (by decide) 0 6 rfl rfl rfl rfl (Nat.le_of_ble_eq_true rfl) ⟨by decide, by decide⟩ ⟨by show cells ≤ 603072; omega, by show slots ≤ 7190184; omega⟩ dL_law_163 (fun r u H locs hr hP hD hS => ?_)
  refine lv_aload_n hx hb dL_law_166 rfl (lv_at hl 2 rfl) ?_
  refine lv_aload_n hx hb dL_law_167 rfl (lv_at hl 0 rfl) ?_
  refine lv_iload hx hb dL_law_168 (lv_at hl 4 rfl) ?_
  refine lv_iconst (v := 1) hx hb dL_law_170 (by decide) ?_
  refine lv_iadd hx hb dL_law_171 ?_
  refine k_sld hx hb hX hbl hbA hS (i + 1) (nI_add i 1) (by omega) (by omega) dL_law_172 ?_
  refine lv_aload_n hx hb dL_law_173 rfl (lv_at hl 0 rfl) ?_
  refine lv_iload hx hb dL_law_174 (lv_at hl 4 rfl) ?_
  refine lv_iconst (v := 2) hx hb dL_law_176 (by decide) ?_
  refine lv_iadd hx hb dL_law_177 ?_
  refine k_sld hx hb hX hbl hbA hS (i + 2) (nI_add i 2) (by omega) (by omega) dL_law_178 ?_
  refine lv_aload_n hx hb dL_law_179 rfl (lv_at hl 0 rfl) ?_
  refine lv_iload hx hb dL_law_180 (lv_at hl 4 rfl) ?_
  refine lv_iconst (v := 3) hx hb dL_law_182 (by decide) ?_
  refine lv_iadd hx hb dL_law_183 ?_
  refine k_sld hx hb hX hbl hbA hS (i + 3) (nI_add i 3) (by omega) (by omega) dL_law_184 ?_
  refine lv_aload_n hx hb dL_law_185 rfl (lv_at hl 0 rfl) ?_
  refine lv_iload hx hb dL_law_186 (lv_at hl 4 rfl) ?_
  refine lv_iconst (v := 4) hx hb dL_law_188 (by decide) ?_
  refine lv_iadd hx hb dL_law_189 ?_
  refine k_sld hx hb hX hbl hbA hS (i + 4) (nI_add i 4) (by omega) (by omega) dL_law_190 ?_
  refine lv_aload_n hx hb dL_law_191 rfl (lv_at hl 0 rfl) ?_
  refine lv_iload hx hb dL_law_192 (lv_at hl 4 rfl) ?_
  refine lv_iconst (v := 5) hx hb dL_law_194 (by decide) ?_
  refine lv_iadd hx hb dL_law_195 ?_
  refine k_sld hx hb hX hbl hbA hS (i + 5) (nI_add i 5) (by omega) (by omega) dL_law_196 ?_
  refine k_callIJ (D := D) (wr := [(qo, .inl (cL, 1, .inr (.inl f)))] ++ cw g cI cZ sl mi n u.1 cy u.2 ds fs) C hK hN hP hD hS hA (c_X5_frame hn hs1 hsl hss (Rel_ev hR) (xs (i + 1)) (xs (i + 2)) (xs (i + 3)) (xs (i + 4)) (xs (i + 5))) hl cf_yX5_frame wM_L_31 [0, 1, 2, 3, 4, 5, 6, 7, 8, 9, 10, 11, 12, 13, 14, 15, 16, 17, 18, 19, 20] [21, 22, 23, 24, 25, 26, 27, 28, 29, 30, 31, 32, 33, 34, 35, 36, 37, 38, 39, 40, 41, 42, 43, 44, 45, 46] j_m j_mr (by decide) (by decide) (by decide) 0 7 rfl rfl rfl rfl (Nat.le_of_ble_eq_true rfl) ⟨by decide, by decide⟩ ⟨by show cells ≤ 603072; omega, by show slots ≤ 7190184; omega⟩ dL_law_197 (fun r' u' H locs hr' hP hD hS => ?_)
  obtain ⟨e1, e2, hR2⟩ := frame_call hR hr hr' hs1
  rw [e2] at hP hD
  refine lv_icmp_eq (tgt := 599) hx hb dL_law_200 (by decide) (fun c1 => ?_) (fun c1 => absurd e1 c1)
  refine W.widen (k := cells + 1) (n := slots + 6) (by omega) (by omega) ?_
  exact kk u.1 u'.1 cy u.2 ds fs 0 f _ _ _ hR2 (by omega) (hP.sub [1, 2, 3, 4, 5, 6, 7, 8, 9, 10, 11, 12, 13, 14, 15, 16, 17, 18, 19, 20, 21, 22, 23, 24, 25, 26, 27, 28, 29, 30, 31, 32, 33, 34, 35, 36, 37, 38, 39, 40, 41, 42, 43, 44, 45, 46, 0] (k_fm j_z)) (hD.sub [1, 2, 3, 4, 5, 6, 7, 8, 9, 10, 11, 12, 13, 14, 15, 16, 17, 18, 19, 20, 21, 22, 23, 24, 25, 26, 27, 28, 29, 30, 31, 32, 33, 34, 35, 36, 37, 38, 39, 40, 41, 42, 43, 44, 45, 46, 0] (by decide) j_z) hS hl

set_option maxHeartbeats 4000000 in
set_option maxRecDepth 100000 in
theorem law_c1 {p : Program} {l : Launch} {e : Env} {s : State} {m : MethodId} {below : List Frame} {meth : Method} {c : Code} {b L : Nat} {xs : Nat → Int32} {D : va_G} {cI cZ cL : ClassId} {g h : Nat → Nat} {sl mi n : Nat} {Q : State → Prop} (C0 : LC l p s m meth c b L xs D cI cZ cL) (hL : L ≤ 3075) (B : LB sl mi n) {X Y : NN} {cy ss ds fs th qo i cells slots : Nat} {f : Nat → Int64} {H : Heap} {locs : List Loc} {ls : Array Slot} (hi : i + 6 ≤ L) (hR : Rel sl n X Y cy ss ds fs) (hcy : cy < 900000) (hP : va_P D vwCl (wz g h cI cZ cL sl mi n X cy ss ds fs Y th qo f) H) (hD : va_D (fun q : Nat => s.heap.size ≤ q) (wz g h cI cZ cL sl mi n X cy ss ds fs Y th qo f)) (hS : va_S (fun q : Nat => s.heap.size ≤ q) s.heap H locs) (hl : lv_has ls 7 (LV b g h qo i)) (hcl : cells + 1 ≤ 603072) (hsl0 : slots + 6 ≤ 7190184)
    (kk : ∀ (X' Y' : NN) (cy' ss' ds' fs' th' : Nat) (f' : Nat → Int64) (H' : Heap) (locs' : List Loc) (ls' : Array Slot), Rel sl n X' Y' cy' ss' ds' fs' → cy' ≤ cy + 500 → va_P D vwCl (wz g h cI cZ cL sl mi n X' cy' ss' ds' fs' Y' th' qo f') H' → va_D (fun q : Nat => s.heap.size ≤ q) (wz g h cI cZ cL sl mi n X' cy' ss' ds' fs' Y' th' qo f') → va_S (fun q : Nat => s.heap.size ≤ q) s.heap H' locs' → lv_has ls' 7 (LV b g h qo i) → W p l e room_1 s m #[Value.ref b] below meth c H' locs' (cells + 1) (slots + 6) Q (F0 m 599 ls' [])) :
    W p l e room_1 s m #[Value.ref b] below meth c H locs cells slots Q (F0 m 205 ls []) := by
  obtain ⟨C, hK, hN, hX, hbl, hZ, hst⟩ := C0
  obtain ⟨hn, hs1, hsl, hmi⟩ := B
  obtain ⟨hx, hb, hml, hown, hts, hr9, hlk9⟩ := id C
  have hA : ∀ q : Nat, s.heap.size ≤ q → (fun q : Nat => s.heap.size ≤ q) q := fun _ h => h
  have hbA : ¬ (fun q : Nat => s.heap.size ≤ q) b := Nat.not_le.mpr hbl
  have hss : ss ≤ 100 := hR.2.2.2.2.2.1
  have hds : ds ≤ 100 := hR.2.2.2.2.2.2
  refine lv_aload_n hx hb dL_law_205 rfl (lv_at hl 1 rfl) ?_
  refine lv_aload_n hx hb dL_law_206 rfl (lv_at hl 0 rfl) ?_
  refine lv_iload hx hb dL_law_207 (lv_at hl 4 rfl) ?_
  refine lv_iconst (v := 1) hx hb dL_law_209 (by decide) ?_
  refine lv_iadd hx hb dL_law_210 ?_
  refine k_sld hx hb hX hbl hbA hS (i + 1) (nI_add i 1) (by omega) (by omega) dL_law_211 ?_
  refine lv_aload_n hx hb dL_law_212 rfl (lv_at hl 0 rfl) ?_
  refine lv_iload hx hb dL_law_213 (lv_at hl 4 rfl) ?_
  refine lv_iconst (v := 2) hx hb dL_law_215 (by decide) ?_
  refine lv_iadd hx hb dL_law_216 ?_
  refine k_sld hx hb hX hbl hbA hS (i + 2) (nI_add i 2) (by omega) (by omega) dL_law_217 ?_
  refine lv_aload_n hx hb dL_law_218 rfl (lv_at hl 0 rfl) ?_
  refine lv_iload hx hb dL_law_219 (lv_at hl 4 rfl) ?_
  refine lv_iconst (v := 3) hx hb dL_law_221 (by decide) ?_
  refine lv_iadd hx hb dL_law_222 ?_
  refine k_sld hx hb hX hbl hbA hS (i + 3) (nI_add i 3) (by omega) (by omega) dL_law_223 ?_
  refine k_callIJ (D := D) (wr := mw h cI cZ sl mi n Y th ss ds cy ++ [(qo, .inl (cL, 1, .inr (.inl f)))]) C hK hN hP hD hS hA (c_X4_dynamic hn hds (xs (i + 1)) (xs (i + 2)) (xs (i + 3))) hl cf_yX4_dynamic wM_L_32 [0, 1, 2, 3, 4, 5, 6, 7, 8, 9, 10, 11, 12, 13, 14, 15, 16, 17, 18, 19, 20, 21, 22, 23, 24] [25, 26, 27, 28, 29, 30, 31, 32, 33, 34, 35, 36, 37, 38, 39, 40, 41, 42, 43, 44, 45, 46] j_c j_cr (by decide) (by decide) (by decide) 0 6 rfl rfl rfl rfl (Nat.le_of_ble_eq_true rfl) ⟨by decide, by decide⟩ ⟨by show cells ≤ 603072; omega, by show slots ≤ 7190184; omega⟩ dL_law_224 (fun r u H locs hr hP hD hS => ?_)
  refine lv_aload_n hx hb dL_law_227 rfl (lv_at hl 2 rfl) ?_
  refine lv_aload_n hx hb dL_law_228 rfl (lv_at hl 0 rfl) ?_
  refine lv_iload hx hb dL_law_229 (lv_at hl 4 rfl) ?_
  refine lv_iconst (v := 1) hx hb dL_law_231 (by decide) ?_
  refine lv_iadd hx hb dL_law_232 ?_
  refine k_sld hx hb hX hbl hbA hS (i + 1) (nI_add i 1) (by omega) (by omega) dL_law_233 ?_
  refine lv_aload_n hx hb dL_law_234 rfl (lv_at hl 0 rfl) ?_
  refine lv_iload hx hb dL_law_235 (lv_at hl 4 rfl) ?_
  refine lv_iconst (v := 2) hx hb dL_law_237 (by decide) ?_
  refine lv_iadd hx hb dL_law_238 ?_
  refine k_sld hx hb hX hbl hbA hS (i + 2) (nI_add i 2) (by omega) (by omega) dL_law_239 ?_
  refine lv_aload_n hx hb dL_law_240 rfl (lv_at hl 0 rfl) ?_
  refine lv_iload hx hb dL_law_241 (lv_at hl 4 rfl) ?_
  refine lv_iconst (v := 3) hx hb dL_law_243 (by decide) ?_
  refine lv_iadd hx hb dL_law_244 ?_
  refine k_sld hx hb hX hbl hbA hS (i + 3) (nI_add i 3) (by omega) (by omega) dL_law_245 ?_
  refine k_callIJ (D := D) (wr := [(qo, .inl (cL, 1, .inr (.inl f)))] ++ cw g cI cZ sl mi n u.1 cy ss u.2 fs) C hK hN hP hD hS hA (c_X5_dynamic hn hds (xs (i + 1)) (xs (i + 2)) (xs (i + 3))) hl cf_yX5_dynamic wM_L_36 [0, 1, 2, 3, 4, 5, 6, 7, 8, 9, 10, 11, 12, 13, 14, 15, 16, 17, 18, 19, 20] [21, 22, 23, 24, 25, 26, 27, 28, 29, 30, 31, 32, 33, 34, 35, 36, 37, 38, 39, 40, 41, 42, 43, 44, 45, 46] j_m j_mr (by decide) (by decide) (by decide) 0 7 rfl rfl rfl rfl (Nat.le_of_ble_eq_true rfl) ⟨by decide, by decide⟩ ⟨by show cells ≤ 603072; omega, by show slots ≤ 7190184; omega⟩ dL_law_246 (fun r' u' H locs hr' hP hD hS => ?_)
  obtain ⟨e1, e2, hR2⟩ := dynamic_call hR hr hr'
  rw [e2] at hP hD
  refine lv_icmp_eq (tgt := 599) hx hb dL_law_249 (by decide) (fun c1 => ?_) (fun c1 => absurd e1 c1)
  refine W.widen (k := cells + 1) (n := slots + 6) (by omega) (by omega) ?_
  exact kk u.1 u'.1 cy ss u.2 fs 0 f _ _ _ hR2 (by omega) (hP.sub [1, 2, 3, 4, 5, 6, 7, 8, 9, 10, 11, 12, 13, 14, 15, 16, 17, 18, 19, 20, 21, 22, 23, 24, 25, 26, 27, 28, 29, 30, 31, 32, 33, 34, 35, 36, 37, 38, 39, 40, 41, 42, 43, 44, 45, 46, 0] (k_fm j_z)) (hD.sub [1, 2, 3, 4, 5, 6, 7, 8, 9, 10, 11, 12, 13, 14, 15, 16, 17, 18, 19, 20, 21, 22, 23, 24, 25, 26, 27, 28, 29, 30, 31, 32, 33, 34, 35, 36, 37, 38, 39, 40, 41, 42, 43, 44, 45, 46, 0] (by decide) j_z) hS hl

set_option maxHeartbeats 4000000 in
set_option maxRecDepth 100000 in
theorem law_c2 {p : Program} {l : Launch} {e : Env} {s : State} {m : MethodId} {below : List Frame} {meth : Method} {c : Code} {b L : Nat} {xs : Nat → Int32} {D : va_G} {cI cZ cL : ClassId} {g h : Nat → Nat} {sl mi n : Nat} {Q : State → Prop} (C0 : LC l p s m meth c b L xs D cI cZ cL) (hL : L ≤ 3075) (B : LB sl mi n) {X Y : NN} {cy ss ds fs th qo i cells slots : Nat} {f : Nat → Int64} {H : Heap} {locs : List Loc} {ls : Array Slot} (hi : i + 6 ≤ L) (hR : Rel sl n X Y cy ss ds fs) (hcy : cy < 900000) (hP : va_P D vwCl (wz g h cI cZ cL sl mi n X cy ss ds fs Y th qo f) H) (hD : va_D (fun q : Nat => s.heap.size ≤ q) (wz g h cI cZ cL sl mi n X cy ss ds fs Y th qo f)) (hS : va_S (fun q : Nat => s.heap.size ≤ q) s.heap H locs) (hl : lv_has ls 7 (LV b g h qo i)) (hcl : cells + 1 ≤ 603072) (hsl0 : slots + 6 ≤ 7190184)
    (kk : ∀ (X' Y' : NN) (cy' ss' ds' fs' th' : Nat) (f' : Nat → Int64) (H' : Heap) (locs' : List Loc) (ls' : Array Slot), Rel sl n X' Y' cy' ss' ds' fs' → cy' ≤ cy + 500 → va_P D vwCl (wz g h cI cZ cL sl mi n X' cy' ss' ds' fs' Y' th' qo f') H' → va_D (fun q : Nat => s.heap.size ≤ q) (wz g h cI cZ cL sl mi n X' cy' ss' ds' fs' Y' th' qo f') → va_S (fun q : Nat => s.heap.size ≤ q) s.heap H' locs' → lv_has ls' 7 (LV b g h qo i) → W p l e room_1 s m #[Value.ref b] below meth c H' locs' (cells + 1) (slots + 6) Q (F0 m 599 ls' [])) :
    W p l e room_1 s m #[Value.ref b] below meth c H locs cells slots Q (F0 m 254 ls []) := by
  obtain ⟨C, hK, hN, hX, hbl, hZ, hst⟩ := C0
  obtain ⟨hn, hs1, hsl, hmi⟩ := B
  obtain ⟨hx, hb, hml, hown, hts, hr9, hlk9⟩ := id C
  have hA : ∀ q : Nat, s.heap.size ≤ q → (fun q : Nat => s.heap.size ≤ q) q := fun _ h => h
  have hbA : ¬ (fun q : Nat => s.heap.size ≤ q) b := Nat.not_le.mpr hbl
  have hss : ss ≤ 100 := hR.2.2.2.2.2.1
  have hds : ds ≤ 100 := hR.2.2.2.2.2.2
  refine lv_aload_n hx hb dL_law_254 rfl (lv_at hl 1 rfl) ?_
  refine lv_aload_n hx hb dL_law_255 rfl (lv_at hl 0 rfl) ?_
  refine lv_iload hx hb dL_law_256 (lv_at hl 4 rfl) ?_
  refine lv_iconst (v := 1) hx hb dL_law_258 (by decide) ?_
  refine lv_iadd hx hb dL_law_259 ?_
  refine k_sld hx hb hX hbl hbA hS (i + 1) (nI_add i 1) (by omega) (by omega) dL_law_260 ?_
  refine lv_aload_n hx hb dL_law_261 rfl (lv_at hl 0 rfl) ?_
  refine lv_iload hx hb dL_law_262 (lv_at hl 4 rfl) ?_
  refine lv_iconst (v := 2) hx hb dL_law_264 (by decide) ?_
  refine lv_iadd hx hb dL_law_265 ?_
  refine k_sld hx hb hX hbl hbA hS (i + 2) (nI_add i 2) (by omega) (by omega) dL_law_266 ?_
  refine k_callIJ (D := D) (wr := mw h cI cZ sl mi n Y th ss ds cy ++ [(qo, .inl (cL, 1, .inr (.inl f)))]) C hK hN hP hD hS hA (c_X4_drift hn (xs (i + 1)) (xs (i + 2))) hl cf_yX4_drift wM_L_37 [0, 1, 2, 3, 4, 5, 6, 7, 8, 9, 10, 11, 12, 13, 14, 15, 16, 17, 18, 19, 20, 21, 22, 23, 24] [25, 26, 27, 28, 29, 30, 31, 32, 33, 34, 35, 36, 37, 38, 39, 40, 41, 42, 43, 44, 45, 46] j_c j_cr (by decide) (by decide) (by decide) 0 6 rfl rfl rfl rfl (Nat.le_of_ble_eq_true rfl) ⟨by decide, by decide⟩ ⟨by show cells ≤ 603072; omega, by show slots ≤ 7190184; omega⟩ dL_law_267 (fun r u H locs hr hP hD hS => ?_)
  refine lv_aload_n hx hb dL_law_270 rfl (lv_at hl 2 rfl) ?_
  refine lv_aload_n hx hb dL_law_271 rfl (lv_at hl 0 rfl) ?_
  refine lv_iload hx hb dL_law_272 (lv_at hl 4 rfl) ?_
  refine lv_iconst (v := 1) hx hb dL_law_274 (by decide) ?_
  refine lv_iadd hx hb dL_law_275 ?_
  refine k_sld hx hb hX hbl hbA hS (i + 1) (nI_add i 1) (by omega) (by omega) dL_law_276 ?_
  refine lv_aload_n hx hb dL_law_277 rfl (lv_at hl 0 rfl) ?_
  refine lv_iload hx hb dL_law_278 (lv_at hl 4 rfl) ?_
  refine lv_iconst (v := 2) hx hb dL_law_280 (by decide) ?_
  refine lv_iadd hx hb dL_law_281 ?_
  refine k_sld hx hb hX hbl hbA hS (i + 2) (nI_add i 2) (by omega) (by omega) dL_law_282 ?_
  refine k_callIJ (D := D) (wr := [(qo, .inl (cL, 1, .inr (.inl f)))] ++ cw g cI cZ sl mi n u cy ss ds fs) C hK hN hP hD hS hA (c_X5_drift hn (xs (i + 1)) (xs (i + 2))) hl cf_yX5_drift wM_L_40 [0, 1, 2, 3, 4, 5, 6, 7, 8, 9, 10, 11, 12, 13, 14, 15, 16, 17, 18, 19, 20] [21, 22, 23, 24, 25, 26, 27, 28, 29, 30, 31, 32, 33, 34, 35, 36, 37, 38, 39, 40, 41, 42, 43, 44, 45, 46] j_m j_mr (by decide) (by decide) (by decide) 0 7 rfl rfl rfl rfl (Nat.le_of_ble_eq_true rfl) ⟨by decide, by decide⟩ ⟨by show cells ≤ 603072; omega, by show slots ≤ 7190184; omega⟩ dL_law_283 (fun r' u' H locs hr' hP hD hS => ?_)
  obtain ⟨e1, hR2⟩ := drift_call hR hn hr hr'
  refine lv_icmp_eq (tgt := 599) hx hb dL_law_286 (by decide) (fun c1 => ?_) (fun c1 => absurd e1 c1)
  refine W.widen (k := cells + 1) (n := slots + 6) (by omega) (by omega) ?_
  exact kk u u' cy ss ds fs 0 f _ _ _ hR2 (by omega) (hP.sub [1, 2, 3, 4, 5, 6, 7, 8, 9, 10, 11, 12, 13, 14, 15, 16, 17, 18, 19, 20, 21, 22, 23, 24, 25, 26, 27, 28, 29, 30, 31, 32, 33, 34, 35, 36, 37, 38, 39, 40, 41, 42, 43, 44, 45, 46, 0] (k_fm j_z)) (hD.sub [1, 2, 3, 4, 5, 6, 7, 8, 9, 10, 11, 12, 13, 14, 15, 16, 17, 18, 19, 20, 21, 22, 23, 24, 25, 26, 27, 28, 29, 30, 31, 32, 33, 34, 35, 36, 37, 38, 39, 40, 41, 42, 43, 44, 45, 46, 0] (by decide) j_z) hS hl

set_option maxHeartbeats 4000000 in
set_option maxRecDepth 100000 in
theorem law_c3 {p : Program} {l : Launch} {e : Env} {s : State} {m : MethodId} {below : List Frame} {meth : Method} {c : Code} {b L : Nat} {xs : Nat → Int32} {D : va_G} {cI cZ cL : ClassId} {g h : Nat → Nat} {sl mi n : Nat} {Q : State → Prop} (C0 : LC l p s m meth c b L xs D cI cZ cL) (hL : L ≤ 3075) (B : LB sl mi n) {X Y : NN} {cy ss ds fs th qo i cells slots : Nat} {f : Nat → Int64} {H : Heap} {locs : List Loc} {ls : Array Slot} (hi : i + 6 ≤ L) (hR : Rel sl n X Y cy ss ds fs) (hcy : cy < 900000) (hP : va_P D vwCl (wz g h cI cZ cL sl mi n X cy ss ds fs Y th qo f) H) (hD : va_D (fun q : Nat => s.heap.size ≤ q) (wz g h cI cZ cL sl mi n X cy ss ds fs Y th qo f)) (hS : va_S (fun q : Nat => s.heap.size ≤ q) s.heap H locs) (hl : lv_has ls 7 (LV b g h qo i)) (hcl : cells + 1 ≤ 603072) (hsl0 : slots + 6 ≤ 7190184)
    (kk : ∀ (X' Y' : NN) (cy' ss' ds' fs' th' : Nat) (f' : Nat → Int64) (H' : Heap) (locs' : List Loc) (ls' : Array Slot), Rel sl n X' Y' cy' ss' ds' fs' → cy' ≤ cy + 500 → va_P D vwCl (wz g h cI cZ cL sl mi n X' cy' ss' ds' fs' Y' th' qo f') H' → va_D (fun q : Nat => s.heap.size ≤ q) (wz g h cI cZ cL sl mi n X' cy' ss' ds' fs' Y' th' qo f') → va_S (fun q : Nat => s.heap.size ≤ q) s.heap H' locs' → lv_has ls' 7 (LV b g h qo i) → W p l e room_1 s m #[Value.ref b] below meth c H' locs' (cells + 1) (slots + 6) Q (F0 m 599 ls' [])) :
    W p l e room_1 s m #[Value.ref b] below meth c H locs cells slots Q (F0 m 291 ls []) := by
  obtain ⟨C, hK, hN, hX, hbl, hZ, hst⟩ := C0
  obtain ⟨hn, hs1, hsl, hmi⟩ := B
  obtain ⟨hx, hb, hml, hown, hts, hr9, hlk9⟩ := id C
  have hA : ∀ q : Nat, s.heap.size ≤ q → (fun q : Nat => s.heap.size ≤ q) q := fun _ h => h
  have hbA : ¬ (fun q : Nat => s.heap.size ≤ q) b := Nat.not_le.mpr hbl
  have hss : ss ≤ 100 := hR.2.2.2.2.2.1
  have hds : ds ≤ 100 := hR.2.2.2.2.2.2
  refine lv_aload_n hx hb dL_law_291 rfl (lv_at hl 1 rfl) ?_
  refine lv_aload_n hx hb dL_law_292 rfl (lv_at hl 0 rfl) ?_
  refine lv_iload hx hb dL_law_293 (lv_at hl 4 rfl) ?_
  refine lv_iconst (v := 1) hx hb dL_law_295 (by decide) ?_
  refine lv_iadd hx hb dL_law_296 ?_
  refine k_sld hx hb hX hbl hbA hS (i + 1) (nI_add i 1) (by omega) (by omega) dL_law_297 ?_
  refine k_callIJ (D := D) (wr := mw h cI cZ sl mi n Y th ss ds cy ++ [(qo, .inl (cL, 1, .inr (.inl f)))]) C hK hN hP hD hS hA (c_X4_run hn hss hsl hds hmi (Rel_FrI hR) hR.2.2.2.1.2.1 (xs (i + 1))) hl cf_yX4_run wM_L_41 [0, 1, 2, 3, 4, 5, 6, 7, 8, 9, 10, 11, 12, 13, 14, 15, 16, 17, 18, 19, 20, 21, 22, 23, 24] [25, 26, 27, 28, 29, 30, 31, 32, 33, 34, 35, 36, 37, 38, 39, 40, 41, 42, 43, 44, 45, 46] j_c j_cr (by decide) (by decide) (by decide) 0 6 rfl rfl rfl rfl (Nat.le_of_ble_eq_true rfl) ⟨by decide, by decide⟩ ⟨by show cells ≤ 603072; omega, by show slots ≤ 7190184; omega⟩ dL_law_298 (fun r u H locs hr hP hD hS => ?_)
  refine lv_aload_n hx hb dL_law_301 rfl (lv_at hl 2 rfl) ?_
  refine lv_aload_n hx hb dL_law_302 rfl (lv_at hl 0 rfl) ?_
  refine lv_iload hx hb dL_law_303 (lv_at hl 4 rfl) ?_
  refine lv_iconst (v := 1) hx hb dL_law_305 (by decide) ?_
  refine lv_iadd hx hb dL_law_306 ?_
  refine k_sld hx hb hX hbl hbA hS (i + 1) (nI_add i 1) (by omega) (by omega) dL_law_307 ?_
  refine k_callIJ (D := D) (wr := [(qo, .inl (cL, 1, .inr (.inl f)))] ++ cw g cI cZ sl mi n u.1 u.2.1 ss u.2.2.1 u.2.2.2) C hK hN hP hD hS hA (c_X5_run hn hss hsl hds hmi (Rel_FrI' hR) (Rel_ev hR) hR.2.2.2.1.2.2 (Rel_ra hR) (xs (i + 1))) hl cf_yX5_run wM_L_45 [0, 1, 2, 3, 4, 5, 6, 7, 8, 9, 10, 11, 12, 13, 14, 15, 16, 17, 18, 19, 20] [21, 22, 23, 24, 25, 26, 27, 28, 29, 30, 31, 32, 33, 34, 35, 36, 37, 38, 39, 40, 41, 42, 43, 44, 45, 46] j_m j_mr (by decide) (by decide) (by decide) 0 7 rfl rfl rfl rfl (Nat.le_of_ble_eq_true rfl) ⟨by decide, by decide⟩ ⟨by show cells ≤ 603072; omega, by show slots ≤ 7190184; omega⟩ dL_law_308 (fun r' u' H locs hr' hP hD hS => ?_)
  obtain ⟨e1, e2, e3, e4, hR2⟩ := run_call hR hn hsl (by omega) hr hr'
  rw [e3, e4] at hP hD
  refine lv_icmp_eq (tgt := 599) hx hb dL_law_311 (by decide) (fun c1 => ?_) (fun c1 => absurd e1 c1)
  refine W.widen (k := cells + 1) (n := slots + 6) (by omega) (by omega) ?_
  exact kk u.1 u'.1 u.2.1 ss u.2.2.1 u.2.2.2 0 f _ _ _ hR2 e2 (hP.sub [1, 2, 3, 4, 5, 6, 7, 8, 9, 10, 11, 12, 13, 14, 15, 16, 17, 18, 19, 20, 21, 22, 23, 24, 25, 26, 27, 28, 29, 30, 31, 32, 33, 34, 35, 36, 37, 38, 39, 40, 41, 42, 43, 44, 45, 46, 0] (k_fm j_z)) (hD.sub [1, 2, 3, 4, 5, 6, 7, 8, 9, 10, 11, 12, 13, 14, 15, 16, 17, 18, 19, 20, 21, 22, 23, 24, 25, 26, 27, 28, 29, 30, 31, 32, 33, 34, 35, 36, 37, 38, 39, 40, 41, 42, 43, 44, 45, 46, 0] (by decide) j_z) hS hl

set_option maxHeartbeats 4000000 in
set_option maxRecDepth 100000 in
theorem law_c4 {p : Program} {l : Launch} {e : Env} {s : State} {m : MethodId} {below : List Frame} {meth : Method} {c : Code} {b L : Nat} {xs : Nat → Int32} {D : va_G} {cI cZ cL : ClassId} {g h : Nat → Nat} {sl mi n : Nat} {Q : State → Prop} (C0 : LC l p s m meth c b L xs D cI cZ cL) (hL : L ≤ 3075) (B : LB sl mi n) {X Y : NN} {cy ss ds fs th qo i cells slots : Nat} {f : Nat → Int64} {H : Heap} {locs : List Loc} {ls : Array Slot} (hi : i + 6 ≤ L) (hR : Rel sl n X Y cy ss ds fs) (hcy : cy < 900000) (hP : va_P D vwCl (wz g h cI cZ cL sl mi n X cy ss ds fs Y th qo f) H) (hD : va_D (fun q : Nat => s.heap.size ≤ q) (wz g h cI cZ cL sl mi n X cy ss ds fs Y th qo f)) (hS : va_S (fun q : Nat => s.heap.size ≤ q) s.heap H locs) (hl : lv_has ls 7 (LV b g h qo i)) (hcl : cells + 1 ≤ 603072) (hsl0 : slots + 6 ≤ 7190184)
    (kk : ∀ (X' Y' : NN) (cy' ss' ds' fs' th' : Nat) (f' : Nat → Int64) (H' : Heap) (locs' : List Loc) (ls' : Array Slot), Rel sl n X' Y' cy' ss' ds' fs' → cy' ≤ cy + 500 → va_P D vwCl (wz g h cI cZ cL sl mi n X' cy' ss' ds' fs' Y' th' qo f') H' → va_D (fun q : Nat => s.heap.size ≤ q) (wz g h cI cZ cL sl mi n X' cy' ss' ds' fs' Y' th' qo f') → va_S (fun q : Nat => s.heap.size ≤ q) s.heap H' locs' → lv_has ls' 7 (LV b g h qo i) → W p l e room_1 s m #[Value.ref b] below meth c H' locs' (cells + 1) (slots + 6) Q (F0 m 599 ls' [])) :
    W p l e room_1 s m #[Value.ref b] below meth c H locs cells slots Q (F0 m 316 ls []) := by
  obtain ⟨C, hK, hN, hX, hbl, hZ, hst⟩ := C0
  obtain ⟨hn, hs1, hsl, hmi⟩ := B
  obtain ⟨hx, hb, hml, hown, hts, hr9, hlk9⟩ := id C
  have hA : ∀ q : Nat, s.heap.size ≤ q → (fun q : Nat => s.heap.size ≤ q) q := fun _ h => h
  have hbA : ¬ (fun q : Nat => s.heap.size ≤ q) b := Nat.not_le.mpr hbl
  have hss : ss ≤ 100 := hR.2.2.2.2.2.1
  have hds : ds ≤ 100 := hR.2.2.2.2.2.2
  refine lv_aload_n hx hb dL_law_316 rfl (lv_at hl 1 rfl) ?_
  refine lv_aload_n hx hb dL_law_317 rfl (lv_at hl 0 rfl) ?_
  refine lv_iload hx hb dL_law_318 (lv_at hl 4 rfl) ?_
  refine lv_iconst (v := 1) hx hb dL_law_320 (by decide) ?_
  refine lv_iadd hx hb dL_law_321 ?_
  refine k_sld hx hb hX hbl hbA hS (i + 1) (nI_add i 1) (by omega) (by omega) dL_law_322 ?_
  refine k_callRJ (D := D) C hK hN hP hD (c_X4_state hn (xs (i + 1))) hl cf_yX4_state wM_L_46 [0, 1, 2, 3, 4, 5, 6, 7, 8, 9, 10, 11, 12, 13, 14, 15, 16, 17, 18, 19, 20, 21, 22, 23, 24] j_c (by decide) 0 6 rfl rfl rfl rfl (Nat.le_of_ble_eq_true rfl) ⟨by decide, by decide⟩ ⟨by show cells ≤ 603072; omega, by show slots ≤ 7190184; omega⟩ dL_law_323 (fun r hr => ?_)
  refine lv_aload_n hx hb dL_law_326 rfl (lv_at hl 2 rfl) ?_
  refine lv_aload_n hx hb dL_law_327 rfl (lv_at hl 0 rfl) ?_
  refine lv_iload hx hb dL_law_328 (lv_at hl 4 rfl) ?_
  refine lv_iconst (v := 1) hx hb dL_law_330 (by decide) ?_
  refine lv_iadd hx hb dL_law_331 ?_
  refine k_sld hx hb hX hbl hbA hS (i + 1) (nI_add i 1) (by omega) (by omega) dL_law_332 ?_
  refine k_callIJ (D := D) (wr := cw g cI cZ sl mi n X cy ss ds fs ++ [(qo, .inl (cL, 1, .inr (.inl f)))]) C hK hN hP hD hS hA (c_X5_state hn (xs (i + 1))) hl cf_yX5_state wM_L_49 [25, 26, 27, 28, 29, 30, 31, 32, 33, 34, 35, 36, 37, 38, 39, 40, 41, 42, 43, 44, 45] [0, 1, 2, 3, 4, 5, 6, 7, 8, 9, 10, 11, 12, 13, 14, 15, 16, 17, 18, 19, 20, 21, 22, 23, 24, 46] j_n j_nr (by decide) (by decide) (by decide) 0 7 rfl rfl rfl rfl (Nat.le_of_ble_eq_true rfl) ⟨by decide, by decide⟩ ⟨by show cells ≤ 603072; omega, by show slots ≤ 7190184; omega⟩ dL_law_333 (fun r' u' H locs hr' hP hD hS => ?_)
  have e1 : r = r' := read_call hR hn (Or.inl ⟨rfl, rfl⟩) hr hr'
  refine lv_icmp_eq (tgt := 599) hx hb dL_law_336 (by decide) (fun c1 => ?_) (fun c1 => absurd e1 c1)
  refine W.widen (k := cells + 1) (n := slots + 6) (by omega) (by omega) ?_
  exact kk X Y cy ss ds fs 0 f _ _ _ hR (by omega) (hP.sub [0, 1, 2, 3, 4, 5, 6, 7, 8, 9, 10, 11, 12, 13, 14, 15, 16, 17, 18, 19, 20, 21, 22, 23, 24, 26, 27, 28, 29, 30, 31, 32, 33, 34, 35, 36, 37, 38, 39, 40, 41, 42, 43, 44, 45, 46, 25] (k_fm j_y)) (hD.sub [0, 1, 2, 3, 4, 5, 6, 7, 8, 9, 10, 11, 12, 13, 14, 15, 16, 17, 18, 19, 20, 21, 22, 23, 24, 26, 27, 28, 29, 30, 31, 32, 33, 34, 35, 36, 37, 38, 39, 40, 41, 42, 43, 44, 45, 46, 25] (by decide) j_y) hS hl

set_option maxHeartbeats 4000000 in
set_option maxRecDepth 100000 in
theorem law_c5 {p : Program} {l : Launch} {e : Env} {s : State} {m : MethodId} {below : List Frame} {meth : Method} {c : Code} {b L : Nat} {xs : Nat → Int32} {D : va_G} {cI cZ cL : ClassId} {g h : Nat → Nat} {sl mi n : Nat} {Q : State → Prop} (C0 : LC l p s m meth c b L xs D cI cZ cL) (hL : L ≤ 3075) (B : LB sl mi n) {X Y : NN} {cy ss ds fs th qo i cells slots : Nat} {f : Nat → Int64} {H : Heap} {locs : List Loc} {ls : Array Slot} (hi : i + 6 ≤ L) (hR : Rel sl n X Y cy ss ds fs) (hcy : cy < 900000) (hP : va_P D vwCl (wz g h cI cZ cL sl mi n X cy ss ds fs Y th qo f) H) (hD : va_D (fun q : Nat => s.heap.size ≤ q) (wz g h cI cZ cL sl mi n X cy ss ds fs Y th qo f)) (hS : va_S (fun q : Nat => s.heap.size ≤ q) s.heap H locs) (hl : lv_has ls 7 (LV b g h qo i)) (hcl : cells + 1 ≤ 603072) (hsl0 : slots + 6 ≤ 7190184)
    (kk : ∀ (X' Y' : NN) (cy' ss' ds' fs' th' : Nat) (f' : Nat → Int64) (H' : Heap) (locs' : List Loc) (ls' : Array Slot), Rel sl n X' Y' cy' ss' ds' fs' → cy' ≤ cy + 500 → va_P D vwCl (wz g h cI cZ cL sl mi n X' cy' ss' ds' fs' Y' th' qo f') H' → va_D (fun q : Nat => s.heap.size ≤ q) (wz g h cI cZ cL sl mi n X' cy' ss' ds' fs' Y' th' qo f') → va_S (fun q : Nat => s.heap.size ≤ q) s.heap H' locs' → lv_has ls' 7 (LV b g h qo i) → W p l e room_1 s m #[Value.ref b] below meth c H' locs' (cells + 1) (slots + 6) Q (F0 m 599 ls' [])) :
    W p l e room_1 s m #[Value.ref b] below meth c H locs cells slots Q (F0 m 341 ls []) := by
  obtain ⟨C, hK, hN, hX, hbl, hZ, hst⟩ := C0
  obtain ⟨hn, hs1, hsl, hmi⟩ := B
  obtain ⟨hx, hb, hml, hown, hts, hr9, hlk9⟩ := id C
  have hA : ∀ q : Nat, s.heap.size ≤ q → (fun q : Nat => s.heap.size ≤ q) q := fun _ h => h
  have hbA : ¬ (fun q : Nat => s.heap.size ≤ q) b := Nat.not_le.mpr hbl
  have hss : ss ≤ 100 := hR.2.2.2.2.2.1
  have hds : ds ≤ 100 := hR.2.2.2.2.2.2
  refine lv_aload_n hx hb dL_law_341 rfl (lv_at hl 1 rfl) ?_
  refine lv_aload_n hx hb dL_law_342 rfl (lv_at hl 0 rfl) ?_
  refine lv_iload hx hb dL_law_343 (lv_at hl 4 rfl) ?_
  refine lv_iconst (v := 1) hx hb dL_law_345 (by decide) ?_
  refine lv_iadd hx hb dL_law_346 ?_
  refine k_sld hx hb hX hbl hbA hS (i + 1) (nI_add i 1) (by omega) (by omega) dL_law_347 ?_
  refine k_callRJ (D := D) C hK hN hP hD (c_X4_offset hn (xs (i + 1))) hl cf_yX4_offset wM_L_50 [0, 1, 2, 3, 4, 5, 6, 7, 8, 9, 10, 11, 12, 13, 14, 15, 16, 17, 18, 19, 20, 21, 22, 23, 24] j_c (by decide) 0 6 rfl rfl rfl rfl (Nat.le_of_ble_eq_true rfl) ⟨by decide, by decide⟩ ⟨by show cells ≤ 603072; omega, by show slots ≤ 7190184; omega⟩ dL_law_348 (fun r hr => ?_)
  refine lv_aload_n hx hb dL_law_351 rfl (lv_at hl 2 rfl) ?_
  refine lv_aload_n hx hb dL_law_352 rfl (lv_at hl 0 rfl) ?_
  refine lv_iload hx hb dL_law_353 (lv_at hl 4 rfl) ?_
  refine lv_iconst (v := 1) hx hb dL_law_355 (by decide) ?_
  refine lv_iadd hx hb dL_law_356 ?_
  refine k_sld hx hb hX hbl hbA hS (i + 1) (nI_add i 1) (by omega) (by omega) dL_law_357 ?_
  refine k_callIJ (D := D) (wr := cw g cI cZ sl mi n X cy ss ds fs ++ [(qo, .inl (cL, 1, .inr (.inl f)))]) C hK hN hP hD hS hA (c_X5_offset hn (xs (i + 1))) hl cf_yX5_offset wM_L_53 [25, 26, 27, 28, 29, 30, 31, 32, 33, 34, 35, 36, 37, 38, 39, 40, 41, 42, 43, 44, 45] [0, 1, 2, 3, 4, 5, 6, 7, 8, 9, 10, 11, 12, 13, 14, 15, 16, 17, 18, 19, 20, 21, 22, 23, 24, 46] j_n j_nr (by decide) (by decide) (by decide) 0 7 rfl rfl rfl rfl (Nat.le_of_ble_eq_true rfl) ⟨by decide, by decide⟩ ⟨by show cells ≤ 603072; omega, by show slots ≤ 7190184; omega⟩ dL_law_358 (fun r' u' H locs hr' hP hD hS => ?_)
  have e1 : r = r' := read_call hR hn (Or.inr (Or.inl ⟨rfl, rfl⟩)) hr hr'
  refine lv_icmp_eq (tgt := 599) hx hb dL_law_361 (by decide) (fun c1 => ?_) (fun c1 => absurd e1 c1)
  refine W.widen (k := cells + 1) (n := slots + 6) (by omega) (by omega) ?_
  exact kk X Y cy ss ds fs 0 f _ _ _ hR (by omega) (hP.sub [0, 1, 2, 3, 4, 5, 6, 7, 8, 9, 10, 11, 12, 13, 14, 15, 16, 17, 18, 19, 20, 21, 22, 23, 24, 26, 27, 28, 29, 30, 31, 32, 33, 34, 35, 36, 37, 38, 39, 40, 41, 42, 43, 44, 45, 46, 25] (k_fm j_y)) (hD.sub [0, 1, 2, 3, 4, 5, 6, 7, 8, 9, 10, 11, 12, 13, 14, 15, 16, 17, 18, 19, 20, 21, 22, 23, 24, 26, 27, 28, 29, 30, 31, 32, 33, 34, 35, 36, 37, 38, 39, 40, 41, 42, 43, 44, 45, 46, 25] (by decide) j_y) hS hl

set_option maxHeartbeats 4000000 in
set_option maxRecDepth 100000 in
theorem law_c6 {p : Program} {l : Launch} {e : Env} {s : State} {m : MethodId} {below : List Frame} {meth : Method} {c : Code} {b L : Nat} {xs : Nat → Int32} {D : va_G} {cI cZ cL : ClassId} {g h : Nat → Nat} {sl mi n : Nat} {Q : State → Prop} (C0 : LC l p s m meth c b L xs D cI cZ cL) (hL : L ≤ 3075) (B : LB sl mi n) {X Y : NN} {cy ss ds fs th qo i cells slots : Nat} {f : Nat → Int64} {H : Heap} {locs : List Loc} {ls : Array Slot} (hi : i + 6 ≤ L) (hR : Rel sl n X Y cy ss ds fs) (hcy : cy < 900000) (hP : va_P D vwCl (wz g h cI cZ cL sl mi n X cy ss ds fs Y th qo f) H) (hD : va_D (fun q : Nat => s.heap.size ≤ q) (wz g h cI cZ cL sl mi n X cy ss ds fs Y th qo f)) (hS : va_S (fun q : Nat => s.heap.size ≤ q) s.heap H locs) (hl : lv_has ls 7 (LV b g h qo i)) (hcl : cells + 1 ≤ 603072) (hsl0 : slots + 6 ≤ 7190184)
    (kk : ∀ (X' Y' : NN) (cy' ss' ds' fs' th' : Nat) (f' : Nat → Int64) (H' : Heap) (locs' : List Loc) (ls' : Array Slot), Rel sl n X' Y' cy' ss' ds' fs' → cy' ≤ cy + 500 → va_P D vwCl (wz g h cI cZ cL sl mi n X' cy' ss' ds' fs' Y' th' qo f') H' → va_D (fun q : Nat => s.heap.size ≤ q) (wz g h cI cZ cL sl mi n X' cy' ss' ds' fs' Y' th' qo f') → va_S (fun q : Nat => s.heap.size ≤ q) s.heap H' locs' → lv_has ls' 7 (LV b g h qo i) → W p l e room_1 s m #[Value.ref b] below meth c H' locs' (cells + 1) (slots + 6) Q (F0 m 599 ls' [])) :
    W p l e room_1 s m #[Value.ref b] below meth c H locs cells slots Q (F0 m 366 ls []) := by
  obtain ⟨C, hK, hN, hX, hbl, hZ, hst⟩ := C0
  obtain ⟨hn, hs1, hsl, hmi⟩ := B
  obtain ⟨hx, hb, hml, hown, hts, hr9, hlk9⟩ := id C
  have hA : ∀ q : Nat, s.heap.size ≤ q → (fun q : Nat => s.heap.size ≤ q) q := fun _ h => h
  have hbA : ¬ (fun q : Nat => s.heap.size ≤ q) b := Nat.not_le.mpr hbl
  have hss : ss ≤ 100 := hR.2.2.2.2.2.1
  have hds : ds ≤ 100 := hR.2.2.2.2.2.2
  refine lv_aload_n hx hb dL_law_366 rfl (lv_at hl 1 rfl) ?_
  refine lv_aload_n hx hb dL_law_367 rfl (lv_at hl 0 rfl) ?_
  refine lv_iload hx hb dL_law_368 (lv_at hl 4 rfl) ?_
  refine lv_iconst (v := 1) hx hb dL_law_370 (by decide) ?_
  refine lv_iadd hx hb dL_law_371 ?_
  refine k_sld hx hb hX hbl hbA hS (i + 1) (nI_add i 1) (by omega) (by omega) dL_law_372 ?_
  refine k_callRJ (D := D) C hK hN hP hD (c_X4_rate hn (xs (i + 1))) hl cf_yX4_rate wM_L_54 [0, 1, 2, 3, 4, 5, 6, 7, 8, 9, 10, 11, 12, 13, 14, 15, 16, 17, 18, 19, 20, 21, 22, 23, 24] j_c (by decide) 0 6 rfl rfl rfl rfl (Nat.le_of_ble_eq_true rfl) ⟨by decide, by decide⟩ ⟨by show cells ≤ 603072; omega, by show slots ≤ 7190184; omega⟩ dL_law_373 (fun r hr => ?_)
  refine lv_aload_n hx hb dL_law_376 rfl (lv_at hl 2 rfl) ?_
  refine lv_aload_n hx hb dL_law_377 rfl (lv_at hl 0 rfl) ?_
  refine lv_iload hx hb dL_law_378 (lv_at hl 4 rfl) ?_
  refine lv_iconst (v := 1) hx hb dL_law_380 (by decide) ?_
  refine lv_iadd hx hb dL_law_381 ?_
  refine k_sld hx hb hX hbl hbA hS (i + 1) (nI_add i 1) (by omega) (by omega) dL_law_382 ?_
  refine k_callIJ (D := D) (wr := cw g cI cZ sl mi n X cy ss ds fs ++ [(qo, .inl (cL, 1, .inr (.inl f)))]) C hK hN hP hD hS hA (c_X5_rate hn (xs (i + 1))) hl cf_yX5_rate wM_L_57 [25, 26, 27, 28, 29, 30, 31, 32, 33, 34, 35, 36, 37, 38, 39, 40, 41, 42, 43, 44, 45] [0, 1, 2, 3, 4, 5, 6, 7, 8, 9, 10, 11, 12, 13, 14, 15, 16, 17, 18, 19, 20, 21, 22, 23, 24, 46] j_n j_nr (by decide) (by decide) (by decide) 0 7 rfl rfl rfl rfl (Nat.le_of_ble_eq_true rfl) ⟨by decide, by decide⟩ ⟨by show cells ≤ 603072; omega, by show slots ≤ 7190184; omega⟩ dL_law_383 (fun r' u' H locs hr' hP hD hS => ?_)
  have e1 : r = r' := read_call hR hn (Or.inr (Or.inr (Or.inl ⟨rfl, rfl⟩))) hr hr'
  refine lv_icmp_eq (tgt := 599) hx hb dL_law_386 (by decide) (fun c1 => ?_) (fun c1 => absurd e1 c1)
  refine W.widen (k := cells + 1) (n := slots + 6) (by omega) (by omega) ?_
  exact kk X Y cy ss ds fs 0 f _ _ _ hR (by omega) (hP.sub [0, 1, 2, 3, 4, 5, 6, 7, 8, 9, 10, 11, 12, 13, 14, 15, 16, 17, 18, 19, 20, 21, 22, 23, 24, 26, 27, 28, 29, 30, 31, 32, 33, 34, 35, 36, 37, 38, 39, 40, 41, 42, 43, 44, 45, 46, 25] (k_fm j_y)) (hD.sub [0, 1, 2, 3, 4, 5, 6, 7, 8, 9, 10, 11, 12, 13, 14, 15, 16, 17, 18, 19, 20, 21, 22, 23, 24, 26, 27, 28, 29, 30, 31, 32, 33, 34, 35, 36, 37, 38, 39, 40, 41, 42, 43, 44, 45, 46, 25] (by decide) j_y) hS hl

set_option maxHeartbeats 4000000 in
set_option maxRecDepth 100000 in
theorem law_c7 {p : Program} {l : Launch} {e : Env} {s : State} {m : MethodId} {below : List Frame} {meth : Method} {c : Code} {b L : Nat} {xs : Nat → Int32} {D : va_G} {cI cZ cL : ClassId} {g h : Nat → Nat} {sl mi n : Nat} {Q : State → Prop} (C0 : LC l p s m meth c b L xs D cI cZ cL) (hL : L ≤ 3075) (B : LB sl mi n) {X Y : NN} {cy ss ds fs th qo i cells slots : Nat} {f : Nat → Int64} {H : Heap} {locs : List Loc} {ls : Array Slot} (hi : i + 6 ≤ L) (hR : Rel sl n X Y cy ss ds fs) (hcy : cy < 900000) (hP : va_P D vwCl (wz g h cI cZ cL sl mi n X cy ss ds fs Y th qo f) H) (hD : va_D (fun q : Nat => s.heap.size ≤ q) (wz g h cI cZ cL sl mi n X cy ss ds fs Y th qo f)) (hS : va_S (fun q : Nat => s.heap.size ≤ q) s.heap H locs) (hl : lv_has ls 7 (LV b g h qo i)) (hcl : cells + 1 ≤ 603072) (hsl0 : slots + 6 ≤ 7190184)
    (kk : ∀ (X' Y' : NN) (cy' ss' ds' fs' th' : Nat) (f' : Nat → Int64) (H' : Heap) (locs' : List Loc) (ls' : Array Slot), Rel sl n X' Y' cy' ss' ds' fs' → cy' ≤ cy + 500 → va_P D vwCl (wz g h cI cZ cL sl mi n X' cy' ss' ds' fs' Y' th' qo f') H' → va_D (fun q : Nat => s.heap.size ≤ q) (wz g h cI cZ cL sl mi n X' cy' ss' ds' fs' Y' th' qo f') → va_S (fun q : Nat => s.heap.size ≤ q) s.heap H' locs' → lv_has ls' 7 (LV b g h qo i) → W p l e room_1 s m #[Value.ref b] below meth c H' locs' (cells + 1) (slots + 6) Q (F0 m 599 ls' [])) :
    W p l e room_1 s m #[Value.ref b] below meth c H locs cells slots Q (F0 m 391 ls []) := by
  obtain ⟨C, hK, hN, hX, hbl, hZ, hst⟩ := C0
  obtain ⟨hn, hs1, hsl, hmi⟩ := B
  obtain ⟨hx, hb, hml, hown, hts, hr9, hlk9⟩ := id C
  have hA : ∀ q : Nat, s.heap.size ≤ q → (fun q : Nat => s.heap.size ≤ q) q := fun _ h => h
  have hbA : ¬ (fun q : Nat => s.heap.size ≤ q) b := Nat.not_le.mpr hbl
  have hss : ss ≤ 100 := hR.2.2.2.2.2.1
  have hds : ds ≤ 100 := hR.2.2.2.2.2.2
  refine lv_aload_n hx hb dL_law_391 rfl (lv_at hl 1 rfl) ?_
  refine lv_aload_n hx hb dL_law_392 rfl (lv_at hl 0 rfl) ?_
  refine lv_iload hx hb dL_law_393 (lv_at hl 4 rfl) ?_
  refine lv_iconst (v := 1) hx hb dL_law_395 (by decide) ?_
  refine lv_iadd hx hb dL_law_396 ?_
  refine k_sld hx hb hX hbl hbA hS (i + 1) (nI_add i 1) (by omega) (by omega) dL_law_397 ?_
  refine lv_aload_n hx hb dL_law_398 rfl (lv_at hl 0 rfl) ?_
  refine lv_iload hx hb dL_law_399 (lv_at hl 4 rfl) ?_
  refine lv_iconst (v := 2) hx hb dL_law_401 (by decide) ?_
  refine lv_iadd hx hb dL_law_402 ?_
  refine k_sld hx hb hX hbl hbA hS (i + 2) (nI_add i 2) (by omega) (by omega) dL_law_403 ?_
  refine lv_aload_n hx hb dL_law_404 rfl (lv_at hl 3 rfl) ?_
  have hPc := hP.sub (ws' := cw g cI cZ sl mi n X cy ss ds fs ++ [(qo, .inl (cL, 1, .inr (.inl f)))]) [0, 1, 2, 3, 4, 5, 6, 7, 8, 9, 10, 11, 12, 13, 14, 15, 16, 17, 18, 19, 20, 21, 22, 23, 24, 46] (k_fm j_p)
  have hDc := hD.sub (ws' := cw g cI cZ sl mi n X cy ss ds fs ++ [(qo, .inl (cL, 1, .inr (.inl f)))]) [0, 1, 2, 3, 4, 5, 6, 7, 8, 9, 10, 11, 12, 13, 14, 15, 16, 17, 18, 19, 20, 21, 22, 23, 24, 46] (by decide) j_p
  have hF := va_free (wc := cw g cI cZ sl mi n X cy ss ds fs ++ [(qo, .inl (cL, 1, .inr (.inl f)))]) hD hS hA [0, 1, 2, 3, 4, 5, 6, 7, 8, 9, 10, 11, 12, 13, 14, 15, 16, 17, 18, 19, 20, 21, 22, 23, 24, 46] j_p
  refine va_calli (vx_runSW (As := [.ref (g 0), .int (xs (i + 1)), .int (xs (i + 2)), .ref qo]) (rest := []) ⟨hx, hb, hml, hown, hts⟩ (c_L_place (D := D) (cL := cL) (X := X) (mi := mi) (n := n) (cy := cy) (ds := ds) (fs := fs) hst hs1 hsl hss qo f (xs (i + 1)) (xs (i + 2)) H.size) (vx_cwSW 4 hts (k_wS wM_L_58 wT_yL_place wI_L wC_yL_place) rfl rfl rfl ⟨by decide, by decide, by decide +kernel⟩ ⟨by decide, by decide⟩)
      ⟨fun a U g mk q => ⟨q.1, (k_blind (av := [.ref _, .int _, .int _, .ref _]) a U g mk ⟨q.1, q.2.1⟩).2, vx_Zq.moved (Vm.Alike.refl U.vm) q.2.2.1, vx_Zq.moved (Vm.Alike.refl U.vm) q.2.2.2⟩, fun U hU hW => ⟨rfl, (k_preU hK hN hPc hDc [.ref (g 0), .int (xs (i + 1)), .int (xs (i + 2)), .ref qo] U hU hW).2, ?_⟩⟩ rfl rfl hl.1 rfl (lv_room (Nat.le_of_ble_eq_true rfl)) dL_law_405 ⟨by show cells + 1 ≤ 603072; omega, by show slots + 6 ≤ 7190184; omega⟩) hS (fun q _ h => hF q h) hF ?_
  · have z1 := (hZ.1.kept (H1 := H) hS.2.1).narrow hF
    have z2 := (hZ.2.kept (H1 := H) hS.2.1).narrow hF
    rw [hU]
    exact ⟨vx_Zq.moved hW.alike z1, vx_Zq.moved hW.alike z2⟩
  · intro r f' t H1 locs1 ht hvm hr hB hz hk hS
    obtain ⟨hP1, hK1, hD1⟩ := hB
    rw [ht] at hP1
    obtain ⟨hP, hD⟩ := va_join (wr := mw h cI cZ sl mi n Y th ss ds cy) (w1 := cw g cI cZ sl mi n X cy ss ds fs ++ [(qo, .inl (cL, 1, .inr (.inl f')))]) hP hD [0, 1, 2, 3, 4, 5, 6, 7, 8, 9, 10, 11, 12, 13, 14, 15, 16, 17, 18, 19, 20, 21, 22, 23, 24, 46] [25, 26, 27, 28, 29, 30, 31, 32, 33, 34, 35, 36, 37, 38, 39, 40, 41, 42, 43, 44, 45] j_p j_pr (by decide) (by decide) hk hF hP1 hD1
    refine lv_istore (lv' := [(5, .int r), (0, .ref b), (1, .ref (g 0)), (2, .ref (h 0)), (3, .ref qo), (4, .int (nI i))]) hx hb dL_law_408 hl (by decide) rfl (fun ls hl => ?_)
    refine lv_aload_n hx hb dL_law_410 rfl (lv_at hl 3 rfl) ?_
    refine lv_aload_n hx hb dL_law_411 rfl (lv_at hl 1 rfl) ?_
    refine lv_iload hx hb dL_law_412 (lv_at hl 5 rfl) ?_
    refine lv_iconst (v := 1) hx hb dL_law_414 (by decide) ?_
    refine lv_iadd hx hb dL_law_415 ?_
    refine k_sld hx hb hX hbl hbA hS (i + 1) (nI_add i 1) (by omega) (by omega) dL_law_416 ?_
    refine lv_aload_n hx hb dL_law_417 rfl (lv_at hl 1 rfl) ?_
    refine lv_iload hx hb dL_law_418 (lv_at hl 5 rfl) ?_
    refine lv_iconst (v := 2) hx hb dL_law_420 (by decide) ?_
    refine lv_iadd hx hb dL_law_421 ?_
    refine k_sld hx hb hX hbl hbA hS (i + 2) (nI_add i 2) (by omega) (by omega) dL_law_422 ?_
    refine k_callIJ (D := D) (wr := cw g cI cZ sl mi n X cy ss ds fs ++ [(qo, .inl (cL, 1, .inr (.inl f')))]) C hK hN hP hD hS hA (c_X5_place hs1 hsl hss (Rel_ev hR) (xs (i + 1)) (xs (i + 2))) hl cf_yX5_place wM_L_61 [0, 1, 2, 3, 4, 5, 6, 7, 8, 9, 10, 11, 12, 13, 14, 15, 16, 17, 18, 19, 20] [21, 22, 23, 24, 25, 26, 27, 28, 29, 30, 31, 32, 33, 34, 35, 36, 37, 38, 39, 40, 41, 42, 43, 44, 45, 46] j_q j_qr (by decide) (by decide) (by decide) 0 7 rfl rfl rfl rfl (Nat.le_of_ble_eq_true rfl) ⟨by decide, by decide⟩ ⟨by show cells + 1 ≤ 603072; omega, by show slots + 6 ≤ 7190184; omega⟩ dL_law_423 (fun r' u' H locs hr' hP hD hS => ?_)
    obtain ⟨e1, e2, e3⟩ := place_call hR hr hr'
    refine lv_istore (lv' := [(6, .int r'), (5, .int r), (0, .ref b), (1, .ref (g 0)), (2, .ref (h 0)), (3, .ref qo), (4, .int (nI i))]) hx hb dL_law_426 hl (by decide) rfl (fun ls hl => ?_)
    refine lv_aload_n hx hb dL_law_428 rfl (lv_at hl 4 rfl) ?_
    refine k_callRJ (D := D) C hK hN hP hD (c_X5_thrown (th := u')) hl cf_yX5_thrown wM_L_62 [26, 27, 28, 29, 30, 31, 32, 33, 34, 35, 36, 37, 38, 39, 40, 41, 42, 43, 44, 45, 46] j_t (by decide) 0 7 rfl rfl rfl rfl (Nat.le_of_ble_eq_true rfl) ⟨by decide, by decide⟩ ⟨by show cells + 1 ≤ 603072; omega, by show slots + 6 ≤ 7190184; omega⟩ dL_law_429 (fun r9 hr9 => ?_)
    have hr9b : r9 = nI u' := hr9
    refine lv_iload hx hb dL_law_432 (lv_at hl 1 rfl) ?_
    refine lv_icmp_eq (tgt := 439) hx hb dL_law_434 (by decide) (fun c1 => ?_) (fun c1 => absurd (hr9b.trans e1) c1)
    have fin : ∀ ls, lv_has ls 7 (LV b g h qo i) → W p l e room_1 s m #[Value.ref b] below meth c H locs (cells + 1) (slots + 6) Q (F0 m 456 ls []) := fun ls hl => by
      refine lv_goto (tgt := 599) hx hb dL_law_456 (by decide) ?_
      exact kk X Y cy ss ds fs u' f' _ _ _ hR (by omega) (hP.sub [0, 1, 2, 3, 4, 5, 6, 7, 8, 9, 10, 11, 12, 13, 14, 15, 16, 17, 18, 19, 20, 21, 22, 23, 24, 26, 27, 28, 29, 30, 31, 32, 33, 34, 35, 36, 37, 38, 39, 40, 41, 42, 43, 44, 45, 46, 25] (k_fm j_y)) (hD.sub [0, 1, 2, 3, 4, 5, 6, 7, 8, 9, 10, 11, 12, 13, 14, 15, 16, 17, 18, 19, 20, 21, 22, 23, 24, 26, 27, 28, 29, 30, 31, 32, 33, 34, 35, 36, 37, 38, 39, 40, 41, 42, 43, 44, 45, 46, 25] (by decide) j_y) hS hl
    refine lv_iload hx hb dL_law_439 (lv_at hl 1 rfl) ?_
    refine lv_if_ne (tgt := 456) hx hb dL_law_441 (by decide) (fun c2 => ?_) (fun c2 => ?_)
    · exact fin _ (lv_sub hl [2, 3, 4, 5, 6] rfl)
    · refine lv_aload_n hx hb dL_law_444 rfl (lv_at hl 5 rfl) ?_
      refine lv_iconst (v := 0) hx hb dL_law_445 (by decide) ?_
      refine va_lald hx hb hK hP 25 2 rfl rfl (i := 0) (vp_in_nI (n := 0) (N := 1) (by decide) (by decide)) dL_law_446 ?_
      refine lv_iload hx hb dL_law_447 (lv_at hl 0 rfl) ?_
      refine lv_i2l hx hb dL_law_449 rfl ?_
      refine W.lcmp hx hb dL_law_450 ?_
      refine lv_if_eq (tgt := 456) hx hb dL_law_451 (by decide) (fun c3 => ?_) (fun c3 => ?_)
      · exact fin _ (lv_sub hl [2, 3, 4, 5, 6] rfl)
      · have e4 : f' (0 : Int32).toNatClampNeg = r'.toInt64 := e3 c2
        exact absurd (by rw [e4]; exact lg_self _) c3

set_option maxHeartbeats 4000000 in
set_option maxRecDepth 100000 in
theorem law_c8 {p : Program} {l : Launch} {e : Env} {s : State} {m : MethodId} {below : List Frame} {meth : Method} {c : Code} {b L : Nat} {xs : Nat → Int32} {D : va_G} {cI cZ cL : ClassId} {g h : Nat → Nat} {sl mi n : Nat} {Q : State → Prop} (C0 : LC l p s m meth c b L xs D cI cZ cL) (hL : L ≤ 3075) (B : LB sl mi n) {X Y : NN} {cy ss ds fs th qo i cells slots : Nat} {f : Nat → Int64} {H : Heap} {locs : List Loc} {ls : Array Slot} (hi : i + 6 ≤ L) (hR : Rel sl n X Y cy ss ds fs) (hcy : cy < 900000) (hP : va_P D vwCl (wz g h cI cZ cL sl mi n X cy ss ds fs Y th qo f) H) (hD : va_D (fun q : Nat => s.heap.size ≤ q) (wz g h cI cZ cL sl mi n X cy ss ds fs Y th qo f)) (hS : va_S (fun q : Nat => s.heap.size ≤ q) s.heap H locs) (hl : lv_has ls 7 (LV b g h qo i)) (hcl : cells + 1 ≤ 603072) (hsl0 : slots + 6 ≤ 7190184)
    (kk : ∀ (X' Y' : NN) (cy' ss' ds' fs' th' : Nat) (f' : Nat → Int64) (H' : Heap) (locs' : List Loc) (ls' : Array Slot), Rel sl n X' Y' cy' ss' ds' fs' → cy' ≤ cy + 500 → va_P D vwCl (wz g h cI cZ cL sl mi n X' cy' ss' ds' fs' Y' th' qo f') H' → va_D (fun q : Nat => s.heap.size ≤ q) (wz g h cI cZ cL sl mi n X' cy' ss' ds' fs' Y' th' qo f') → va_S (fun q : Nat => s.heap.size ≤ q) s.heap H' locs' → lv_has ls' 7 (LV b g h qo i) → W p l e room_1 s m #[Value.ref b] below meth c H' locs' (cells + 1) (slots + 6) Q (F0 m 599 ls' [])) :
    W p l e room_1 s m #[Value.ref b] below meth c H locs cells slots Q (F0 m 459 ls []) := by
  obtain ⟨C, hK, hN, hX, hbl, hZ, hst⟩ := C0
  obtain ⟨hn, hs1, hsl, hmi⟩ := B
  obtain ⟨hx, hb, hml, hown, hts, hr9, hlk9⟩ := id C
  have hA : ∀ q : Nat, s.heap.size ≤ q → (fun q : Nat => s.heap.size ≤ q) q := fun _ h => h
  have hbA : ¬ (fun q : Nat => s.heap.size ≤ q) b := Nat.not_le.mpr hbl
  have hss : ss ≤ 100 := hR.2.2.2.2.2.1
  have hds : ds ≤ 100 := hR.2.2.2.2.2.2
  refine lv_aload_n hx hb dL_law_459 rfl (lv_at hl 1 rfl) ?_
  refine lv_aload_n hx hb dL_law_460 rfl (lv_at hl 0 rfl) ?_
  refine lv_iload hx hb dL_law_461 (lv_at hl 4 rfl) ?_
  refine lv_iconst (v := 1) hx hb dL_law_463 (by decide) ?_
  refine lv_iadd hx hb dL_law_464 ?_
  refine k_sld hx hb hX hbl hbA hS (i + 1) (nI_add i 1) (by omega) (by omega) dL_law_465 ?_
  refine lv_aload_n hx hb dL_law_466 rfl (lv_at hl 0 rfl) ?_
  refine lv_iload hx hb dL_law_467 (lv_at hl 4 rfl) ?_
  refine lv_iconst (v := 2) hx hb dL_law_469 (by decide) ?_
  refine lv_iadd hx hb dL_law_470 ?_
  refine k_sld hx hb hX hbl hbA hS (i + 2) (nI_add i 2) (by omega) (by omega) dL_law_471 ?_
  have key480 : ∀ on : Int32, on = (if xs (i + 2) = 0 then 0 else 1) → W p l e room_1 s m #[Value.ref b] below meth c H locs cells slots Q (F0 m 480 ls (.int on :: [.int (xs (i + 1)), .ref (g 0)])) := ?_
  · refine lv_if_eq (tgt := 479) hx hb dL_law_472 (by decide) (fun c1 => ?_) (fun c1 => ?_)
    · refine lv_iconst (v := 0) hx hb dL_law_479 (by decide) ?_
      exact key480 0 (if_pos c1).symm
    · refine lv_iconst (v := 1) hx hb dL_law_475 (by decide) ?_
      refine lv_goto (tgt := 480) hx hb dL_law_476 (by decide) ?_
      exact key480 1 (if_neg c1).symm
  intro on hon
  have ho : on = 0 ∨ on = 1 := by rw [hon]; split <;> simp
  refine k_callIJ (D := D) (wr := mw h cI cZ sl mi n Y th ss ds cy ++ [(qo, .inl (cL, 1, .inr (.inl f)))]) C hK hN hP hD hS hA (c_X4_cold hn (xs (i + 1)) on ho) hl cf_yX4_cold wM_L_66 [0, 1, 2, 3, 4, 5, 6, 7, 8, 9, 10, 11, 12, 13, 14, 15, 16, 17, 18, 19, 20, 21, 22, 23, 24] [25, 26, 27, 28, 29, 30, 31, 32, 33, 34, 35, 36, 37, 38, 39, 40, 41, 42, 43, 44, 45, 46] j_c j_cr (by decide) (by decide) (by decide) 0 6 rfl rfl rfl rfl (Nat.le_of_ble_eq_true rfl) ⟨by decide, by decide⟩ ⟨by show cells ≤ 603072; omega, by show slots ≤ 7190184; omega⟩ dL_law_480 (fun r u H locs hr hP hD hS => ?_)
  refine lv_aload_n hx hb dL_law_483 rfl (lv_at hl 2 rfl) ?_
  refine lv_aload_n hx hb dL_law_484 rfl (lv_at hl 0 rfl) ?_
  refine lv_iload hx hb dL_law_485 (lv_at hl 4 rfl) ?_
  refine lv_iconst (v := 1) hx hb dL_law_487 (by decide) ?_
  refine lv_iadd hx hb dL_law_488 ?_
  refine k_sld hx hb hX hbl hbA hS (i + 1) (nI_add i 1) (by omega) (by omega) dL_law_489 ?_
  refine lv_aload_n hx hb dL_law_490 rfl (lv_at hl 0 rfl) ?_
  refine lv_iload hx hb dL_law_491 (lv_at hl 4 rfl) ?_
  refine lv_iconst (v := 2) hx hb dL_law_493 (by decide) ?_
  refine lv_iadd hx hb dL_law_494 ?_
  refine k_sld hx hb hX hbl hbA hS (i + 2) (nI_add i 2) (by omega) (by omega) dL_law_495 ?_
  have key504 : ∀ on : Int32, on = (if xs (i + 2) = 0 then 0 else 1) → W p l e room_1 s m #[Value.ref b] below meth c H locs cells slots Q (F0 m 504 ls (.int on :: [.int (xs (i + 1)), .ref (h 0), .int r])) := ?_
  · refine lv_if_eq (tgt := 503) hx hb dL_law_496 (by decide) (fun c1 => ?_) (fun c1 => ?_)
    · refine lv_iconst (v := 0) hx hb dL_law_503 (by decide) ?_
      exact key504 0 (if_pos c1).symm
    · refine lv_iconst (v := 1) hx hb dL_law_499 (by decide) ?_
      refine lv_goto (tgt := 504) hx hb dL_law_500 (by decide) ?_
      exact key504 1 (if_neg c1).symm
  intro on2 hon2
  have eo : on2 = on := hon2.trans hon.symm
  subst eo
  refine k_callIJ (D := D) (wr := [(qo, .inl (cL, 1, .inr (.inl f)))] ++ cw g cI cZ sl mi n u cy ss ds fs) C hK hN hP hD hS hA (c_X5_cold hn (xs (i + 1)) on2 ho) hl cf_yX5_cold wM_L_70 [0, 1, 2, 3, 4, 5, 6, 7, 8, 9, 10, 11, 12, 13, 14, 15, 16, 17, 18, 19, 20] [21, 22, 23, 24, 25, 26, 27, 28, 29, 30, 31, 32, 33, 34, 35, 36, 37, 38, 39, 40, 41, 42, 43, 44, 45, 46] j_m j_mr (by decide) (by decide) (by decide) 0 7 rfl rfl rfl rfl (Nat.le_of_ble_eq_true rfl) ⟨by decide, by decide⟩ ⟨by show cells ≤ 603072; omega, by show slots ≤ 7190184; omega⟩ dL_law_504 (fun r' u' H locs hr' hP hD hS => ?_)
  obtain ⟨e1, hR2⟩ := cold_call hR hn hr hr'
  refine lv_icmp_eq (tgt := 599) hx hb dL_law_507 (by decide) (fun c1 => ?_) (fun c1 => absurd e1 c1)
  refine W.widen (k := cells + 1) (n := slots + 6) (by omega) (by omega) ?_
  exact kk u u' cy ss ds fs 0 f _ _ _ hR2 (by omega) (hP.sub [1, 2, 3, 4, 5, 6, 7, 8, 9, 10, 11, 12, 13, 14, 15, 16, 17, 18, 19, 20, 21, 22, 23, 24, 25, 26, 27, 28, 29, 30, 31, 32, 33, 34, 35, 36, 37, 38, 39, 40, 41, 42, 43, 44, 45, 46, 0] (k_fm j_z)) (hD.sub [1, 2, 3, 4, 5, 6, 7, 8, 9, 10, 11, 12, 13, 14, 15, 16, 17, 18, 19, 20, 21, 22, 23, 24, 25, 26, 27, 28, 29, 30, 31, 32, 33, 34, 35, 36, 37, 38, 39, 40, 41, 42, 43, 44, 45, 46, 0] (by decide) j_z) hS hl

set_option maxHeartbeats 4000000 in
set_option maxRecDepth 100000 in
theorem law_c9 {p : Program} {l : Launch} {e : Env} {s : State} {m : MethodId} {below : List Frame} {meth : Method} {c : Code} {b L : Nat} {xs : Nat → Int32} {D : va_G} {cI cZ cL : ClassId} {g h : Nat → Nat} {sl mi n : Nat} {Q : State → Prop} (C0 : LC l p s m meth c b L xs D cI cZ cL) (hL : L ≤ 3075) (B : LB sl mi n) {X Y : NN} {cy ss ds fs th qo i cells slots : Nat} {f : Nat → Int64} {H : Heap} {locs : List Loc} {ls : Array Slot} (hi : i + 6 ≤ L) (hR : Rel sl n X Y cy ss ds fs) (hcy : cy < 900000) (hP : va_P D vwCl (wz g h cI cZ cL sl mi n X cy ss ds fs Y th qo f) H) (hD : va_D (fun q : Nat => s.heap.size ≤ q) (wz g h cI cZ cL sl mi n X cy ss ds fs Y th qo f)) (hS : va_S (fun q : Nat => s.heap.size ≤ q) s.heap H locs) (hl : lv_has ls 7 (LV b g h qo i)) (hcl : cells + 1 ≤ 603072) (hsl0 : slots + 6 ≤ 7190184)
    (kk : ∀ (X' Y' : NN) (cy' ss' ds' fs' th' : Nat) (f' : Nat → Int64) (H' : Heap) (locs' : List Loc) (ls' : Array Slot), Rel sl n X' Y' cy' ss' ds' fs' → cy' ≤ cy + 500 → va_P D vwCl (wz g h cI cZ cL sl mi n X' cy' ss' ds' fs' Y' th' qo f') H' → va_D (fun q : Nat => s.heap.size ≤ q) (wz g h cI cZ cL sl mi n X' cy' ss' ds' fs' Y' th' qo f') → va_S (fun q : Nat => s.heap.size ≤ q) s.heap H' locs' → lv_has ls' 7 (LV b g h qo i) → W p l e room_1 s m #[Value.ref b] below meth c H' locs' (cells + 1) (slots + 6) Q (F0 m 599 ls' [])) :
    W p l e room_1 s m #[Value.ref b] below meth c H locs cells slots Q (F0 m 512 ls []) := by
  obtain ⟨C, hK, hN, hX, hbl, hZ, hst⟩ := C0
  obtain ⟨hn, hs1, hsl, hmi⟩ := B
  obtain ⟨hx, hb, hml, hown, hts, hr9, hlk9⟩ := id C
  have hA : ∀ q : Nat, s.heap.size ≤ q → (fun q : Nat => s.heap.size ≤ q) q := fun _ h => h
  have hbA : ¬ (fun q : Nat => s.heap.size ≤ q) b := Nat.not_le.mpr hbl
  have hss : ss ≤ 100 := hR.2.2.2.2.2.1
  have hds : ds ≤ 100 := hR.2.2.2.2.2.2
  refine lv_aload_n hx hb dL_law_512 rfl (lv_at hl 1 rfl) ?_
  refine lv_aload_n hx hb dL_law_513 rfl (lv_at hl 0 rfl) ?_
  refine lv_iload hx hb dL_law_514 (lv_at hl 4 rfl) ?_
  refine lv_iconst (v := 1) hx hb dL_law_516 (by decide) ?_
  refine lv_iadd hx hb dL_law_517 ?_
  refine k_sld hx hb hX hbl hbA hS (i + 1) (nI_add i 1) (by omega) (by omega) dL_law_518 ?_
  refine lv_aload_n hx hb dL_law_519 rfl (lv_at hl 0 rfl) ?_
  refine lv_iload hx hb dL_law_520 (lv_at hl 4 rfl) ?_
  refine lv_iconst (v := 2) hx hb dL_law_522 (by decide) ?_
  refine lv_iadd hx hb dL_law_523 ?_
  refine k_sld hx hb hX hbl hbA hS (i + 2) (nI_add i 2) (by omega) (by omega) dL_law_524 ?_
  refine k_callIJ (D := D) (wr := mw h cI cZ sl mi n Y th ss ds cy ++ [(qo, .inl (cL, 1, .inr (.inl f)))]) C hK hN hP hD hS hA (c_X4_flip hs1 hsl (xs (i + 1)) (xs (i + 2))) hl cf_yX4_flip wM_L_71 [0, 1, 2, 3, 4, 5, 6, 7, 8, 9, 10, 11, 12, 13, 14, 15, 16, 17, 18, 19, 20, 21, 22, 23, 24] [25, 26, 27, 28, 29, 30, 31, 32, 33, 34, 35, 36, 37, 38, 39, 40, 41, 42, 43, 44, 45, 46] j_c j_cr (by decide) (by decide) (by decide) 0 6 rfl rfl rfl rfl (Nat.le_of_ble_eq_true rfl) ⟨by decide, by decide⟩ ⟨by show cells ≤ 603072; omega, by show slots ≤ 7190184; omega⟩ dL_law_525 (fun r u H locs hr hP hD hS => ?_)
  refine lv_aload_n hx hb dL_law_528 rfl (lv_at hl 2 rfl) ?_
  refine lv_aload_n hx hb dL_law_529 rfl (lv_at hl 0 rfl) ?_
  refine lv_iload hx hb dL_law_530 (lv_at hl 4 rfl) ?_
  refine lv_iconst (v := 1) hx hb dL_law_532 (by decide) ?_
  refine lv_iadd hx hb dL_law_533 ?_
  refine k_sld hx hb hX hbl hbA hS (i + 1) (nI_add i 1) (by omega) (by omega) dL_law_534 ?_
  refine lv_aload_n hx hb dL_law_535 rfl (lv_at hl 0 rfl) ?_
  refine lv_iload hx hb dL_law_536 (lv_at hl 4 rfl) ?_
  refine lv_iconst (v := 2) hx hb dL_law_538 (by decide) ?_
  refine lv_iadd hx hb dL_law_539 ?_
  refine k_sld hx hb hX hbl hbA hS (i + 2) (nI_add i 2) (by omega) (by omega) dL_law_540 ?_
  refine k_callIJ (D := D) (wr := [(qo, .inl (cL, 1, .inr (.inl f)))] ++ cw g cI cZ sl mi n u.1 cy ss ds u.2) C hK hN hP hD hS hA (c_X5_flip hs1 hsl (xs (i + 1)) (xs (i + 2))) hl cf_yX5_flip wM_L_74 [0, 1, 2, 3, 4, 5, 6, 7, 8, 9, 10, 11, 12, 13, 14, 15, 16, 17, 18, 19, 20] [21, 22, 23, 24, 25, 26, 27, 28, 29, 30, 31, 32, 33, 34, 35, 36, 37, 38, 39, 40, 41, 42, 43, 44, 45, 46] j_m j_mr (by decide) (by decide) (by decide) 0 7 rfl rfl rfl rfl (Nat.le_of_ble_eq_true rfl) ⟨by decide, by decide⟩ ⟨by show cells ≤ 603072; omega, by show slots ≤ 7190184; omega⟩ dL_law_541 (fun r' u' H locs hr' hP hD hS => ?_)
  obtain ⟨e1, hR2⟩ := flip_call hR hs1 hsl hr hr'
  refine lv_icmp_eq (tgt := 599) hx hb dL_law_544 (by decide) (fun c1 => ?_) (fun c1 => absurd e1 c1)
  refine W.widen (k := cells + 1) (n := slots + 6) (by omega) (by omega) ?_
  exact kk u.1 u' cy ss ds u.2 0 f _ _ _ hR2 (by omega) (hP.sub [1, 2, 3, 4, 5, 6, 7, 8, 9, 10, 11, 12, 13, 14, 15, 16, 17, 18, 19, 20, 21, 22, 23, 24, 25, 26, 27, 28, 29, 30, 31, 32, 33, 34, 35, 36, 37, 38, 39, 40, 41, 42, 43, 44, 45, 46, 0] (k_fm j_z)) (hD.sub [1, 2, 3, 4, 5, 6, 7, 8, 9, 10, 11, 12, 13, 14, 15, 16, 17, 18, 19, 20, 21, 22, 23, 24, 25, 26, 27, 28, 29, 30, 31, 32, 33, 34, 35, 36, 37, 38, 39, 40, 41, 42, 43, 44, 45, 46, 0] (by decide) j_z) hS hl

set_option maxHeartbeats 4000000 in
set_option maxRecDepth 100000 in
theorem law_c10 {p : Program} {l : Launch} {e : Env} {s : State} {m : MethodId} {below : List Frame} {meth : Method} {c : Code} {b L : Nat} {xs : Nat → Int32} {D : va_G} {cI cZ cL : ClassId} {g h : Nat → Nat} {sl mi n : Nat} {Q : State → Prop} (C0 : LC l p s m meth c b L xs D cI cZ cL) (hL : L ≤ 3075) (B : LB sl mi n) {X Y : NN} {cy ss ds fs th qo i cells slots : Nat} {f : Nat → Int64} {H : Heap} {locs : List Loc} {ls : Array Slot} (hi : i + 6 ≤ L) (hR : Rel sl n X Y cy ss ds fs) (hcy : cy < 900000) (hP : va_P D vwCl (wz g h cI cZ cL sl mi n X cy ss ds fs Y th qo f) H) (hD : va_D (fun q : Nat => s.heap.size ≤ q) (wz g h cI cZ cL sl mi n X cy ss ds fs Y th qo f)) (hS : va_S (fun q : Nat => s.heap.size ≤ q) s.heap H locs) (hl : lv_has ls 7 (LV b g h qo i)) (hcl : cells + 1 ≤ 603072) (hsl0 : slots + 6 ≤ 7190184)
    (kk : ∀ (X' Y' : NN) (cy' ss' ds' fs' th' : Nat) (f' : Nat → Int64) (H' : Heap) (locs' : List Loc) (ls' : Array Slot), Rel sl n X' Y' cy' ss' ds' fs' → cy' ≤ cy + 500 → va_P D vwCl (wz g h cI cZ cL sl mi n X' cy' ss' ds' fs' Y' th' qo f') H' → va_D (fun q : Nat => s.heap.size ≤ q) (wz g h cI cZ cL sl mi n X' cy' ss' ds' fs' Y' th' qo f') → va_S (fun q : Nat => s.heap.size ≤ q) s.heap H' locs' → lv_has ls' 7 (LV b g h qo i) → W p l e room_1 s m #[Value.ref b] below meth c H' locs' (cells + 1) (slots + 6) Q (F0 m 599 ls' [])) :
    W p l e room_1 s m #[Value.ref b] below meth c H locs cells slots Q (F0 m 549 ls []) := by
  obtain ⟨C, hK, hN, hX, hbl, hZ, hst⟩ := C0
  obtain ⟨hn, hs1, hsl, hmi⟩ := B
  obtain ⟨hx, hb, hml, hown, hts, hr9, hlk9⟩ := id C
  have hA : ∀ q : Nat, s.heap.size ≤ q → (fun q : Nat => s.heap.size ≤ q) q := fun _ h => h
  have hbA : ¬ (fun q : Nat => s.heap.size ≤ q) b := Nat.not_le.mpr hbl
  have hss : ss ≤ 100 := hR.2.2.2.2.2.1
  have hds : ds ≤ 100 := hR.2.2.2.2.2.2
  refine lv_aload_n hx hb dL_law_549 rfl (lv_at hl 1 rfl) ?_
  refine lv_aload_n hx hb dL_law_550 rfl (lv_at hl 0 rfl) ?_
  refine lv_iload hx hb dL_law_551 (lv_at hl 4 rfl) ?_
  refine lv_iconst (v := 1) hx hb dL_law_553 (by decide) ?_
  refine lv_iadd hx hb dL_law_554 ?_
  refine k_sld hx hb hX hbl hbA hS (i + 1) (nI_add i 1) (by omega) (by omega) dL_law_555 ?_
  refine k_callRJ (D := D) C hK hN hP hD (c_X4_close hn (xs (i + 1))) hl cf_yX4_close wM_L_75 [0, 1, 2, 3, 4, 5, 6, 7, 8, 9, 10, 11, 12, 13, 14, 15, 16, 17, 18, 19, 20, 21, 22, 23, 24] j_c (by decide) 0 6 rfl rfl rfl rfl (Nat.le_of_ble_eq_true rfl) ⟨by decide, by decide⟩ ⟨by show cells ≤ 603072; omega, by show slots ≤ 7190184; omega⟩ dL_law_556 (fun r hr => ?_)
  refine lv_aload_n hx hb dL_law_559 rfl (lv_at hl 2 rfl) ?_
  refine lv_aload_n hx hb dL_law_560 rfl (lv_at hl 0 rfl) ?_
  refine lv_iload hx hb dL_law_561 (lv_at hl 4 rfl) ?_
  refine lv_iconst (v := 1) hx hb dL_law_563 (by decide) ?_
  refine lv_iadd hx hb dL_law_564 ?_
  refine k_sld hx hb hX hbl hbA hS (i + 1) (nI_add i 1) (by omega) (by omega) dL_law_565 ?_
  refine k_callIJ (D := D) (wr := cw g cI cZ sl mi n X cy ss ds fs ++ [(qo, .inl (cL, 1, .inr (.inl f)))]) C hK hN hP hD hS hA (c_X5_close hn (xs (i + 1))) hl cf_yX5_close wM_L_79 [25, 26, 27, 28, 29, 30, 31, 32, 33, 34, 35, 36, 37, 38, 39, 40, 41, 42, 43, 44, 45] [0, 1, 2, 3, 4, 5, 6, 7, 8, 9, 10, 11, 12, 13, 14, 15, 16, 17, 18, 19, 20, 21, 22, 23, 24, 46] j_n j_nr (by decide) (by decide) (by decide) 0 7 rfl rfl rfl rfl (Nat.le_of_ble_eq_true rfl) ⟨by decide, by decide⟩ ⟨by show cells ≤ 603072; omega, by show slots ≤ 7190184; omega⟩ dL_law_566 (fun r' u' H locs hr' hP hD hS => ?_)
  have e1 : r = r' := close_call hR (by omega) hr hr'
  refine lv_icmp_eq (tgt := 599) hx hb dL_law_569 (by decide) (fun c1 => ?_) (fun c1 => absurd e1 c1)
  refine W.widen (k := cells + 1) (n := slots + 6) (by omega) (by omega) ?_
  exact kk X Y cy ss ds fs 0 f _ _ _ hR (by omega) (hP.sub [0, 1, 2, 3, 4, 5, 6, 7, 8, 9, 10, 11, 12, 13, 14, 15, 16, 17, 18, 19, 20, 21, 22, 23, 24, 26, 27, 28, 29, 30, 31, 32, 33, 34, 35, 36, 37, 38, 39, 40, 41, 42, 43, 44, 45, 46, 25] (k_fm j_y)) (hD.sub [0, 1, 2, 3, 4, 5, 6, 7, 8, 9, 10, 11, 12, 13, 14, 15, 16, 17, 18, 19, 20, 21, 22, 23, 24, 26, 27, 28, 29, 30, 31, 32, 33, 34, 35, 36, 37, 38, 39, 40, 41, 42, 43, 44, 45, 46, 25] (by decide) j_y) hS hl

set_option maxHeartbeats 4000000 in
set_option maxRecDepth 100000 in
theorem law_c11 {p : Program} {l : Launch} {e : Env} {s : State} {m : MethodId} {below : List Frame} {meth : Method} {c : Code} {b L : Nat} {xs : Nat → Int32} {D : va_G} {cI cZ cL : ClassId} {g h : Nat → Nat} {sl mi n : Nat} {Q : State → Prop} (C0 : LC l p s m meth c b L xs D cI cZ cL) (hL : L ≤ 3075) (B : LB sl mi n) {X Y : NN} {cy ss ds fs th qo i cells slots : Nat} {f : Nat → Int64} {H : Heap} {locs : List Loc} {ls : Array Slot} (hi : i + 6 ≤ L) (hR : Rel sl n X Y cy ss ds fs) (hcy : cy < 900000) (hP : va_P D vwCl (wz g h cI cZ cL sl mi n X cy ss ds fs Y th qo f) H) (hD : va_D (fun q : Nat => s.heap.size ≤ q) (wz g h cI cZ cL sl mi n X cy ss ds fs Y th qo f)) (hS : va_S (fun q : Nat => s.heap.size ≤ q) s.heap H locs) (hl : lv_has ls 7 (LV b g h qo i)) (hcl : cells + 1 ≤ 603072) (hsl0 : slots + 6 ≤ 7190184)
    (kk : ∀ (X' Y' : NN) (cy' ss' ds' fs' th' : Nat) (f' : Nat → Int64) (H' : Heap) (locs' : List Loc) (ls' : Array Slot), Rel sl n X' Y' cy' ss' ds' fs' → cy' ≤ cy + 500 → va_P D vwCl (wz g h cI cZ cL sl mi n X' cy' ss' ds' fs' Y' th' qo f') H' → va_D (fun q : Nat => s.heap.size ≤ q) (wz g h cI cZ cL sl mi n X' cy' ss' ds' fs' Y' th' qo f') → va_S (fun q : Nat => s.heap.size ≤ q) s.heap H' locs' → lv_has ls' 7 (LV b g h qo i) → W p l e room_1 s m #[Value.ref b] below meth c H' locs' (cells + 1) (slots + 6) Q (F0 m 599 ls' [])) :
    W p l e room_1 s m #[Value.ref b] below meth c H locs cells slots Q (F0 m 574 ls []) := by
  obtain ⟨C, hK, hN, hX, hbl, hZ, hst⟩ := C0
  obtain ⟨hn, hs1, hsl, hmi⟩ := B
  obtain ⟨hx, hb, hml, hown, hts, hr9, hlk9⟩ := id C
  have hA : ∀ q : Nat, s.heap.size ≤ q → (fun q : Nat => s.heap.size ≤ q) q := fun _ h => h
  have hbA : ¬ (fun q : Nat => s.heap.size ≤ q) b := Nat.not_le.mpr hbl
  have hss : ss ≤ 100 := hR.2.2.2.2.2.1
  have hds : ds ≤ 100 := hR.2.2.2.2.2.2
  refine lv_aload_n hx hb dL_law_574 rfl (lv_at hl 1 rfl) ?_
  refine lv_aload_n hx hb dL_law_575 rfl (lv_at hl 0 rfl) ?_
  refine lv_iload hx hb dL_law_576 (lv_at hl 4 rfl) ?_
  refine lv_iconst (v := 1) hx hb dL_law_578 (by decide) ?_
  refine lv_iadd hx hb dL_law_579 ?_
  refine k_sld hx hb hX hbl hbA hS (i + 1) (nI_add i 1) (by omega) (by omega) dL_law_580 ?_
  refine k_callRJ (D := D) C hK hN hP hD (c_X4_midpoint hn (xs (i + 1))) hl cf_yX4_midpoint wM_L_80 [0, 1, 2, 3, 4, 5, 6, 7, 8, 9, 10, 11, 12, 13, 14, 15, 16, 17, 18, 19, 20, 21, 22, 23, 24] j_c (by decide) 0 6 rfl rfl rfl rfl (Nat.le_of_ble_eq_true rfl) ⟨by decide, by decide⟩ ⟨by show cells ≤ 603072; omega, by show slots ≤ 7190184; omega⟩ dL_law_581 (fun r hr => ?_)
  refine lv_aload_n hx hb dL_law_584 rfl (lv_at hl 2 rfl) ?_
  refine lv_aload_n hx hb dL_law_585 rfl (lv_at hl 0 rfl) ?_
  refine lv_iload hx hb dL_law_586 (lv_at hl 4 rfl) ?_
  refine lv_iconst (v := 1) hx hb dL_law_588 (by decide) ?_
  refine lv_iadd hx hb dL_law_589 ?_
  refine k_sld hx hb hX hbl hbA hS (i + 1) (nI_add i 1) (by omega) (by omega) dL_law_590 ?_
  refine k_callIJ (D := D) (wr := cw g cI cZ sl mi n X cy ss ds fs ++ [(qo, .inl (cL, 1, .inr (.inl f)))]) C hK hN hP hD hS hA (c_X5_midpoint hn (xs (i + 1))) hl cf_yX5_midpoint wM_L_83 [25, 26, 27, 28, 29, 30, 31, 32, 33, 34, 35, 36, 37, 38, 39, 40, 41, 42, 43, 44, 45] [0, 1, 2, 3, 4, 5, 6, 7, 8, 9, 10, 11, 12, 13, 14, 15, 16, 17, 18, 19, 20, 21, 22, 23, 24, 46] j_n j_nr (by decide) (by decide) (by decide) 0 7 rfl rfl rfl rfl (Nat.le_of_ble_eq_true rfl) ⟨by decide, by decide⟩ ⟨by show cells ≤ 603072; omega, by show slots ≤ 7190184; omega⟩ dL_law_591 (fun r' u' H locs hr' hP hD hS => ?_)
  have e1 : r = r' := read_call hR hn (Or.inr (Or.inr (Or.inr ⟨rfl, rfl⟩))) hr hr'
  refine lv_icmp_eq (tgt := 599) hx hb dL_law_594 (by decide) (fun c1 => ?_) (fun c1 => absurd e1 c1)
  refine W.widen (k := cells + 1) (n := slots + 6) (by omega) (by omega) ?_
  exact kk X Y cy ss ds fs 0 f _ _ _ hR (by omega) (hP.sub [0, 1, 2, 3, 4, 5, 6, 7, 8, 9, 10, 11, 12, 13, 14, 15, 16, 17, 18, 19, 20, 21, 22, 23, 24, 26, 27, 28, 29, 30, 31, 32, 33, 34, 35, 36, 37, 38, 39, 40, 41, 42, 43, 44, 45, 46, 25] (k_fm j_y)) (hD.sub [0, 1, 2, 3, 4, 5, 6, 7, 8, 9, 10, 11, 12, 13, 14, 15, 16, 17, 18, 19, 20, 21, 22, 23, 24, 26, 27, 28, 29, 30, 31, 32, 33, 34, 35, 36, 37, 38, 39, 40, 41, 42, 43, 44, 45, 46, 25] (by decide) j_y) hS hl
