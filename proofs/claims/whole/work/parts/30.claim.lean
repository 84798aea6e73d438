/-! the claim -/
set_option maxHeartbeats 4000000 in
set_option maxRecDepth 100000 in
/-- the law, from its entry -/
theorem whole_start {p : Program} {e : Env} {s : State} {m : MethodId} {below : List Frame} {meth : Method} {c : Code} (l : Launch) (hst : l.stackTraces = false) {b L : Nat} {xs : Nat → Int32} (hL : L ≤ 3075) (C0 : lw_At p s m meth c b L xs) : W p l e room_1 s m #[Value.ref b] below meth c s.heap [] 0 0 (lw_Z below #[Value.ref b] s) (entryFrame m ([Value.ref b] : List Value).toArray 7) := by
  obtain ⟨hx, hb, hr, hml, hown, hts0, hX, hbl, hlocks, hgv⟩ := id C0
  have hts : ∀ w ∈ ALL, w.before #[Value.ref b] s = true := fun w hw => hts0 w (List.mem_filter.mp hw).1
  have hN : NW s := lw_NW hts0
  have hZ := lw_ZS hts0 hgv
  obtain ⟨D, cI, cZ, cL, hK⟩ := lw_K hts
  have C : Cx p s m #[Value.ref b] meth c code 7 RL (some .boolean) := ⟨hx, hb, hml, hown, hts, hr, hlocks⟩
  have hA : ∀ q : Nat, s.heap.size ≤ q → (fun q : Nat => s.heap.size ≤ q) q := fun _ h => h
  have hS : va_S (fun q : Nat => s.heap.size ≤ q) s.heap s.heap [] := va_S.rf
  have hP : va_P D vwCl [] s.heap := fun k q h => by simp at h
  have hD : va_D (fun q : Nat => s.heap.size ≤ q) [] := ⟨fun i j p q h => by simp at h, fun k q h => by simp at h⟩
  have hl := lv_entry ([.ref b]) (n := 7) (Nat.le_of_ble_eq_true rfl)
  rw [lg_entry_eq]
  generalize (lg_sl ([.ref b]) ++ List.replicate (7 - (lg_sl ([.ref b])).length) Slot.unset).toArray = ls at hl ⊢
  have hl : lv_has ls 7 [(0, .ref b)] := hl
  refine va_new (D := D) (ci := 6) (fs := [.int 0, .int 0, .null, .null, .null, .null, .int 0]) (C := RX4) (T := TX4) (N := 7) hx hb hts inX4 tyX4 tyX4_ok hown (hts _ wL_L_8) (hts _ wG_X4) (hts _ wI_X4) hK hP hD hS hA rfl (by decide +kernel) (Nat.le_of_ble_eq_true rfl) (Nat.le_of_ble_eq_true rfl) dL_law_0 (fun q0 H hP hD hS => ?_)
  have hP : va_P D vwCl [(q0, .inr (6, [.int 0, .int 0, .null, .null, .null, .null, .int 0]))] H := hP
  have hD : va_D (fun q : Nat => s.heap.size ≤ q) [(q0, .inr (6, [.int 0, .int 0, .null, .null, .null, .null, .int 0]))] := hD
  refine W.widen (k := 1) (n := 7) (by omega) (by omega) ?_
  refine lv_dup hx hb dL_law_3 rfl ?_
  refine lv_aload_n hx hb dL_law_4 rfl (lv_at hl 0 rfl) ?_
  refine lv_iconst (v := 0) hx hb dL_law_5 (by decide) ?_
  refine k_cell C hL hX hbl hS hl 0 (by decide) rfl (Nat.le_of_ble_eq_true rfl) ⟨by decide, by decide⟩ dL_law_6 ?_
  refine lv_aload_n hx hb dL_law_9 rfl (lv_at hl 0 rfl) ?_
  refine lv_iconst (v := 1) hx hb dL_law_10 (by decide) ?_
  refine k_cell C hL hX hbl hS hl 1 (by decide) rfl (Nat.le_of_ble_eq_true rfl) ⟨by decide, by decide⟩ dL_law_11 ?_
  refine lv_aload_n hx hb dL_law_14 rfl (lv_at hl 0 rfl) ?_
  refine lv_iconst (v := 2) hx hb dL_law_15 (by decide) ?_
  refine k_cell C hL hX hbl hS hl 2 (by decide) rfl (Nat.le_of_ble_eq_true rfl) ⟨by decide, by decide⟩ dL_law_16 ?_
  refine k_callN (D := D) (wr := []) C hK hN hP hD hS hA (c_X4_init q0 (if 0 < L then xs 0 else 0) (if 1 < L then xs 1 else 0) (if 2 < L then xs 2 else 0)) hl cf_yX4_init wM_L_21 [0] [] rfl rfl (by decide) (by decide) (by decide) rfl rfl (Nat.le_of_ble_eq_true rfl) ⟨by decide, by decide⟩ ⟨by decide, by decide⟩ dL_law_19 (fun g H locs hg hPg hDg hSg => ?_)
  have hg : g 0 = q0 := hg
  subst hg
  generalize hx1 : (if 0 < L then xs 0 else 0) = x1 at hPg hDg ⊢
  generalize hx2 : (if 1 < L then xs 1 else 0) = x2 at hPg hDg ⊢
  generalize hx3 : (if 2 < L then xs 2 else 0) = x3 at hPg hDg ⊢
  have hP : va_P D vwCl (cw g cI cZ (slq x2) (miq x3) (ndq x1) (fun _ _ => 0) 0 0 0 0) H := hPg
  have hD : va_D (fun q : Nat => s.heap.size ≤ q) (cw g cI cZ (slq x2) (miq x3) (ndq x1) (fun _ _ => 0) 0 0 0 0) := hDg
  have hS := hSg
  refine W.widen (k := 25) (n := 1077) (by omega) (by omega) ?_
  refine lv_astore_n (lv' := [(1, .ref (g 0)), (0, .ref b)]) hx hb dL_law_22 rfl hl (by decide) rfl (fun ls hl => ?_)
  refine va_new (D := D) (ci := 7) (fs := [.int 0, .int 0, .int 0, .int 0, .null, .null, .null, .null, .null, .null, .null, .null, .null, .null, .null, .int 0, .null, .null, .null, .null, .null, .int 0, .null, .null, .null, .null, .int 0]) (C := RX5) (T := TX5) (N := 27) hx hb hts inX5 tyX5 tyX5_ok hown (hts _ wL_L_24) (hts _ wG_X5) (hts _ wI_X5) hK hP hD hS hA rfl (by decide +kernel) (Nat.le_of_ble_eq_true rfl) (Nat.le_of_ble_eq_true rfl) dL_law_23 (fun q1 H hP hD hS => ?_)
  refine W.widen (k := 26) (n := 1104) (by omega) (by omega) ?_
  refine lv_dup hx hb dL_law_26 rfl ?_
  refine lv_aload_n hx hb dL_law_27 rfl (lv_at hl 1 rfl) ?_
  refine lv_iconst (v := 0) hx hb dL_law_28 (by decide) ?_
  refine k_cell C hL hX hbl hS hl 0 (by decide) rfl (Nat.le_of_ble_eq_true rfl) ⟨by decide, by decide⟩ dL_law_29 ?_
  refine lv_aload_n hx hb dL_law_32 rfl (lv_at hl 1 rfl) ?_
  refine lv_iconst (v := 1) hx hb dL_law_33 (by decide) ?_
  refine k_cell C hL hX hbl hS hl 1 (by decide) rfl (Nat.le_of_ble_eq_true rfl) ⟨by decide, by decide⟩ dL_law_34 ?_
  refine lv_aload_n hx hb dL_law_37 rfl (lv_at hl 1 rfl) ?_
  refine lv_iconst (v := 2) hx hb dL_law_38 (by decide) ?_
  refine k_cell C hL hX hbl hS hl 2 (by decide) rfl (Nat.le_of_ble_eq_true rfl) ⟨by decide, by decide⟩ dL_law_39 ?_
  rw [hx1, hx2, hx3]
  refine k_callN (D := D) (wr := cw g cI cZ (slq x2) (miq x3) (ndq x1) (fun _ _ => 0) 0 0 0 0) C hK hN hP hD hS hA (c_X5_init q1 x1 x2 x3) hl cf_yX5_init wM_L_26 [25] [0, 1, 2, 3, 4, 5, 6, 7, 8, 9, 10, 11, 12, 13, 14, 15, 16, 17, 18, 19, 20, 21, 22, 23, 24] rfl rfl (by decide) (by decide) (by decide) rfl rfl (Nat.le_of_ble_eq_true rfl) ⟨by decide, by decide⟩ ⟨by decide, by decide⟩ dL_law_42 (fun u H locs hu hPu hDu hSu => ?_)
  obtain ⟨hu0, hu2⟩ := hu
  subst hu0
  have hP := hPu
  have hD := hDu
  have hS := hSu
  refine W.widen (k := 46) (n := 2151) (by omega) (by omega) ?_
  refine lv_astore_n (lv' := [(2, .ref (u.1 0)), (1, .ref (g 0)), (0, .ref b)]) hx hb dL_law_45 rfl hl (by decide) rfl (fun ls hl => ?_)
  refine lv_iconst (v := 1) hx hb dL_law_46 (by decide) ?_
  refine k_newL (D := D) hx hb hts hK hP hD hS hA 1 rfl (by omega) (by decide) (by decide) dL_law_47 (fun qo H hP hD hS => ?_)
  refine W.widen (k := 47) (n := 2152) (by omega) (by omega) ?_
  refine lv_astore_n (lv' := [(3, .ref qo), (2, .ref (u.1 0)), (1, .ref (g 0)), (0, .ref b)]) hx hb dL_law_49 rfl hl (by decide) rfl (fun ls hl => ?_)
  refine lv_iconst (v := 3) hx hb dL_law_50 (by decide) ?_
  refine lv_istore (lv' := [(4, .int 3), (3, .ref qo), (2, .ref (u.1 0)), (1, .ref (g 0)), (0, .ref b)]) hx hb dL_law_51 hl (by decide) rfl (fun ls hl => ?_)
  have bn : 1 ≤ ndq x1 ∧ ndq x1 ≤ 16 := clq_b (by decide) (by decide)
  have bs : 1 ≤ slq x2 ∧ slq x2 ≤ 60 := clq_b (by decide) (by decide)
  have bm : 0 ≤ miq x3 ∧ miq x3 ≤ 60 := clq_b (by decide) (by decide)
  exact law_loop (D := D) (sl := slq x2) (mi := miq x3) (n := ndq x1) ⟨C, hK, hN, hX, hbl, hZ, hst⟩ hL ⟨bn.2, bs.1, bs.2, bm.2⟩ 513 0 rfl (by omega) (fun _ _ => 0) (fun a => if a = 10 then u.2 else fun _ => 0) 0 0 0 0 0 (fun _ => 0) _ _ _ (init_rel hu2 bn.2) (by omega) (hP.sub [0, 1, 2, 3, 4, 5, 6, 7, 8, 9, 10, 11, 12, 13, 14, 15, 16, 17, 18, 19, 20, 21, 22, 23, 24, 25, 26, 27, 28, 29, 30, 31, 32, 33, 34, 35, 36, 37, 38, 39, 40, 41, 42, 43, 44, 45, 46] rfl) (hD.sub [0, 1, 2, 3, 4, 5, 6, 7, 8, 9, 10, 11, 12, 13, 14, 15, 16, 17, 18, 19, 20, 21, 22, 23, 24, 25, 26, 27, 28, 29, 30, 31, 32, 33, 34, 35, 36, 37, 38, 39, 40, 41, 42, 43, 44, 45, 46] (by decide) rfl) hS (lv_sub hl [4, 3, 2, 1, 0] rfl)
theorem lw_st {l : Launch} (h : l.flags = flags0) : l.stackTraces = false := by
  unfold Launch.stackTraces
  rw [h]
  decide
set_option maxHeartbeats 4000000 in
theorem lw_walk (l : Launch) (hst : l.stackTraces = false) (b : Addr) (xs : List Int32) : MetFree l x (headSpec (Jvm.Cond.code x code maxLocals ret :: tables_1) room_1) (lw_P b xs) (fun _ _ _ _ _ => True) lw_Q := by
  refine MetFree.of_bodyS (code := code) (maxLocals := maxLocals) (ret := ret) (by decide) ?_ ?_
  · intro args s m h hn
    obtain ⟨meth, c, h1, h2, h3, h4, h5, h6, -, -⟩ := Cond.code_spec hn (atoms_spec (ws := Jvm.Cond.code x code maxLocals ret :: tables_1) h _ List.mem_cons_self)
    exact ⟨meth, c, h1, h2, h3, h4, h5, h6⟩
  · intro p e s m args below meth c s₁ B hml0 hP _
    obtain ⟨rfl, hx, hbd, hgv⟩ := hP
    obtain ⟨scr, harrAt, hlist, hof, hsmall⟩ := hx
    obtain ⟨hcb, hkn, -, -⟩ := State.arrayAt?_spec harrAt
    have hown : s.vm.findClass R_law = some m.cls := findClass_of_methodNamed B.named
    have hts0 : ∀ c ∈ (Jvm.Cond.code x code maxLocals ret :: tables_1), c.before #[Value.ref b] s = true := atoms_spec (ws := Jvm.Cond.code x code maxLocals ret :: tables_1) B.pre
    have hts : ∀ w ∈ lw_tbl, w.before #[Value.ref b] s = true := k2_hts_sels lw_privs (fun w hw => hts0 w (List.mem_cons_of_mem _ hw)) lw_privs_ok
    have hml : c.maxLocals = 7 := B.maxLocals_eq (hts0 _ List.mem_cons_self)
    have X₀ : Stand p l e room_1 s m #[Value.ref b] below meth c s₁ [] 0 0 := Stand.of_body B
    have hh0 : s₁.heap = s.heap := by rw [B.state]; rfl
    have hsz : scr.slots.size = xs.length := by rw [← Array.length_toList, hlist, List.length_map]
    have hval : ∀ j : Nat, j < xs.length → scr.slots[j]? = some (.int (xs.getD j 0)) := fun j hj => by
      rw [← Array.getElem?_toList, hlist]
      simp [hj]
    have hbl : b < s.heap.size := (Array.getElem?_eq_some_iff.mp hcb).1
    have hX : va_X b xs.length (fun j => xs.getD j 0) s s.heap := ⟨scr, hcb, hof, hkn, hsz, hval⟩
    have K : W p l e room_1 s m #[Value.ref b] below meth c s₁.heap [] 0 0 (lw_Z below #[Value.ref b] s) (entryFrame m ([Value.ref b] : List Value).toArray 7) := by
      rw [hh0]
      exact whole_start l hst hbd ⟨B.exec, B.bytes, B.returns, hml, hown, hts, hX, hbl, B.notSynchronized, hgv⟩
    obtain ⟨t, a1, o, b1, b2, b3⟩ := K s₁ rfl X₀
    exact ⟨t, o, a1, b1, b2, b3⟩
theorem lw_pre_spec {args : Array Value} {s : State} (h : (Jvm.Cond.and given_1 narrow_1).before args s = true) (hr : rest_1_c.before args s = true) : ∃ (b : Addr) (xs : List Int32), lw_P b xs args s := by
  have hs := flat_of_before _ h
  have hq := flat_of_before _ hr
  have hc : (Cond.count 1).before args s = true := hs _ (by decide +kernel)
  have harr : (Cond.arrayOf (.arg 0) .int).before args s = true := hs _ (by decide +kernel)
  have hle : (Cond.le (.length (.arg 0)) (.int 3075)).before args s = true := hs _ (by decide +kernel)
  have hlen : (Cond.isInt (.length (.arg 0))).before args s = true := hq _ (by decide +kernel)
  have hall : (Cond.all (.arg 0) (.isInt (.elem (.arg 0) (.index 0)))).before args s = true := hq _ (by decide +kernel)
  obtain ⟨b, xs, hb, hx⟩ := State.ints_of_pre rfl harr hlen hall
  have hsm : xs.length < 2 ^ 31 := hx.choose_spec.2.2.2
  have hev : (Term.length (.arg 0)).eval args s none [] s = some (.int xs.length.toInt32) := hx.length_eval hb
  have hv := Cond.le_ints hev (show (Term.int 3075).eval args s none [] s = some (.int 3075) from rfl)
  have hd : xs.length.toInt32 ≤ 3075 := by
    simpa [Cond.before, Cond.holds, hv] using hle
  have hN : xs.length ≤ 3075 := (Int32.ofNat_le_ofNat hsm (by decide)).mp (show Int32.ofNat xs.length ≤ Int32.ofNat 3075 from hd)
  exact ⟨b, xs, Cond.one_arg hc (show args[0]? = some (.ref b) from hb), hx, hN, h⟩
theorem lw_comes (l : Launch) (hst : l.stackTraces = false) : Comes l x (Jvm.Cond.code x code maxLocals ret :: tables_1) room_1 (fun tb e args s => Calls_1 tb e args s ∧ rest_1 tb e args s ∧ Pre_1 tb e args s)
    (fun _ _ args s o t => lw_Q args s o t) := by
  intro p e ha hc hk s m args below hf hfit hheap happ hpre
  obtain ⟨b, xs, hP⟩ := lw_pre_spec hpre.2.2 hpre.2.1
  obtain ⟨k, o, h1, h2, h3, hQ⟩ := lw_walk l hst b xs p e ha hc hk s m args below hf ((Spec.applies_iff_loose hf).mp happ).1 hP trivial
  exact ⟨k, o, h1, h2, h3, hQ⟩
theorem lw_frame {s t : State} {o : Outcome} {args : Array Value} (h : Framed s o t [] 603072 7190184) :
    Framed s o t (fieldLocs frame_1_writes args s ++ arrayLocs frame_1_arrays args s ++ staticLocs frame_1_statics s) 603072 7190184 := h
theorem lw_limb (L : Cond) (hL : ∀ (args : Array Value) (s t : State), L.after args s (.returned (some (.int 1))) t = true) :
    ArmFor flags0 classFile x code maxLocals ret World_1 tables_1 room_1 Calls_1 rest_1 Pre_1
      (fun tb e a s o t => postC L tb e a s o t ∧ Framed s o t (fieldLocs frame_1_writes a s ++ arrayLocs frame_1_arrays a s ++ staticLocs frame_1_statics s) 603072 7190184) := by
  intro l hfl _ _ p e ha hc hk s m args below hf hfit hheap happ hpre
  obtain ⟨k, o, h1, h2, h3, rfl, hF⟩ := lw_comes l (lw_st hfl) p e ha hc hk s m args below hf hfit hheap happ hpre
  exact ⟨k, _, h1, h2, h3, hL args s _, lw_frame hF⟩
theorem i_vc : Claimed_1_1 ∧ Claimed_1_2 := ⟨lw_limb limb_1_1 (fun args s t => by simp [limb_1_1, Cond.after, Cond.holds, Cond.value]), lw_limb limb_1_2 (fun args s t => Cond.after_iff.mpr (by
  first | (rw [show limb_1_2 = Cond.eq .result (.int 1) from rfl, Cond.eq_ints (x := 1) (y := 1) rfl rfl]; simp; done) | (simp [limb_1_2, Cond.value, Term.eval]; done)))⟩
