/-! making cells; a method that throws; calls out of a larger world -/
section KNW
variable {p : Program} {l : Launch} {e : Env} {R : Room} {s : State} {m : MethodId} {args : Array Value} {below : List Frame} {meth : Method} {c : Code} {H : Heap} {locs : List Loc} {cells slots : Nat} {Q : State → Prop}
variable {cc bytes : ByteArray} {pc nL maxL n k idx mc ms : Nat} {ls : Array Slot} {own C : String} {ret rt : Option FieldType} {D : va_G} {tys : List (ClassId × FieldType)} {A : Nat → Prop} {H0 : Heap} {y : MethodName} {b : Addr} {As rest st : List Value} {ws wc wr : va_W} {lv : List (Nat × Value)} {cI cZ cL : ClassId}
theorem k_newI (hx : p.tables.exec = Jvm.exec) (hb : c.code = cc) (hts : ∀ w ∈ ALL, w.before args s = true) (hK : va_K D vwCl (tyz cI cZ cL) s) (hP : va_P D vwCl ws H) (hD : va_D A ws) (hS : va_S A H0 H locs) (hA : ∀ q, H0.size ≤ q → A q) {x : Int32} (k : Nat) (h1 : x = nI k) (hk : k < 1000) (hcells : cells + 1 ≤ R.cells) (hslots : slots + k ≤ R.slots) (hdg : decode cc pc = .ok (.newarray .int, 2))
    (kk : ∀ (q : Nat) (H1 : Heap), va_P D vwCl (ws ++ [(q, .inl (cI, k, .inl (fun _ => 0)))]) H1 → va_D A (ws ++ [(q, .inl (cI, k, .inl (fun _ => 0)))]) → va_S A H0 H1 locs → W p l e R s m args below meth c H1 locs (cells + 1) (slots + k) Q (F0 m (pc + 2) ls (.ref q :: rest))) : W p l e R s m args below meth c H locs cells slots Q (F0 m pc ls (.int x :: rest)) := by
  subst h1
  refine va_newa (atype := .int) (ty := .int) (a0 := (k, .inl (fun _ => 0))) (N' := k) hx hb (hts _ wA_int) rfl hK hP hD hS hA (fun _ => rfl) (nI_pos (by omega)) (nI_clamp (by omega)) (by show k * 4 ≤ _; omega) hcells hslots hdg (fun q cA H1 hK1 hP1 hD1 hS1 => ?_)
  have e : cA = cI := Option.some.inj ((hK1.2 3 (cA, .int) rfl).2.symm.trans (hK.2 0 (cI, .int) rfl).2)
  subst e
  exact kk q H1 hP1 hD1 hS1
theorem k_newZ (hx : p.tables.exec = Jvm.exec) (hb : c.code = cc) (hts : ∀ w ∈ ALL, w.before args s = true) (hK : va_K D vwCl (tyz cI cZ cL) s) (hP : va_P D vwCl ws H) (hD : va_D A ws) (hS : va_S A H0 H locs) (hA : ∀ q, H0.size ≤ q → A q) {x : Int32} (k : Nat) (h1 : x = nI k) (hk : k < 1000) (hcells : cells + 1 ≤ R.cells) (hslots : slots + k ≤ R.slots) (hdg : decode cc pc = .ok (.newarray .boolean, 2))
    (kk : ∀ (q : Nat) (H1 : Heap), va_P D vwCl (ws ++ [(q, .inl (cZ, k, .inl (fun _ => 0)))]) H1 → va_D A (ws ++ [(q, .inl (cZ, k, .inl (fun _ => 0)))]) → va_S A H0 H1 locs → W p l e R s m args below meth c H1 locs (cells + 1) (slots + k) Q (F0 m (pc + 2) ls (.ref q :: rest))) : W p l e R s m args below meth c H locs cells slots Q (F0 m pc ls (.int x :: rest)) := by
  subst h1
  refine va_newa (atype := .boolean) (ty := .boolean) (a0 := (k, .inl (fun _ => 0))) (N' := k) hx hb (hts _ wA_boolean) rfl hK hP hD hS hA (fun _ => rfl) (nI_pos (by omega)) (nI_clamp (by omega)) (by show k * 1 ≤ _; omega) hcells hslots hdg (fun q cA H1 hK1 hP1 hD1 hS1 => ?_)
  have e : cA = cZ := Option.some.inj ((hK1.2 3 (cA, .boolean) rfl).2.symm.trans (hK.2 1 (cZ, .boolean) rfl).2)
  subst e
  exact kk q H1 hP1 hD1 hS1
theorem k_newL (hx : p.tables.exec = Jvm.exec) (hb : c.code = cc) (hts : ∀ w ∈ ALL, w.before args s = true) (hK : va_K D vwCl (tyz cI cZ cL) s) (hP : va_P D vwCl ws H) (hD : va_D A ws) (hS : va_S A H0 H locs) (hA : ∀ q, H0.size ≤ q → A q) {x : Int32} (k : Nat) (h1 : x = nI k) (hk : k < 1000) (hcells : cells + 1 ≤ R.cells) (hslots : slots + k ≤ R.slots) (hdg : decode cc pc = .ok (.newarray .long, 2))
    (kk : ∀ (q : Nat) (H1 : Heap), va_P D vwCl (ws ++ [(q, .inl (cL, k, .inr (.inl (fun _ => 0))))]) H1 → va_D A (ws ++ [(q, .inl (cL, k, .inr (.inl (fun _ => 0))))]) → va_S A H0 H1 locs → W p l e R s m args below meth c H1 locs (cells + 1) (slots + k) Q (F0 m (pc + 2) ls (.ref q :: rest))) : W p l e R s m args below meth c H locs cells slots Q (F0 m pc ls (.int x :: rest)) := by
  subst h1
  refine va_newa (atype := .long) (ty := .long) (a0 := (k, .inr (.inl (fun _ => 0)))) (N' := k) hx hb (hts _ wA_long) rfl hK hP hD hS hA (fun _ => rfl) (nI_pos (by omega)) (nI_clamp (by omega)) (by show k * 8 ≤ _; omega) hcells hslots hdg (fun q cA H1 hK1 hP1 hD1 hS1 => ?_)
  have e : cA = cL := Option.some.inj ((hK1.2 3 (cA, .long) rfl).2.symm.trans (hK.2 2 (cL, .long) rfl).2)
  subst e
  exact kk q H1 hP1 hD1 hS1
/-- which cells a part of a world may change: in the whole's -/
theorem k_part (hD : va_D A ws) (hS : va_S A H0 H locs) (hA : ∀ q, H0.size ≤ q → A q) (isC : List Nat) (hC : isC.map (fun i => ws[i]?) = wc.map some) : ∀ q, va_A wc H.size q → A q := va_free hD hS hA isC hC
theorem k_fm {α β : Type} {f : α → Option β} {l : List α} {w : List β} (h : l.map f = w.map some) : l.filterMap f = w := by
  have e : l.filterMap f = (l.map f).filterMap (fun x => x) := by rw [List.filterMap_map]; rfl
  rw [e, h, List.filterMap_map]
  change List.filterMap some w = w
  simp
theorem k_subP {is : List Nat} (hP : va_P D vwCl ws H) (h : is.map (fun i => ws[i]?) = wc.map some) : va_P D vwCl wc H := hP.sub is (k_fm h)
/-- a constructor: the callee's cells out of a larger world, and back -/
theorem k_callN {S : Type} {post : S → Prop} {wf : S → va_W} (X : Cx p s m args meth c cc nL own rt) (hK : va_K D vwCl tys s) (hN : NW s) (hP : va_P D vwCl ws H) (hD : va_D A ws) (hS : va_S A H0 H locs) (hA : ∀ q, H0.size ≤ q → A q) (hM : KN l y (.code y bytes maxL none) k mc ms D tys (.ref b :: As) wc post wf) (hl : lv_has ls nL lv) (F : CfI y bytes maxL n) (hlk : Cond.methodLink own idx y ∈ ALL)
    (isC isR : List Nat) (hC : isC.map (fun i => ws[i]?) = wc.map some) (hR : isR.map (fun i => ws[i]?) = wr.map some) (hnC : va_nd isC = true) (hnR : va_nd isR = true) (hdis : ∀ i ∈ isR, i ∉ isC) (hn : As.length = n) (hst : st = As.reverse ++ .ref b :: rest) (hW : (rest.map fun v => v.category).sum ≤ 8) (hRm : k + 1 ≤ R.frames ∧ 8 + (maxL + 11) + 40 * k ≤ R.locals) (hf : cells + mc ≤ R.cells ∧ slots + ms ≤ R.slots) (hdg : decode cc pc = .ok (.invokespecial idx, 3))
    (kk : ∀ (u : S) (H1 : Heap) (locs1 : List Loc), post u → va_P D vwCl (wr ++ wf u) H1 → va_D A (wr ++ wf u) → va_S A H0 H1 locs1 → W p l e R s m args below meth c H1 locs1 (cells + mc) (slots + ms) Q (F0 m (pc + 3) ls rest)) : W p l e R s m args below meth c H locs cells slots Q (F0 m pc ls st) := by
  subst hst
  obtain ⟨hx, hb, hml, ho, hts, -⟩ := X
  obtain ⟨⟨f1, f2, f3, f4⟩, f5⟩ := F
  have hPc := hP.sub (ws' := wc) isC (k_fm hC)
  have hDc := hD.sub (ws' := wc) isC hnC hC
  have hF := va_free (wc := wc) hD hS hA isC hC
  refine va_callv (va_runI (As := As) (rest := rest) ⟨hx, hb, hml, ho, hts⟩ (hM H.size) ⟨callB_of n hts (all_goodC f3) rfl rfl rfl (hts _ f2) (hts _ hlk) f5 hRm, f4, hts _ f1⟩ ⟨k_blind, k_preU hK hN hPc hDc _⟩ rfl hn hl.1 rfl (lv_room hW) hdg hf) hS (fun q _ h => hF q h) hF (fun u t H1 locs1 ht hvm hp hB hz hk hS1 => ?_)
  obtain ⟨hP1, hK1, hD1⟩ := hB
  rw [ht] at hP1
  obtain ⟨hP2, hD2⟩ := va_join (wr := wr) (w1 := wf u) hP hD isC isR hC hR hnR hdis hk hF hP1 hD1
  exact kk u H1 locs1 hp hP2 hD2 hS1
theorem k_callNN {S : Type} {post : S → Prop} {wf : S → va_W} {host : String} (X : Cx p s m args meth c cc nL own rt) (hK : va_K D vwCl tys s) (hN : NW s) (hP : va_P D vwCl ws H) (hD : va_D A ws) (hS : va_S A H0 H locs) (hA : ∀ q, H0.size ≤ q → A q) (hM : KN l y (.code y bytes maxL none) k mc ms D tys (.ref b :: As) wc post wf) (hl : lv_has ls nL lv) (F : CfI y bytes maxL n) (hlk : va_Nw (.methodLinkNest own idx y host) s)
    (isC isR : List Nat) (hC : isC.map (fun i => ws[i]?) = wc.map some) (hR : isR.map (fun i => ws[i]?) = wr.map some) (hnC : va_nd isC = true) (hnR : va_nd isR = true) (hdis : ∀ i ∈ isR, i ∉ isC) (hn : As.length = n) (hst : st = As.reverse ++ .ref b :: rest) (hW : (rest.map fun v => v.category).sum ≤ 8) (hRm : k + 1 ≤ R.frames ∧ 8 + (maxL + 11) + 40 * k ≤ R.locals) (hf : cells + mc ≤ R.cells ∧ slots + ms ≤ R.slots) (hdg : decode cc pc = .ok (.invokespecial idx, 3))
    (kk : ∀ (u : S) (H1 : Heap) (locs1 : List Loc), post u → va_P D vwCl (wr ++ wf u) H1 → va_D A (wr ++ wf u) → va_S A H0 H1 locs1 → W p l e R s m args below meth c H1 locs1 (cells + mc) (slots + ms) Q (F0 m (pc + 3) ls rest)) : W p l e R s m args below meth c H locs cells slots Q (F0 m pc ls st) := by
  subst hst
  obtain ⟨hx, hb, hml, ho, hts, -⟩ := X
  obtain ⟨⟨f1, f2, f3, f4⟩, f5⟩ := F
  have hPc := hP.sub (ws' := wc) isC (k_fm hC)
  have hDc := hD.sub (ws' := wc) isC hnC hC
  have hF := va_free (wc := wc) hD hS hA isC hC
  refine va_callv (va_runIN (As := As) (rest := rest) ⟨hx, hb, hml, ho, hts⟩ (hM H.size) ⟨va_cnB n hts (all_goodC f3) rfl rfl rfl hlk (hts _ f2) f5 hRm, f4, hts _ f1⟩ ⟨k_blind, k_preU hK hN hPc hDc _⟩ rfl hn hl.1 rfl (lv_room hW) hdg hf) hS (fun q _ h => hF q h) hF (fun u t H1 locs1 ht hvm hp hB hz hk hS1 => ?_)
  obtain ⟨hP1, hK1, hD1⟩ := hB
  rw [ht] at hP1
  obtain ⟨hP2, hD2⟩ := va_join (wr := wr) (w1 := wf u) hP hD isC isR hC hR hnR hdis hk hF hP1 hD1
  exact kk u H1 locs1 hp hP2 hD2 hS1
/-- an instance method, its world out of a larger one, and back -/
theorem k_callIJ {S : Type} {post : Int32 → S → Prop} {wf : S → va_W} (X : Cx p s m args meth c cc nL own rt) (hK : va_K D vwCl tys s) (hN : NW s) (hP : va_P D vwCl ws H) (hD : va_D A ws) (hS : va_S A H0 H locs) (hA : ∀ q, H0.size ≤ q → A q) (hM : KI l y (.code y bytes maxL ret) k D tys (.ref b :: As) wc post wf) (hl : lv_has ls nL lv) (F : CfV C y bytes maxL ret n) (hlk : Cond.methodLink own idx y ∈ ALL)
    (isC isR : List Nat) (hC : isC.map (fun i => ws[i]?) = wc.map some) (hR : isR.map (fun i => ws[i]?) = wr.map some) (hnC : va_nd isC = true) (hnR : va_nd isR = true) (hdis : ∀ i ∈ isR, i ∉ isC)
    (q0 ci : Nat) {T : u_T} {N : Nat} {fs : List Value} (hc : vwCl[ci]? = some (C, T, N)) (he : wc[q0]? = some (b, .inr (ci, fs))) (hn : As.length = n) (hst : st = As.reverse ++ .ref b :: rest) (hW : (rest.map fun v => v.category).sum ≤ 8) (hRm : k + 1 ≤ R.frames ∧ 8 + (maxL + 11) + 40 * k ≤ R.locals) (hf : cells ≤ R.cells ∧ slots ≤ R.slots) (hdg : decode cc pc = .ok (.invokevirtual idx, 3))
    (kk : ∀ (r : Int32) (u : S) (H1 : Heap) (locs1 : List Loc), post r u → va_P D vwCl (wr ++ wf u) H1 → va_D A (wr ++ wf u) → va_S A H0 H1 locs1 → W p l e R s m args below meth c H1 locs1 cells slots Q (F0 m (pc + 3) ls (.int r :: rest))) : W p l e R s m args below meth c H locs cells slots Q (F0 m pc ls st) := by
  subst hst
  obtain ⟨hx, hb, hml, ho, hts, -⟩ := X
  obtain ⟨⟨f1, f2, f3, f4⟩, f5⟩ := F
  have hPc := hP.sub (ws' := wc) isC (k_fm hC)
  have hDc := hD.sub (ws' := wc) isC hnC hC
  have hF := va_free (wc := wc) hD hS hA isC hC
  refine va_calli (va_runV (As := As) (rest := rest) (C := C) ⟨hx, hb, hml, ho, hts⟩ (hM H.size) (cwV n hts (k_wV hlk f1 f2 f3 f4) rfl rfl rfl f5 hRm) ⟨k_blind, va_recv hK hPc hc he, k_preU hK hN hPc hDc _⟩ rfl hn hl.1 rfl (lv_room hW) hdg hf) hS (fun q _ h => hF q h) hF (fun r u t H1 locs1 ht hvm hp hB hz hk hS1 => ?_)
  obtain ⟨hP1, hK1, hD1⟩ := hB
  rw [ht] at hP1
  obtain ⟨hP2, hD2⟩ := va_join (wr := wr) (w1 := wf u) hP hD isC isR hC hR hnR hdis hk hF hP1 hD1
  exact kk r u H1 locs1 hp hP2 hD2 hS1
theorem k_callRJ {post : Int32 → Prop} (X : Cx p s m args meth c cc nL own rt) (hK : va_K D vwCl tys s) (hN : NW s) (hP : va_P D vwCl ws H) (hD : va_D A ws) (hM : KR l y (.code y bytes maxL ret) k D tys (.ref b :: As) wc post) (hl : lv_has ls nL lv) (F : CfV C y bytes maxL ret n) (hlk : Cond.methodLink own idx y ∈ ALL)
    (isC : List Nat) (hC : isC.map (fun i => ws[i]?) = wc.map some) (hnC : va_nd isC = true) (q0 ci : Nat) {T : u_T} {N : Nat} {fs : List Value} (hc : vwCl[ci]? = some (C, T, N)) (he : wc[q0]? = some (b, .inr (ci, fs))) (hn : As.length = n) (hst : st = As.reverse ++ .ref b :: rest) (hW : (rest.map fun v => v.category).sum ≤ 8) (hRm : k + 1 ≤ R.frames ∧ 8 + (maxL + 11) + 40 * k ≤ R.locals) (hf : cells ≤ R.cells ∧ slots ≤ R.slots) (hdg : decode cc pc = .ok (.invokevirtual idx, 3))
    (kk : ∀ r : Int32, post r → W p l e R s m args below meth c H locs cells slots Q (F0 m (pc + 3) ls (.int r :: rest))) : W p l e R s m args below meth c H locs cells slots Q (F0 m pc ls st) :=
  k_callR X hK hN (hP.sub (ws' := wc) isC (k_fm hC)) (hD.sub (ws' := wc) isC hnC hC) hM hl F hlk q0 ci hc he hn hst hW hRm hf hdg kk
end KNW
