/-! what every method's proof stands on: the nest links, the context of a body, contracts in one form, calls -/
def NW (U : State) : Prop := va_Nw (.fieldLinkNest RX4 87 "FlexCycles$Nodes" "state" "[I" "FlexCycles") U ∧ va_Nw (.fieldLinkNest RX4 90 "FlexCycles$Nodes" "error" "[I" "FlexCycles") U ∧ va_Nw (.fieldLinkNest RX4 79 "FlexCycles$Nodes" "drift" "[I" "FlexCycles") U ∧ va_Nw (.fieldLinkNest RX4 93 "FlexCycles$Nodes" "rate" "[I" "FlexCycles") U ∧ va_Nw (.fieldLinkNest RX3 66 "FlexCycles$Nodes" "heard" "[Z" "FlexCycles") U ∧ va_Nw (.fieldLinkNest RX4 118 "FlexCycles$Nodes" "lastMidpoint" "[I" "FlexCycles") U ∧ va_Nw (.methodLinkNest RX4 31 yX3_init "FlexCycles") U ∧ va_Nw (.methodLinkNest RX4 38 yX0_init "FlexCycles") U ∧ va_Nw (.declares ⟨"java/lang/IndexOutOfBoundsException", "<init>", "()V"⟩) U ∧ va_Nw (.declares ⟨"java/lang/RuntimeException", "<init>", "()V"⟩) U ∧ va_Nw (.declares ⟨"java/lang/Exception", "<init>", "()V"⟩) U ∧ va_Nw (.declares ⟨"java/lang/Throwable", "<init>", "()V"⟩) U ∧ va_Nw (.castable RJx00060 RJx00060) U
theorem NW.same {u U : State} (h : u.vm = U.vm) (z : NW u) : NW U := by
  obtain ⟨a, b, c, d, e, f, g, i, j, k, l, m, n⟩ := z
  exact ⟨va_Nw.same rfl h a, va_Nw.same rfl h b, va_Nw.same rfl h c, va_Nw.same rfl h d, va_Nw.same rfl h e, va_Nw.same rfl h f, va_Nw.same rfl h g, va_Nw.same rfl h i, va_Nw.same rfl h j, va_Nw.same rfl h k, va_Nw.same rfl h l, va_Nw.same rfl h m, va_Nw.same rfl h n⟩
theorem NW.warm {s U : State} (h : s.WarmedH U.vm) (z : NW s) : NW U := by
  obtain ⟨a, b, c, d, e, f, g, i, j, k, l, m, n⟩ := z
  exact ⟨va_Nw.warmF h a, va_Nw.warmF h b, va_Nw.warmF h c, va_Nw.warmF h d, va_Nw.warmF h e, va_Nw.warmF h f, va_Nw.warmM h g, va_Nw.warmM h i, va_Nw.warmD h j, va_Nw.warmD h k, va_Nw.warmD h l, va_Nw.warmD h m, va_tabs rfl (rfl : (s.setVm U.vm).vm = U.vm) (by rw [Cond.castable_setVm h.alike]; exact n)⟩
/-- a body's fixed context -/
def Cx (p : Program) (s : State) (m : MethodId) (args : Array Value) (meth : Method) (c : Code) (cc : ByteArray) (nL : Nat) (own : String) (ret : Option FieldType) : Prop :=
  p.tables.exec = Jvm.exec ∧ c.code = cc ∧ c.maxLocals = nL ∧ s.vm.findClass own = some m.cls ∧ (∀ w ∈ ALL, w.before args s = true) ∧ meth.sig.returnType = ret ∧ meth.locks = false
def rmK (k : Nat) : Room := { frames := k, cells := 0, slots := 0, locals := 40 * k }
def rmN (k mc ms : Nat) : Room := { frames := k, cells := mc, slots := ms, locals := 40 * k }
def kpre (D : va_G) (tys : List (ClassId × FieldType)) (ws : va_W) (sz : Nat) (U : State) : Prop := U.heap.size = sz ∧ va_P D vwCl ws U.heap ∧ va_K D vwCl tys U ∧ va_D (fun _ => True) ws ∧ NW U
def kpost (D : va_G) (tys : List (ClassId × FieldType)) (A : Nat → Prop) (ws : va_W) (t : State) : Prop := va_P D vwCl ws t.heap ∧ va_K D vwCl tys t ∧ va_D A ws
/-- contracts: KR reads and answers an int, RL a long; KI, KV change the world; KN makes cells -/
def KR (l : Launch) (y : MethodName) (cd : Cond) (k : Nat) (D : va_G) (tys : List (ClassId × FieldType)) (av : List Value) (ws : va_W) (post : Int32 → Prop) : Prop := ∀ sz : Nat, Met l y (cd :: ALL) (rmK k) (va_Pc av (kpre D tys ws sz)) (vp_Si post) 0 0 (fun _ => False)
def RL2 (l : Launch) (y : MethodName) (cd : Cond) (k : Nat) (D : va_G) (tys : List (ClassId × FieldType)) (av : List Value) (ws : va_W) (post : Int64 → Prop) : Prop := ∀ sz : Nat, Met l y (cd :: ALL) (rmK k) (va_Pc av (kpre D tys ws sz)) (vp_Sl post) 0 0 (fun _ => False)
def KI {S : Type} (l : Launch) (y : MethodName) (cd : Cond) (k : Nat) (D : va_G) (tys : List (ClassId × FieldType)) (av : List Value) (ws : va_W) (post : Int32 → S → Prop) (wf : S → va_W) : Prop := ∀ sz : Nat, Met l y (cd :: ALL) (rmK k) (va_Pc av (kpre D tys ws sz)) (va_Qi post (fun u => kpost D tys (va_A ws sz) (wf u)) (va_A ws sz)) 0 0 (va_A ws sz)
def KN {S : Type} (l : Launch) (y : MethodName) (cd : Cond) (k mc ms : Nat) (D : va_G) (tys : List (ClassId × FieldType)) (av : List Value) (ws : va_W) (post : S → Prop) (wf : S → va_W) : Prop := ∀ sz : Nat, Met l y (cd :: ALL) (rmN k mc ms) (va_Pc av (kpre D tys ws sz)) (va_Qv post (fun u => kpost D tys (va_A ws sz) (wf u)) (va_A ws sz)) mc ms (va_A ws sz)
abbrev KV {S : Type} (l : Launch) (y : MethodName) (cd : Cond) (k : Nat) (D : va_G) (tys : List (ClassId × FieldType)) (av : List Value) (ws : va_W) (post : S → Prop) (wf : S → va_W) : Prop := KN l y cd k 0 0 D tys av ws post wf
theorem cx_of {p : Program} {l : Launch} {y : MethodName} {cd : Cond} {rm : Room} {cc : ByteArray} {nL : Nat} {ret : Option FieldType} {e : Env} {s : State} {m : MethodId} {args : Array Value} {below : List Frame} {meth : Method} {c : Code} {s₁ : State} {own : String} (ho : y.cls = own)
    (B : BodyLoose p l y (headSpec (cd :: ALL) rm) cc nL ret e s m args below meth c s₁) (hml : c.maxLocals = nL) : Cx p s m args meth c cc nL own ret := by
  have hts := atoms_spec (ws := cd :: ALL) B.pre
  exact ⟨B.exec, B.bytes, hml, by rw [← ho]; exact findClass_of_methodNamed B.named, fun w h => hts w (List.mem_cons_of_mem _ h), B.returns, B.notSynchronized⟩
section Ends
variable {p : Program} {l : Launch} {e : Env} {R : Room} {s : State} {m : MethodId} {args : Array Value} {below : List Frame} {meth : Method} {c : Code} {H : Heap} {locs : List Loc} {cells slots : Nat} {Q : State → Prop}
variable {cc : ByteArray} {pc nL : Nat} {ls : Array Slot} {own : String} {D : va_G} {tys : List (ClassId × FieldType)} {A : Nat → Prop}
theorem k_retR {post : Int32 → Prop} {v : Int32} (C : Cx p s m args meth c cc nL own (some .int)) (d : decode cc pc = .ok (.ireturn, 1)) (hv : post v) : W p l e R s m args below meth c s.heap [] 0 0 (MQ below (vp_Si post) args s 0 0 (fun _ => False)) (F0 m pc ls [.int v]) :=
  W.iret C.1 C.2.1 C.2.2.2.2.2.1 (fun t ht hW => ⟨v, rfl, hv, ht⟩) (fun q h => by cases h) d C.2.2.2.2.2.2
theorem k_retRz {post : Int32 → Prop} {v : Int32} (C : Cx p s m args meth c cc nL own (some .boolean)) (d : decode cc pc = .ok (.ireturn, 1)) (hz : narrow .boolean (.int v) = .int v) (hv : post v) : W p l e R s m args below meth c s.heap [] 0 0 (MQ below (vp_Si post) args s 0 0 (fun _ => False)) (F0 m pc ls [.int v]) :=
  W.zret C.1 C.2.1 C.2.2.2.2.2.1 hz (fun t ht hW => ⟨v, rfl, hv, ht⟩) (fun q h => by cases h) d C.2.2.2.2.2.2
theorem k_retRl {post : Int64 → Prop} {v : Int64} (C : Cx p s m args meth c cc nL own (some .long)) (d : decode cc pc = .ok (.lreturn, 1)) (hv : post v) : W p l e R s m args below meth c s.heap [] 0 0 (MQ below (vp_Sl post) args s 0 0 (fun _ => False)) (F0 m pc ls [.long v]) :=
  W.lret C.1 C.2.1 C.2.2.2.2.2.1 (fun t ht hW => ⟨v, rfl, hv, ht⟩) (fun q h => by cases h) d C.2.2.2.2.2.2
theorem k_retI {S : Type} {post : Int32 → S → Prop} {wf : S → va_W} {v : Int32} (C : Cx p s m args meth c cc nL own (some .int)) (hK : va_K D vwCl tys s) (d : decode cc pc = .ok (.ireturn, 1)) (u : S) (hP : va_P D vwCl (wf u) H) (hD : va_D A (wf u)) (hS : va_S A s.heap H locs) (hv : post v u) : W p l e R s m args below meth c H locs 0 0 (MQ below (va_Qi post (fun u => kpost D tys A (wf u)) A) args s 0 0 A) (F0 m pc ls [.int v]) :=
  W.iret C.1 C.2.1 C.2.2.2.2.2.1 (fun t ht hW => ⟨⟨v, u, rfl, hv, by rw [ht]; exact hP, va_K.moved hW.alike hK, hD⟩, hS.F ht⟩) hS.2.2 d C.2.2.2.2.2.2
theorem k_retV {S : Type} {post : S → Prop} {wf : S → va_W} (C : Cx p s m args meth c cc nL own none) (hK : va_K D vwCl tys s) (d : decode cc pc = .ok (.return_, 1)) (u : S) (hP : va_P D vwCl (wf u) H) (hD : va_D A (wf u)) (hS : va_S A s.heap H locs) (hv : post u) : W p l e R s m args below meth c H locs cells slots (MQ below (va_Qv post (fun u => kpost D tys A (wf u)) A) args s cells slots A) (F0 m pc ls []) :=
  W.vret C.1 C.2.1 C.2.2.2.2.2.1 (fun t ht hW => ⟨⟨u, rfl, hv, by rw [ht]; exact hP, va_K.moved hW.alike hK, hD⟩, hS.F ht⟩) hS.2.2 d C.2.2.2.2.2.2
theorem k_retIz {S : Type} {post : Int32 → S → Prop} {wf : S → va_W} {v : Int32} (C : Cx p s m args meth c cc nL own (some .boolean)) (hK : va_K D vwCl tys s) (d : decode cc pc = .ok (.ireturn, 1)) (hz : narrow .boolean (.int v) = .int v) (u : S) (hP : va_P D vwCl (wf u) H) (hD : va_D A (wf u)) (hS : va_S A s.heap H locs) (hv : post v u) : W p l e R s m args below meth c H locs 0 0 (MQ below (va_Qi post (fun u => kpost D tys A (wf u)) A) args s 0 0 A) (F0 m pc ls [.int v]) :=
  W.zret C.1 C.2.1 C.2.2.2.2.2.1 hz (fun t ht hW => ⟨⟨v, u, rfl, hv, by rw [ht]; exact hP, va_K.moved hW.alike hK, hD⟩, hS.F ht⟩) hS.2.2 d C.2.2.2.2.2.2
end Ends
theorem narrow_z {v : Int32} (h : v = 0 ∨ v = 1) : narrow .boolean (.int v) = .int v := by rcases h with rfl | rfl <;> rfl
section Entry
variable {l : Launch} {y : MethodName} {k nL : Nat} {D : va_G} {tys : List (ClassId × FieldType)} {av : List Value} {ws : va_W} {cc : ByteArray} {ret : Option FieldType} {own : String} {lvs : List (Nat × Value)}
theorem KR.of {post : Int32 → Prop} (hy : plainName y.cls = true) (ho : y.cls = own) (hn : (lg_sl av).length ≤ nL) (hlv : lv_args 0 av = lvs)
    (body : ∀ p e s m args below meth c (Q : State → Prop), Cx p s m args meth c cc nL own (some .int) → va_K D vwCl tys s → NW s → va_P D vwCl ws s.heap → va_D (fun _ => True) ws → (∀ (v : Int32) (ls : Array Slot) (pc : Nat), decode cc pc = .ok (.ireturn, 1) → post v → W p l e (rmK k) s m args below meth c s.heap [] 0 0 Q (F0 m pc ls [.int v])) → ∀ ls : Array Slot, lv_has ls nL lvs →
      W p l e (rmK k) s m args below meth c s.heap [] 0 0 Q (F0 m 0 ls [])) : KR l y (.code y cc nL (some .int)) k D tys av ws post := by
  intro sz
  refine Met.ofW (cc := cc) (maxL := nL) (ret := some .int) hy rfl ?_
  intro p e s m args below meth c s₁ B hml hv
  obtain ⟨rfl, hsz, hP, hK, hD, hN⟩ := hv
  have hl := lv_entry av (n := nL) hn
  rw [hlv] at hl
  rw [lg_entry_eq]
  have X := cx_of (cd := .code y cc nL (some .int)) ho B hml
  exact body p e s m _ below meth c _ X hK hN hP hD (fun v ls pc d h => k_retR X d h) _ hl
theorem KR.ofz {post : Int32 → Prop} (hy : plainName y.cls = true) (ho : y.cls = own) (hn : (lg_sl av).length ≤ nL) (hlv : lv_args 0 av = lvs)
    (body : ∀ p e s m args below meth c (Q : State → Prop), Cx p s m args meth c cc nL own (some .boolean) → va_K D vwCl tys s → NW s → va_P D vwCl ws s.heap → va_D (fun _ => True) ws → (∀ (v : Int32) (ls : Array Slot) (pc : Nat), decode cc pc = .ok (.ireturn, 1) → (v = 0 ∨ v = 1) → post v → W p l e (rmK k) s m args below meth c s.heap [] 0 0 Q (F0 m pc ls [.int v])) → ∀ ls : Array Slot, lv_has ls nL lvs →
      W p l e (rmK k) s m args below meth c s.heap [] 0 0 Q (F0 m 0 ls [])) : KR l y (.code y cc nL (some .boolean)) k D tys av ws post := by
  intro sz
  refine Met.ofW (cc := cc) (maxL := nL) (ret := some .boolean) hy rfl ?_
  intro p e s m args below meth c s₁ B hml hv
  obtain ⟨rfl, hsz, hP, hK, hD, hN⟩ := hv
  have hl := lv_entry av (n := nL) hn
  rw [hlv] at hl
  rw [lg_entry_eq]
  have X := cx_of (cd := .code y cc nL (some .boolean)) ho B hml
  exact body p e s m _ below meth c _ X hK hN hP hD (fun v ls pc d hz h => k_retRz X d (narrow_z hz) h) _ hl
theorem RL2.of {post : Int64 → Prop} (hy : plainName y.cls = true) (ho : y.cls = own) (hn : (lg_sl av).length ≤ nL) (hlv : lv_args 0 av = lvs)
    (body : ∀ p e s m args below meth c (Q : State → Prop), Cx p s m args meth c cc nL own (some .long) → va_K D vwCl tys s → NW s → va_P D vwCl ws s.heap → va_D (fun _ => True) ws → (∀ (v : Int64) (ls : Array Slot) (pc : Nat), decode cc pc = .ok (.lreturn, 1) → post v → W p l e (rmK k) s m args below meth c s.heap [] 0 0 Q (F0 m pc ls [.long v])) → ∀ ls : Array Slot, lv_has ls nL lvs →
      W p l e (rmK k) s m args below meth c s.heap [] 0 0 Q (F0 m 0 ls [])) : RL2 l y (.code y cc nL (some .long)) k D tys av ws post := by
  intro sz
  refine Met.ofW (cc := cc) (maxL := nL) (ret := some .long) hy rfl ?_
  intro p e s m args below meth c s₁ B hml hv
  obtain ⟨rfl, hsz, hP, hK, hD, hN⟩ := hv
  have hl := lv_entry av (n := nL) hn
  rw [hlv] at hl
  rw [lg_entry_eq]
  have X := cx_of (cd := .code y cc nL (some .long)) ho B hml
  exact body p e s m _ below meth c _ X hK hN hP hD (fun v ls pc d h => k_retRl X d h) _ hl
theorem KI.of {S : Type} {post : Int32 → S → Prop} {wf : S → va_W} (hy : plainName y.cls = true) (ho : y.cls = own) (hn : (lg_sl av).length ≤ nL) (hlv : lv_args 0 av = lvs)
    (body : ∀ p e s m args below meth c (Q : State → Prop), Cx p s m args meth c cc nL own (some .int) → va_K D vwCl tys s → NW s → ∀ A : Nat → Prop, (∀ q : Nat, s.heap.size ≤ q → A q) → va_P D vwCl ws s.heap → va_D A ws → va_S A s.heap s.heap [] → (∀ (v : Int32) (u : S) (H : Heap) (locs : List Loc) (ls : Array Slot) (pc : Nat), decode cc pc = .ok (.ireturn, 1) → va_P D vwCl (wf u) H → va_D A (wf u) → va_S A s.heap H locs → post v u → W p l e (rmK k) s m args below meth c H locs 0 0 Q (F0 m pc ls [.int v])) → ∀ ls : Array Slot, lv_has ls nL lvs →
      W p l e (rmK k) s m args below meth c s.heap [] 0 0 Q (F0 m 0 ls [])) : KI l y (.code y cc nL (some .int)) k D tys av ws post wf := by
  intro sz
  refine Met.ofW (cc := cc) (maxL := nL) (ret := some .int) hy rfl ?_
  intro p e s m args below meth c s₁ B hml hv
  obtain ⟨rfl, hsz, hP, hK, hD, hN⟩ := hv
  subst hsz
  have hl := lv_entry av (n := nL) hn
  rw [hlv] at hl
  rw [lg_entry_eq]
  have X := cx_of (cd := .code y cc nL (some .int)) ho B hml
  exact body p e s m _ below meth c _ X hK hN _ (fun q h => Or.inr h) hP hD.self va_S.rf (fun v u H locs ls pc d hP hD hS h => k_retI X hK d u hP hD hS h) _ hl
theorem KI.ofz {S : Type} {post : Int32 → S → Prop} {wf : S → va_W} (hy : plainName y.cls = true) (ho : y.cls = own) (hn : (lg_sl av).length ≤ nL) (hlv : lv_args 0 av = lvs)
    (body : ∀ p e s m args below meth c (Q : State → Prop), Cx p s m args meth c cc nL own (some .boolean) → va_K D vwCl tys s → NW s → ∀ A : Nat → Prop, (∀ q : Nat, s.heap.size ≤ q → A q) → va_P D vwCl ws s.heap → va_D A ws → va_S A s.heap s.heap [] → (∀ (v : Int32) (u : S) (H : Heap) (locs : List Loc) (ls : Array Slot) (pc : Nat), decode cc pc = .ok (.ireturn, 1) → (v = 0 ∨ v = 1) → va_P D vwCl (wf u) H → va_D A (wf u) → va_S A s.heap H locs → post v u → W p l e (rmK k) s m args below meth c H locs 0 0 Q (F0 m pc ls [.int v])) → ∀ ls : Array Slot, lv_has ls nL lvs →
      W p l e (rmK k) s m args below meth c s.heap [] 0 0 Q (F0 m 0 ls [])) : KI l y (.code y cc nL (some .boolean)) k D tys av ws post wf := by
  intro sz
  refine Met.ofW (cc := cc) (maxL := nL) (ret := some .boolean) hy rfl ?_
  intro p e s m args below meth c s₁ B hml hv
  obtain ⟨rfl, hsz, hP, hK, hD, hN⟩ := hv
  subst hsz
  have hl := lv_entry av (n := nL) hn
  rw [hlv] at hl
  rw [lg_entry_eq]
  have X := cx_of (cd := .code y cc nL (some .boolean)) ho B hml
  exact body p e s m _ below meth c _ X hK hN _ (fun q h => Or.inr h) hP hD.self va_S.rf (fun v u H locs ls pc d hz hP hD hS h => k_retIz X hK d (narrow_z hz) u hP hD hS h) _ hl
theorem KN.of {S : Type} {post : S → Prop} {wf : S → va_W} {mc ms : Nat} (hy : plainName y.cls = true) (ho : y.cls = own) (hn : (lg_sl av).length ≤ nL) (hlv : lv_args 0 av = lvs)
    (body : ∀ p e s m args below meth c (Q : State → Prop), Cx p s m args meth c cc nL own none → va_K D vwCl tys s → NW s → ∀ A : Nat → Prop, (∀ q : Nat, s.heap.size ≤ q → A q) → va_P D vwCl ws s.heap → va_D A ws → va_S A s.heap s.heap [] → meth.name = y.name → (∀ (u : S) (H : Heap) (locs : List Loc) (ls : Array Slot) (pc : Nat), decode cc pc = .ok (.return_, 1) → va_P D vwCl (wf u) H → va_D A (wf u) → va_S A s.heap H locs → post u → W p l e (rmN k mc ms) s m args below meth c H locs mc ms Q (F0 m pc ls [])) → ∀ ls : Array Slot, lv_has ls nL lvs →
      W p l e (rmN k mc ms) s m args below meth c s.heap [] 0 0 Q (F0 m 0 ls [])) : KN l y (.code y cc nL none) k mc ms D tys av ws post wf := by
  intro sz
  refine Met.ofW (cc := cc) (maxL := nL) (ret := none) hy rfl ?_
  intro p e s m args below meth c s₁ B hml hv
  obtain ⟨rfl, hsz, hP, hK, hD, hN⟩ := hv
  subst hsz
  have hl := lv_entry av (n := nL) hn
  rw [hlv] at hl
  rw [lg_entry_eq]
  have X := cx_of (cd := .code y cc nL none) ho B hml
  exact body p e s m _ below meth c _ X hK hN _ (fun q h => Or.inr h) hP hD.self va_S.rf (name_of_methodNamed B.named B.method).1 (fun u H locs ls pc d hP hD hS h => k_retV X hK d u hP hD hS h) _ hl
end Entry
theorem k_blind {D : va_G} {tys : List (ClassId × FieldType)} {av : List Value} {ws : va_W} {sz : Nat} : FrameBlind (va_Pc av (kpre D tys ws sz)) := fun a U g mk q => by
  obtain ⟨q0, q1, qP, qK, qD, qN⟩ := q
  exact ⟨q0, q1, qP, va_K.moved (u := U) (U := U.calling g mk a) (Vm.Alike.refl U.vm) qK, qD, NW.same rfl qN⟩
theorem k_wV {own C : String} {idx : Nat} {y : MethodName} {cd : Cond} (h1 : Cond.methodLink own idx y ∈ ALL) (h2 : Cond.instanceMethod y ∈ ALL) (h3 : Cond.selects C y y ∈ ALL) (h4 : Cond.initialized C ∈ ALL) (h5 : cd ∈ ALL) : GoodIn ALL (wsV own idx C y (cd :: ALL)) := fun w h => by
  rcases List.mem_append.mp h with h | h
  · simp only [List.mem_cons, List.not_mem_nil, or_false] at h
    rcases h with rfl | rfl | rfl | rfl
    · exact all_good _ h1
    · exact all_good _ h2
    · exact all_good _ h3
    · exact all_good _ h4
  · exact all_goodC h5 w h
theorem k_wS {own : String} {idx : Nat} {y : MethodName} {cd : Cond} (h1 : Cond.methodLink own idx y ∈ ALL) (h2 : Cond.static y ∈ ALL) (h4 : Cond.initialized y.cls ∈ ALL) (h5 : cd ∈ ALL) : GoodIn ALL (va_wsS own idx y (cd :: ALL)) := fun w h => by
  rcases List.mem_append.mp h with h | h
  · simp only [List.mem_cons, List.not_mem_nil, or_false] at h
    rcases h with rfl | rfl | rfl
    · exact all_good _ h1
    · exact all_good _ h2
    · exact all_good _ h4
  · exact all_goodC h5 w h
/-- what a call of y, an instance method of C, needs of the tables -/
def CfV (C : String) (y : MethodName) (bytes : ByteArray) (maxL : Nat) (ret : Option FieldType) (n : Nat) : Prop := (Cond.instanceMethod y ∈ ALL ∧ Cond.selects C y y ∈ ALL ∧ Cond.initialized C ∈ ALL ∧ Cond.code y bytes maxL ret ∈ ALL) ∧ (y.cls = C ∧ y.cls ≠ "java/lang/invoke/MethodHandle" ∧ y.cls ≠ "java/lang/invoke/VarHandle" ∧ (parseMethodDescriptor y.desc).map (fun d => d.parameters.length) = some n)
def CfS (y : MethodName) (bytes : ByteArray) (maxL : Nat) (ret : Option FieldType) (n : Nat) : Prop := (Cond.static y ∈ ALL ∧ Cond.initialized y.cls ∈ ALL ∧ Cond.code y bytes maxL ret ∈ ALL) ∧ (y.cls ≠ "java/lang/invoke/MethodHandle" ∧ y.cls ≠ "java/lang/invoke/VarHandle" ∧ (parseMethodDescriptor y.desc).map (fun d => d.parameters.length) = some n)
def CfI (y : MethodName) (bytes : ByteArray) (maxL : Nat) (n : Nat) : Prop := (Cond.instanceMethod y ∈ ALL ∧ Cond.initialized y.cls ∈ ALL ∧ Cond.code y bytes maxL none ∈ ALL ∧ y.name = "<init>") ∧ (y.cls ≠ "java/lang/invoke/MethodHandle" ∧ y.cls ≠ "java/lang/invoke/VarHandle" ∧ (parseMethodDescriptor y.desc).map (fun d => d.parameters.length) = some n)
section Calls
variable {p : Program} {l : Launch} {e : Env} {R : Room} {s : State} {m : MethodId} {args : Array Value} {below : List Frame} {meth : Method} {c : Code} {H : Heap} {locs : List Loc} {cells slots : Nat} {Q : State → Prop}
variable {cc bytes : ByteArray} {pc nL maxL n k idx : Nat} {ls : Array Slot} {own C : String} {ret rt : Option FieldType} {D : va_G} {tys : List (ClassId × FieldType)} {A : Nat → Prop} {H0 : Heap} {y : MethodName} {b : Addr} {As rest st : List Value} {ws : va_W} {lv : List (Nat × Value)}
theorem k_preU (hK : va_K D vwCl tys s) (hN : NW s) (hP : va_P D vwCl ws H) (hD : va_D A ws) (av : List Value) : ∀ U : State, U.heap = H → s.WarmedH U.vm → va_Pc av (kpre D tys ws H.size) av.toArray U :=
  fun U hU hW => ⟨rfl, by rw [hU], by rw [hU]; exact hP, va_K.moved hW.alike hK, hD.weaken (fun _ _ _ _ => trivial), hN.warm hW⟩
/-- an instance method that only reads -/
theorem k_callR {post : Int32 → Prop} (X : Cx p s m args meth c cc nL own rt) (hK : va_K D vwCl tys s) (hN : NW s) (hP : va_P D vwCl ws H) (hD : va_D A ws) (hM : KR l y (.code y bytes maxL ret) k D tys (.ref b :: As) ws post) (hl : lv_has ls nL lv) (F : CfV C y bytes maxL ret n) (hlk : Cond.methodLink own idx y ∈ ALL)
    (q0 ci : Nat) {T : u_T} {N : Nat} {fs : List Value} (hc : vwCl[ci]? = some (C, T, N)) (he : ws[q0]? = some (b, .inr (ci, fs))) (hn : As.length = n) (hst : st = As.reverse ++ .ref b :: rest) (hW : (rest.map fun v => v.category).sum ≤ 8) (hR : k + 1 ≤ R.frames ∧ 8 + (maxL + 11) + 40 * k ≤ R.locals) (hf : cells ≤ R.cells ∧ slots ≤ R.slots) (hdg : decode cc pc = .ok (.invokevirtual idx, 3))
    (kk : ∀ r : Int32, post r → W p l e R s m args below meth c H locs cells slots Q (F0 m (pc + 3) ls (.int r :: rest))) : W p l e R s m args below meth c H locs cells slots Q (F0 m pc ls st) := by
  subst hst
  obtain ⟨hx, hb, hml, ho, hts, -⟩ := X
  obtain ⟨⟨f1, f2, f3, f4⟩, f5⟩ := F
  exact vp_callSi (W.runV (As := As) (rest := rest) (C := C) ⟨hx, hb, hml, ho, hts⟩ (hM H.size) (cwV n hts (k_wV hlk f1 f2 f3 f4) rfl rfl rfl f5 hR) ⟨k_blind, va_recv hK hP hc he, k_preU hK hN hP hD _⟩ rfl hn hl.1 rfl (lv_room hW) hdg hf) kk
theorem k_callRl {post : Int64 → Prop} (X : Cx p s m args meth c cc nL own rt) (hK : va_K D vwCl tys s) (hN : NW s) (hP : va_P D vwCl ws H) (hD : va_D A ws) (hM : RL2 l y (.code y bytes maxL ret) k D tys (.ref b :: As) ws post) (hl : lv_has ls nL lv) (F : CfV C y bytes maxL ret n) (hlk : Cond.methodLink own idx y ∈ ALL)
    (q0 ci : Nat) {T : u_T} {N : Nat} {fs : List Value} (hc : vwCl[ci]? = some (C, T, N)) (he : ws[q0]? = some (b, .inr (ci, fs))) (hn : As.length = n) (hst : st = As.reverse ++ .ref b :: rest) (hW : (rest.map fun v => v.category).sum ≤ 8) (hR : k + 1 ≤ R.frames ∧ 8 + (maxL + 11) + 40 * k ≤ R.locals) (hf : cells ≤ R.cells ∧ slots ≤ R.slots) (hdg : decode cc pc = .ok (.invokevirtual idx, 3))
    (kk : ∀ r : Int64, post r → W p l e R s m args below meth c H locs cells slots Q (F0 m (pc + 3) ls (.long r :: rest))) : W p l e R s m args below meth c H locs cells slots Q (F0 m pc ls st) := by
  subst hst
  obtain ⟨hx, hb, hml, ho, hts, -⟩ := X
  obtain ⟨⟨f1, f2, f3, f4⟩, f5⟩ := F
  exact vp_callSl (W.runV (As := As) (rest := rest) (C := C) ⟨hx, hb, hml, ho, hts⟩ (hM H.size) (cwV n hts (k_wV hlk f1 f2 f3 f4) rfl rfl rfl f5 hR) ⟨k_blind, va_recv hK hP hc he, k_preU hK hN hP hD _⟩ rfl hn hl.1 rfl (lv_room hW) hdg hf) kk
/-- a static method that only reads -/
theorem k_callS {post : Int32 → Prop} (X : Cx p s m args meth c cc nL own rt) (hK : va_K D vwCl tys s) (hN : NW s) (hP : va_P D vwCl ws H) (hD : va_D A ws) (hM : KR l y (.code y bytes maxL ret) k D tys As ws post) (hl : lv_has ls nL lv) (F : CfS y bytes maxL ret n) (hlk : Cond.methodLink own idx y ∈ ALL)
    (hn : As.length = n) (hst : st = As.reverse ++ rest) (hW : (rest.map fun v => v.category).sum ≤ 8) (hR : k + 1 ≤ R.frames ∧ 8 + (maxL + 11) + 40 * k ≤ R.locals) (hf : cells ≤ R.cells ∧ slots ≤ R.slots) (hdg : decode cc pc = .ok (.invokestatic idx, 3))
    (kk : ∀ r : Int32, post r → W p l e R s m args below meth c H locs cells slots Q (F0 m (pc + 3) ls (.int r :: rest))) : W p l e R s m args below meth c H locs cells slots Q (F0 m pc ls st) := by
  subst hst
  obtain ⟨hx, hb, hml, ho, hts, -⟩ := X
  obtain ⟨⟨f1, f2, f3⟩, f5⟩ := F
  exact vp_callSi (W.runS (As := As) (rest := rest) ⟨hx, hb, hml, ho, hts⟩ (hM H.size) (va_cwS n hts (k_wS hlk f1 f2 f3) rfl rfl rfl f5 hR) ⟨k_blind, k_preU hK hN hP hD _⟩ rfl hn hl.1 rfl (lv_room hW) hdg hf) kk
/-- an instance method that changes the world and answers an int -/
theorem k_callI {S : Type} {post : Int32 → S → Prop} {wf : S → va_W} (X : Cx p s m args meth c cc nL own rt) (hK : va_K D vwCl tys s) (hN : NW s) (hP : va_P D vwCl ws H) (hD : va_D A ws) (hS : va_S A H0 H locs) (hA : ∀ q, H0.size ≤ q → A q) (hM : KI l y (.code y bytes maxL ret) k D tys (.ref b :: As) ws post wf) (hl : lv_has ls nL lv) (F : CfV C y bytes maxL ret n) (hlk : Cond.methodLink own idx y ∈ ALL)
    (q0 ci : Nat) {T : u_T} {N : Nat} {fs : List Value} (hc : vwCl[ci]? = some (C, T, N)) (he : ws[q0]? = some (b, .inr (ci, fs))) (hn : As.length = n) (hst : st = As.reverse ++ .ref b :: rest) (hW : (rest.map fun v => v.category).sum ≤ 8) (hR : k + 1 ≤ R.frames ∧ 8 + (maxL + 11) + 40 * k ≤ R.locals) (hf : cells ≤ R.cells ∧ slots ≤ R.slots) (hdg : decode cc pc = .ok (.invokevirtual idx, 3))
    (kk : ∀ (r : Int32) (u : S) (H1 : Heap) (locs1 : List Loc), post r u → va_P D vwCl (wf u) H1 → va_D A (wf u) → va_S A H0 H1 locs1 → va_D (va_A ws H.size) (wf u) → (∀ q : Nat, q < H.size → ¬ va_A ws H.size q → H1[q]? = H[q]?) → W p l e R s m args below meth c H1 locs1 cells slots Q (F0 m (pc + 3) ls (.int r :: rest))) : W p l e R s m args below meth c H locs cells slots Q (F0 m pc ls st) := by
  subst hst
  obtain ⟨hx, hb, hml, ho, hts, -⟩ := X
  obtain ⟨⟨f1, f2, f3, f4⟩, f5⟩ := F
  have hF : ∀ q, va_A ws H.size q → A q := fun q h => by
    rcases h with ⟨j, e, h⟩ | h
    · exact hD.2 j (q, e) h
    · exact hA q (Nat.le_trans hS.1 h)
  refine va_calli (va_runV (As := As) (rest := rest) (C := C) ⟨hx, hb, hml, ho, hts⟩ (hM H.size) (cwV n hts (k_wV hlk f1 f2 f3 f4) rfl rfl rfl f5 hR) ⟨k_blind, va_recv hK hP hc he, k_preU hK hN hP hD _⟩ rfl hn hl.1 rfl (lv_room hW) hdg hf) hS (fun q _ h => hF q h) hF (fun r u t H1 locs1 ht hvm hp hB hz hk hS1 => ?_)
  obtain ⟨hP1, hK1, hD1⟩ := hB
  rw [ht] at hP1
  exact kk r u H1 locs1 hp hP1 (hD1.weaken (fun _ q _ h => hF q.1 h)) hS1 hD1 hk
theorem k_callV {S : Type} {post : S → Prop} {wf : S → va_W} (X : Cx p s m args meth c cc nL own rt) (hK : va_K D vwCl tys s) (hN : NW s) (hP : va_P D vwCl ws H) (hD : va_D A ws) (hS : va_S A H0 H locs) (hA : ∀ q, H0.size ≤ q → A q) (hM : KV l y (.code y bytes maxL ret) k D tys (.ref b :: As) ws post wf) (hl : lv_has ls nL lv) (F : CfV C y bytes maxL ret n) (hlk : Cond.methodLink own idx y ∈ ALL)
    (q0 ci : Nat) {T : u_T} {N : Nat} {fs : List Value} (hc : vwCl[ci]? = some (C, T, N)) (he : ws[q0]? = some (b, .inr (ci, fs))) (hn : As.length = n) (hst : st = As.reverse ++ .ref b :: rest) (hW : (rest.map fun v => v.category).sum ≤ 8) (hR : k + 1 ≤ R.frames ∧ 8 + (maxL + 11) + 40 * k ≤ R.locals) (hf : cells ≤ R.cells ∧ slots ≤ R.slots) (hdg : decode cc pc = .ok (.invokevirtual idx, 3))
    (kk : ∀ (u : S) (H1 : Heap) (locs1 : List Loc), post u → va_P D vwCl (wf u) H1 → va_D A (wf u) → va_S A H0 H1 locs1 → va_D (va_A ws H.size) (wf u) → (∀ q : Nat, q < H.size → ¬ va_A ws H.size q → H1[q]? = H[q]?) → W p l e R s m args below meth c H1 locs1 cells slots Q (F0 m (pc + 3) ls rest)) : W p l e R s m args below meth c H locs cells slots Q (F0 m pc ls st) := by
  subst hst
  obtain ⟨hx, hb, hml, ho, hts, -⟩ := X
  obtain ⟨⟨f1, f2, f3, f4⟩, f5⟩ := F
  have hF : ∀ q, va_A ws H.size q → A q := fun q h => by
    rcases h with ⟨j, e, h⟩ | h
    · exact hD.2 j (q, e) h
    · exact hA q (Nat.le_trans hS.1 h)
  refine va_callv (va_runV (As := As) (rest := rest) (C := C) ⟨hx, hb, hml, ho, hts⟩ (hM H.size) (cwV n hts (k_wV hlk f1 f2 f3 f4) rfl rfl rfl f5 hR) ⟨k_blind, va_recv hK hP hc he, k_preU hK hN hP hD _⟩ rfl hn hl.1 rfl (lv_room hW) hdg hf) hS (fun q _ h => hF q h) hF (fun u t H1 locs1 ht hvm hp hB hz hk hS1 => ?_)
  obtain ⟨hP1, hK1, hD1⟩ := hB
  rw [ht] at hP1
  exact kk u H1 locs1 hp hP1 (hD1.weaken (fun _ q _ h => hF q.1 h)) hS1 hD1 hk
end Calls
