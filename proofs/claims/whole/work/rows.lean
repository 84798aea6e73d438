section
/-- a private method of a class that the tables say can be made, by its rows of tables_1 -/
def lw_okq (q : MethodName × Nat) : Prop := (q.1.cls ≠ "java/lang/invoke/MethodHandle" ∧ q.1.cls ≠ "java/lang/invoke/VarHandle") ∧ Cond.instantiable q.1.cls q.2 ∈ tables_1 ∧ Cond.privateMethod q.1 ∈ tables_1 ∧ Cond.instanceMethod q.1 ∈ tables_1
theorem lw_p0 : lw_okq (⟨"FlexCycles", "hasSlot", "(I)Z"⟩, 7) := ⟨⟨by decide +kernel, by decide +kernel⟩, List.mem_of_getElem? (i := 16) (by decide +kernel), List.mem_of_getElem? (i := 165) (by decide +kernel), List.mem_of_getElem? (i := 166) (by decide +kernel)⟩
theorem lw_p1 : lw_okq (⟨"FlexCycles$StaticFrames", "isOn", "(III)Z"⟩, 6) := ⟨⟨by decide +kernel, by decide +kernel⟩, List.mem_of_getElem? (i := 78) (by decide +kernel), List.mem_of_getElem? (i := 185) (by decide +kernel), List.mem_of_getElem? (i := 186) (by decide +kernel)⟩
theorem lw_p2 : lw_okq (⟨"FlexCycles", "runOne", "()I"⟩, 7) := ⟨⟨by decide +kernel, by decide +kernel⟩, List.mem_of_getElem? (i := 16) (by decide +kernel), List.mem_of_getElem? (i := 220) (by decide +kernel), List.mem_of_getElem? (i := 221) (by decide +kernel)⟩
theorem lw_p3 : lw_okq (⟨"FlexCycles$Nodes", "leastActive", "()I"⟩, 12) := ⟨⟨by decide +kernel, by decide +kernel⟩, List.mem_of_getElem? (i := 27) (by decide +kernel), List.mem_of_getElem? (i := 228) (by decide +kernel), List.mem_of_getElem? (i := 229) (by decide +kernel)⟩
theorem lw_p4 : lw_okq (⟨"FlexCycles$Nodes", "integrate", "(I)V"⟩, 12) := ⟨⟨by decide +kernel, by decide +kernel⟩, List.mem_of_getElem? (i := 27) (by decide +kernel), List.mem_of_getElem? (i := 236) (by decide +kernel), List.mem_of_getElem? (i := 237) (by decide +kernel)⟩
theorem lw_p5 : lw_okq (⟨"FlexCycles$Nodes", "listen", "(II)V"⟩, 12) := ⟨⟨by decide +kernel, by decide +kernel⟩, List.mem_of_getElem? (i := 27) (by decide +kernel), List.mem_of_getElem? (i := 240) (by decide +kernel), List.mem_of_getElem? (i := 241) (by decide +kernel)⟩
theorem lw_p6 : lw_okq (⟨"FlexCycles$Nodes", "countStarters", "()I"⟩, 12) := ⟨⟨by decide +kernel, by decide +kernel⟩, List.mem_of_getElem? (i := 27) (by decide +kernel), List.mem_of_getElem? (i := 244) (by decide +kernel), List.mem_of_getElem? (i := 245) (by decide +kernel)⟩
theorem lw_p7 : lw_okq (⟨"FlexCycles$Nodes", "isStarter", "(I)Z"⟩, 12) := ⟨⟨by decide +kernel, by decide +kernel⟩, List.mem_of_getElem? (i := 27) (by decide +kernel), List.mem_of_getElem? (i := 248) (by decide +kernel), List.mem_of_getElem? (i := 249) (by decide +kernel)⟩
theorem lw_p8 : lw_okq (⟨"FlexCycles$Nodes", "startCold", "()V"⟩, 12) := ⟨⟨by decide +kernel, by decide +kernel⟩, List.mem_of_getElem? (i := 27) (by decide +kernel), List.mem_of_getElem? (i := 252) (by decide +kernel), List.mem_of_getElem? (i := 253) (by decide +kernel)⟩
theorem lw_p9 : lw_okq (⟨"FlexCycles$StaticFrames", "isIn", "(II)Z"⟩, 6) := ⟨⟨by decide +kernel, by decide +kernel⟩, List.mem_of_getElem? (i := 78) (by decide +kernel), List.mem_of_getElem? (i := 265) (by decide +kernel), List.mem_of_getElem? (i := 266) (by decide +kernel)⟩
theorem lw_p10 : lw_okq (⟨"FlexCycles$DynamicFrames", "firstOf", "(ILFlexCycles$Nodes;)I"⟩, 4) := ⟨⟨by decide +kernel, by decide +kernel⟩, List.mem_of_getElem? (i := 103) (by decide +kernel), List.mem_of_getElem? (i := 277) (by decide +kernel), List.mem_of_getElem? (i := 278) (by decide +kernel)⟩
theorem lw_p11 : lw_okq (⟨"FlexCycles$DynamicFrames", "remove", "(I)V"⟩, 4) := ⟨⟨by decide +kernel, by decide +kernel⟩, List.mem_of_getElem? (i := 103) (by decide +kernel), List.mem_of_getElem? (i := 282) (by decide +kernel), List.mem_of_getElem? (i := 283) (by decide +kernel)⟩
theorem lw_p12 : lw_okq (⟨"FlexCycles$Nodes", "findMidpoint", "(I)I"⟩, 12) := ⟨⟨by decide +kernel, by decide +kernel⟩, List.mem_of_getElem? (i := 27) (by decide +kernel), List.mem_of_getElem? (i := 290) (by decide +kernel), List.mem_of_getElem? (i := 291) (by decide +kernel)⟩
theorem lw_p13 : lw_okq (⟨"FlexCycles$Nodes", "insertDeviation", "(II)V"⟩, 12) := ⟨⟨by decide +kernel, by decide +kernel⟩, List.mem_of_getElem? (i := 27) (by decide +kernel), List.mem_of_getElem? (i := 294) (by decide +kernel), List.mem_of_getElem? (i := 295) (by decide +kernel)⟩
theorem lw_p14 : lw_okq (⟨"FlexCycles$Nodes", "apply", "(IIZ)V"⟩, 12) := ⟨⟨by decide +kernel, by decide +kernel⟩, List.mem_of_getElem? (i := 27) (by decide +kernel), List.mem_of_getElem? (i := 298) (by decide +kernel), List.mem_of_getElem? (i := 299) (by decide +kernel)⟩
theorem lw_p15 : lw_okq (⟨"FlexCycles$Nodes", "changeRate", "(II)V"⟩, 12) := ⟨⟨by decide +kernel, by decide +kernel⟩, List.mem_of_getElem? (i := 27) (by decide +kernel), List.mem_of_getElem? (i := 302) (by decide +kernel), List.mem_of_getElem? (i := 303) (by decide +kernel)⟩
def lw_privs_1 : List (MethodName × Nat) := [(⟨"FlexCycles", "hasSlot", "(I)Z"⟩, 7), (⟨"FlexCycles$StaticFrames", "isOn", "(III)Z"⟩, 6), (⟨"FlexCycles", "runOne", "()I"⟩, 7), (⟨"FlexCycles$Nodes", "leastActive", "()I"⟩, 12), (⟨"FlexCycles$Nodes", "integrate", "(I)V"⟩, 12), (⟨"FlexCycles$Nodes", "listen", "(II)V"⟩, 12), (⟨"FlexCycles$Nodes", "countStarters", "()I"⟩, 12), (⟨"FlexCycles$Nodes", "isStarter", "(I)Z"⟩, 12), (⟨"FlexCycles$Nodes", "startCold", "()V"⟩, 12), (⟨"FlexCycles$StaticFrames", "isIn", "(II)Z"⟩, 6), (⟨"FlexCycles$DynamicFrames", "firstOf", "(ILFlexCycles$Nodes;)I"⟩, 4), (⟨"FlexCycles$DynamicFrames", "remove", "(I)V"⟩, 4), (⟨"FlexCycles$Nodes", "findMidpoint", "(I)I"⟩, 12), (⟨"FlexCycles$Nodes", "insertDeviation", "(II)V"⟩, 12), (⟨"FlexCycles$Nodes", "apply", "(IIZ)V"⟩, 12), (⟨"FlexCycles$Nodes", "changeRate", "(II)V"⟩, 12)]
theorem lw_r1 : ∀ q ∈ lw_privs_1, lw_okq q := List.forall_mem_cons.mpr ⟨lw_p0, List.forall_mem_cons.mpr ⟨lw_p1, List.forall_mem_cons.mpr ⟨lw_p2, List.forall_mem_cons.mpr ⟨lw_p3, List.forall_mem_cons.mpr ⟨lw_p4, List.forall_mem_cons.mpr ⟨lw_p5, List.forall_mem_cons.mpr ⟨lw_p6, List.forall_mem_cons.mpr ⟨lw_p7, List.forall_mem_cons.mpr ⟨lw_p8, List.forall_mem_cons.mpr ⟨lw_p9, List.forall_mem_cons.mpr ⟨lw_p10, List.forall_mem_cons.mpr ⟨lw_p11, List.forall_mem_cons.mpr ⟨lw_p12, List.forall_mem_cons.mpr ⟨lw_p13, List.forall_mem_cons.mpr ⟨lw_p14, List.forall_mem_cons.mpr ⟨lw_p15, fun _ h => absurd h List.not_mem_nil⟩⟩⟩⟩⟩⟩⟩⟩⟩⟩⟩⟩⟩⟩⟩⟩
theorem lw_p16 : lw_okq (⟨"FlexCycles$Nodes", "distance", "(II)J"⟩, 12) := ⟨⟨by decide +kernel, by decide +kernel⟩, List.mem_of_getElem? (i := 27) (by decide +kernel), List.mem_of_getElem? (i := 362) (by decide +kernel), List.mem_of_getElem? (i := 363) (by decide +kernel)⟩
theorem lw_p17 : lw_okq (⟨"java/lang/Throwable", "fillInStackTrace", "(I)Ljava/lang/Throwable;"⟩, 6) := ⟨⟨by decide +kernel, by decide +kernel⟩, List.mem_of_getElem? (i := 407) (by decide +kernel), List.mem_of_getElem? (i := 405) (by decide +kernel), List.mem_of_getElem? (i := 406) (by decide +kernel)⟩
theorem lw_p18 : lw_okq (⟨"FlexCyclesModel", "isNode", "(I)Z"⟩, 27) := ⟨⟨by decide +kernel, by decide +kernel⟩, List.mem_of_getElem? (i := 475) (by decide +kernel), List.mem_of_getElem? (i := 571) (by decide +kernel), List.mem_of_getElem? (i := 572) (by decide +kernel)⟩
theorem lw_p19 : lw_okq (⟨"FlexCyclesModel", "isSlot", "(I)Z"⟩, 27) := ⟨⟨by decide +kernel, by decide +kernel⟩, List.mem_of_getElem? (i := 475) (by decide +kernel), List.mem_of_getElem? (i := 575) (by decide +kernel), List.mem_of_getElem? (i := 576) (by decide +kernel)⟩
theorem lw_p20 : lw_okq (⟨"FlexCyclesModel", "startUp", "()V"⟩, 27) := ⟨⟨by decide +kernel, by decide +kernel⟩, List.mem_of_getElem? (i := 475) (by decide +kernel), List.mem_of_getElem? (i := 591) (by decide +kernel), List.mem_of_getElem? (i := 592) (by decide +kernel)⟩
theorem lw_p21 : lw_okq (⟨"FlexCyclesModel", "sendStatic", "()I"⟩, 27) := ⟨⟨by decide +kernel, by decide +kernel⟩, List.mem_of_getElem? (i := 475) (by decide +kernel), List.mem_of_getElem? (i := 595) (by decide +kernel), List.mem_of_getElem? (i := 596) (by decide +kernel)⟩
theorem lw_p22 : lw_okq (⟨"FlexCyclesModel", "sendDynamic", "()I"⟩, 27) := ⟨⟨by decide +kernel, by decide +kernel⟩, List.mem_of_getElem? (i := 475) (by decide +kernel), List.mem_of_getElem? (i := 599) (by decide +kernel), List.mem_of_getElem? (i := 600) (by decide +kernel)⟩
theorem lw_p23 : lw_okq (⟨"FlexCyclesModel", "waitingOne", "(I)I"⟩, 27) := ⟨⟨by decide +kernel, by decide +kernel⟩, List.mem_of_getElem? (i := 475) (by decide +kernel), List.mem_of_getElem? (i := 603) (by decide +kernel), List.mem_of_getElem? (i := 604) (by decide +kernel)⟩
theorem lw_p24 : lw_okq (⟨"FlexCyclesModel", "correct", "()V"⟩, 27) := ⟨⟨by decide +kernel, by decide +kernel⟩, List.mem_of_getElem? (i := 475) (by decide +kernel), List.mem_of_getElem? (i := 607) (by decide +kernel), List.mem_of_getElem? (i := 608) (by decide +kernel)⟩
theorem lw_p25 : lw_okq (⟨"FlexCyclesModel", "midpointOf", "(I)I"⟩, 27) := ⟨⟨by decide +kernel, by decide +kernel⟩, List.mem_of_getElem? (i := 475) (by decide +kernel), List.mem_of_getElem? (i := 611) (by decide +kernel), List.mem_of_getElem? (i := 612) (by decide +kernel)⟩
def lw_privs_2 : List (MethodName × Nat) := [(⟨"FlexCycles$Nodes", "distance", "(II)J"⟩, 12), (⟨"java/lang/Throwable", "fillInStackTrace", "(I)Ljava/lang/Throwable;"⟩, 6), (⟨"FlexCyclesModel", "isNode", "(I)Z"⟩, 27), (⟨"FlexCyclesModel", "isSlot", "(I)Z"⟩, 27), (⟨"FlexCyclesModel", "startUp", "()V"⟩, 27), (⟨"FlexCyclesModel", "sendStatic", "()I"⟩, 27), (⟨"FlexCyclesModel", "sendDynamic", "()I"⟩, 27), (⟨"FlexCyclesModel", "waitingOne", "(I)I"⟩, 27), (⟨"FlexCyclesModel", "correct", "()V"⟩, 27), (⟨"FlexCyclesModel", "midpointOf", "(I)I"⟩, 27)]
theorem lw_r2 : ∀ q ∈ lw_privs_2, lw_okq q := List.forall_mem_cons.mpr ⟨lw_p16, List.forall_mem_cons.mpr ⟨lw_p17, List.forall_mem_cons.mpr ⟨lw_p18, List.forall_mem_cons.mpr ⟨lw_p19, List.forall_mem_cons.mpr ⟨lw_p20, List.forall_mem_cons.mpr ⟨lw_p21, List.forall_mem_cons.mpr ⟨lw_p22, List.forall_mem_cons.mpr ⟨lw_p23, List.forall_mem_cons.mpr ⟨lw_p24, List.forall_mem_cons.mpr ⟨lw_p25, fun _ h => absurd h List.not_mem_nil⟩⟩⟩⟩⟩⟩⟩⟩⟩⟩
def lw_privs : List (MethodName × Nat) := lw_privs_1 ++ (lw_privs_2)
def lw_tbl : List Cond := k2_sels lw_privs ++ tables_1
theorem lw_privs_ok : ∀ q ∈ lw_privs, lw_okq q := by
  show ∀ q ∈ lw_privs_1 ++ (lw_privs_2), lw_okq q
  exact List.forall_mem_append.mpr ⟨lw_r1, lw_r2⟩
end
section
/-! ===== BEGIN words of one list among another's, by their places ===== -/
theorem goodIn_r {big : List Cond} (ws : List Cond) (ps : List Nat) (hp : ws = ps.filterMap (fun i => big[i]?)) (h : ws.all goodWord = true) : GoodIn big ws := by
  intro w hw
  have h1 := List.all_eq_true.mp h w hw
  rw [hp] at hw
  obtain ⟨i, -, hi⟩ := List.mem_filterMap.mp hw
  have hm : w ∈ big := by first | exact List.mem_of_getElem? hi | exact List.getElem?_mem hi
  exact ⟨hm, good_of_word h1⟩
theorem goodIn_app {big a b : List Cond} (ha : GoodIn big a) (hb : GoodIn big b) : GoodIn big (a ++ b) := fun w h => (List.mem_append.mp h).elim (ha w) (hb w)
theorem goodIn_ca {big a b : List Cond} {c : Cond} (ha : GoodIn big (c :: a)) (hb : GoodIn big b) : GoodIn big (c :: (a ++ b)) := fun w h => (List.mem_cons.mp h).elim (fun e => ha w (List.mem_cons.mpr (Or.inl e))) (fun h => (List.mem_append.mp h).elim (fun h => ha w (List.mem_cons.mpr (Or.inr h))) (hb w))
theorem goodIn_sub {big ws : List Cond} (hm : ∀ w ∈ ws, w ∈ big) (h : ws.all goodWord = true) : GoodIn big ws := fun w hw => ⟨hm w hw, good_of_word (List.all_eq_true.mp h w hw)⟩
/-! ===== END ===== -/

/-! ===== BEGIN exceptions that leave a method, and their catching by the caller (launches without stack traces) ===== -/
section VXA
/-! The laws vx_back, vx_callV, vx_callS, vx_callSW, vx_throw0, vx_throwS follow proofs of the library, with one case more: JvmDerived/Free/Laws.lean (Back.of_free), Shelf42/LK1.lean (callV, callS), Shelf/KitTraced.lean (throwNew0V, throwNewS). -/

/-- where a method has thrown q: the class by its name, the cell, what was written, the world -/
def vx_T (XC : String → State → State → Prop) (st : State) (q : Addr) (t : State) (mc ms : Nat) (free : Addr → Prop) : Prop :=
  ∃ (E : String) (ce : Cell) (L : List Loc), XC E st t ∧ t.heap[q]? = some ce ∧ ce.vm = .none ∧ st.vm.findClass E = some ce.cls ∧ st.WarmedH t.vm ∧ st.sameButNew ({ t with vm := st.vm } : State) L mc ms ∧ ∀ z ∈ L, free z.base
def vx_Q (Qc : Array Value → State → Outcome → State → Prop) (XC : String → State → State → Prop) (mc ms : Nat) (free : Addr → Prop) : Array Value → State → Outcome → State → Prop := fun a st o t =>
  (Qc a st o t ∧ ∃ L, FrameEnd st o t L mc ms ∧ ∀ q ∈ L, free q.base) ∨ ∃ q, o = .threw q ∧ vx_T XC st q t mc ms free
/-- a callee that returns or throws -/
def vx_Met (l : Launch) (y : MethodName) (ws : List Cond) (rm : Room) (Pc : Array Value → State → Prop) (Qc : Array Value → State → Outcome → State → Prop) (XC : String → State → State → Prop) (mc ms : Nat) (free : Addr → Prop) : Prop :=
  MetFree l y (headSpec ws rm) Pc (fun _ _ _ _ _ => True) (vx_Q Qc XC mc ms free)
def vx_Post (XC : String → State → State → Prop) (mc ms : Nat) (free : Addr → Prop) : Pt → Array Value → Addr → Pt → Prop := fun A a q B =>
  ∃ (g : JFrame) (mk : MethodId) (t : State) (L : List Loc) (E : String) (ce : Cell), B.U.heap = t.heap ∧ B.U.vm = t.vm ∧ XC E (A.U.calling g mk a) t ∧ t.heap[q]? = some ce ∧ ce.vm = .none ∧ A.U.vm.findClass E = some ce.cls ∧ B.locs = A.locs ++ L ∧ (∀ z ∈ L, free z.base) ∧ B.cells = A.cells + mc ∧ B.slots = A.slots + ms
def vx_Back (l : Launch) (R : Room) (p : Program) (e : Env) (below : List Frame) (s : State) (sargs : Array Value) (y : MethodName) (len W9 : Nat)
    (Pre : Pt → Array Value → Prop) (Post : Pt → Array Value → Option Value → Pt → Prop) (PostX : Pt → Array Value → Addr → Pt → Prop) : Prop :=
  ∀ (m : MethodId) (meth : Method) (c : Code) (A : Pt) (g : JFrame) (ig : Instr) (mk : MethodId) (a : Array Value),
    Stand p l e R s m sargs below meth c A.U A.locs A.cells A.slots → g.method = m → g.locals.size = c.maxLocals → decode c.code g.pc = .ok (ig, len) →
    2 * g.monitorRoom + (g.stack.map fun v => v.category).sum ≤ W9 → A.U.methodNamed? y = some mk → Pre A a →
    (∃ (v : Option Value) (B : Pt), Stand p l e R s m sargs below meth c B.U B.locs B.cells B.slots ∧ Post A a v B ∧
      Steps p.tables e below (doInvoke e (A.U.setTop g) [] mk a).1 (B.U.setTop { g with pc := g.pc + len, stack := v.toList ++ g.stack })) ∨
    (∃ (q : Addr) (B : Pt), Stand p l e R s m sargs below meth c B.U B.locs B.cells B.slots ∧ PostX A a q B ∧
      Steps p.tables e below (doInvoke e (A.U.setTop g) [] mk a).1 ((B.U.setTop g).pushFrame (.throwing q)))
section Payer
variable {l : Launch} {R : Room} {p : Program} {e : Env} {below : List Frame} {s : State} {sargs : Array Value} {y : MethodName} {len W9 : Nat}
theorem vx_back {ws : List Cond} {rm : Room} {Pc : Array Value → State → Prop} {Qc : Array Value → State → Outcome → State → Prop} {XC : String → State → State → Prop} {mc ms : Nat} {free : Addr → Prop} {bytes : ByteArray} {maxL : Nat} {ret : Option FieldType}
    (hM : vx_Met l y ws rm Pc Qc XC mc ms free) (hblind : FrameBlind Pc) (hrc : rm.cells = mc) (hrs : rm.slots = ms)
    (hframes : rm.frames + 1 ≤ R.frames) (hlocals : W9 + (maxL + 11) + rm.locals ≤ R.locals)
    (hws : ∀ w ∈ ws, ∀ a' U, s.WarmedH U.vm → w.before a' U = true) (hcode : Cond.code y bytes maxL ret ∈ ws) (hinit : ∀ a' U, s.WarmedH U.vm → (Cond.initialized y.cls).before a' U = true) :
    vx_Back l R p e below s sargs y len W9 (PreOf R mc ms Pc) (PostOf Qc mc ms free) (vx_Post XC mc ms free) := by
  intro m meth c A g ig mk a X hg hsize hdg hW hn hp
  have h1 : (headSpec ws rm).pre.before a A.U = true := atoms_intro fun w hw => hws w hw _ _ X.warmed
  have h2 : (Cond.code y bytes maxL ret).before a A.U = true := hws _ hcode _ _ X.warmed
  have h3 : (Cond.initialized y.cls).before a A.U = true := hinit _ _ X.warmed
  have h4 : A.cells + (headSpec ws rm).room.cells ≤ R.cells := by rw [show (headSpec ws rm).room.cells = mc from hrc]; exact hp.1
  have h5 : A.slots + (headSpec ws rm).room.slots ≤ R.slots := by rw [show (headSpec ws rm).room.slots = ms from hrs]; exact hp.2.1
  have hPc : Pc a (A.U.calling g mk a) := hblind _ _ _ _ hp.2.2
  obtain ⟨U, Ls, c0, s0⟩ := A
  dsimp only [Pt.U, Pt.locs, Pt.cells, Pt.slots] at h1 h2 h3 h4 h5 X hn hPc ⊢
  obtain ⟨methY, cY, hmY, hcY, -, hlY, -, -, -, -⟩ := Cond.code_spec hn h2
  obtain ⟨kY, hkY, -⟩ := className_of_methodNamed hn
  have hinitY : kY.init = .initialized := Cond.initialized_spec (findClass_of_methodNamed hn) hkY h3
  have h : At U g.method c below := by rw [hg]; exact X.here
  have hlocals9 : W9 + (maxL + 11) + (headSpec ws rm).room.locals ≤ R.locals := hlocals
  have happ : (headSpec ws rm).appliesLoose y e.platform (U.calling g mk a) = true :=
    Spec.appliesLoose_calling (g := g) h hdg hn hkY hinitY
      (X.room_calling (g := g) (R' := (headSpec ws rm).room) hsize hmY hcY hframes (by rw [hlY]; omega) h4 h5) h1
  obtain ⟨mid, hmid⟩ := h.above
  have hfr : (U.setTop g).frames = (.java g :: mid) ++ below := by rw [State.frames_setTop' g h.top, hmid]; rfl
  obtain ⟨o, s₂, hsteps, -, hend, hq⟩ := Steps.callFree hM p X.admits X.cas X.clock (acts := []) hfr happ hPc trivial
  have hq' : vx_Q Qc XC mc ms free a (U.calling g mk a) o s₂ := hq
  rw [State.frames_setTop' g h.top] at hend
  obtain ⟨g₀, hg0⟩ := Option.isSome_iff_exists.mp h.top
  obtain ⟨r, hr⟩ := State.topJava?_eq_some.mp hg0
  have hr' : (({ U with heap := s₂.heap, slotsUsed := s₂.slotsUsed } : State).setVm s₂.vm).frames = .java g₀ :: r := hr
  rcases hq' with ⟨hqc, L, hfe, hL⟩ | ⟨q, rfl, E, ce, L, hx, hce, hcv, hcl, hW₂, hsm, hL⟩
  · obtain ⟨⟨v, rfl⟩, hW₂, e2, q2, q3, q4, q5, q6⟩ := id hfe
    have e3 : s₂ = ({ (U.calling g mk a).setFrames s₂.frames with heap := s₂.heap, slotsUsed := s₂.slotsUsed } : State).setVm s₂.vm := by
      have : s₂ = ({ s₂ with vm := (U.calling g mk a).vm } : State).setVm s₂.vm := rfl
      rw [e2] at this
      exact this
    obtain ⟨c₂, i₂, len₂, hc₂, hd₂, hf₂⟩ := hend
    have hW' : U.WarmedH s₂.vm := hW₂
    have hcc : c₂ = c := by
      have h1 : s₂.code? g.method = U.code? g.method := by
        rw [State.code?_eq, State.code?_eq, hW'.alike.method?]
      exact Option.some.inj (hc₂.symm.trans (h1.trans h.code))
    subst hcc
    have hlen : len₂ = len := by rw [hdg] at hd₂; cases hd₂; rfl
    subst hlen
    have hs₂ : s₂ = (({ U with heap := s₂.heap, slotsUsed := s₂.slotsUsed } : State).setVm s₂.vm).setTop { g with pc := g.pc + len₂, stack := v.toList ++ g.stack } := by
      refine e3.trans ?_
      rw [hf₂, State.calling_eq h.top, State.setFrames_setFrames, State.setTop_of_frames _ hr', hr]
      rfl
    have hsame : U.sameButNew ({ U with heap := s₂.heap, slotsUsed := s₂.slotsUsed } : State) L mc ms := by
      refine ⟨?_, q2, q3, q4, q5, q6⟩
      obtain ⟨t, ht, -⟩ := State.frames_cons hr
      show ({ U with heap := s₂.heap, slotsUsed := s₂.slotsUsed } : State) = { U.setFrames U.frames with heap := s₂.heap, slotsUsed := s₂.slotsUsed }
      rw [State.setFrames_self ht]
    subst hg
    refine Or.inl ⟨v, ⟨(({ U with heap := s₂.heap, slotsUsed := s₂.slotsUsed } : State).setVm s₂.vm), Ls ++ L, c0 + mc, s0 + ms⟩,
      ⟨X.admits, X.cas, X.clock, X.frames, X.room, X.hears, X.method, X.code, (X.here.setHeapUsed s₂.heap s₂.slotsUsed).setVm hW'.alike, X.tail, State.WarmedH.trans X.warmed hW', X.limits, X.bytes, X.same.trans (hsame.setVm s.vm)⟩,
      ⟨g, mk, s₂, L, rfl, rfl, hqc, rfl, hL, rfl, rfl⟩, ?_⟩
    show Steps p.tables e below _ ((({ U with heap := s₂.heap, slotsUsed := s₂.slotsUsed } : State).setVm s₂.vm).setTop { g with pc := g.pc + len₂, stack := v.toList ++ g.stack })
    rw [← hs₂]
    exact hsteps
  · obtain ⟨e2, q2, q3, q4, q5, q6⟩ := id hsm
    have e3 : s₂ = ({ (U.calling g mk a).setFrames s₂.frames with heap := s₂.heap, slotsUsed := s₂.slotsUsed } : State).setVm s₂.vm := by
      have : s₂ = ({ s₂ with vm := (U.calling g mk a).vm } : State).setVm s₂.vm := rfl
      rw [e2] at this
      exact this
    have hf₂ : s₂.frames = .throwing q :: .java g :: U.frames.tail := hend
    have hW' : U.WarmedH s₂.vm := hW₂
    have hs₂ : s₂ = ((({ U with heap := s₂.heap, slotsUsed := s₂.slotsUsed } : State).setVm s₂.vm).setTop g).pushFrame (.throwing q) := by
      refine e3.trans ?_
      rw [hf₂, State.calling_eq h.top, State.setFrames_setFrames, State.pushFrame, State.frames_setTop _ hr', State.setTop_of_frames _ hr', State.setFrames_setFrames, hr]
      rfl
    have hsame : U.sameButNew ({ U with heap := s₂.heap, slotsUsed := s₂.slotsUsed } : State) L mc ms := by
      refine ⟨?_, q2, q3, q4, q5, q6⟩
      obtain ⟨t, ht, -⟩ := State.frames_cons hr
      show ({ U with heap := s₂.heap, slotsUsed := s₂.slotsUsed } : State) = { U.setFrames U.frames with heap := s₂.heap, slotsUsed := s₂.slotsUsed }
      rw [State.setFrames_self ht]
    subst hg
    refine Or.inr ⟨q, ⟨(({ U with heap := s₂.heap, slotsUsed := s₂.slotsUsed } : State).setVm s₂.vm), Ls ++ L, c0 + mc, s0 + ms⟩,
      ⟨X.admits, X.cas, X.clock, X.frames, X.room, X.hears, X.method, X.code, (X.here.setHeapUsed s₂.heap s₂.slotsUsed).setVm hW'.alike, X.tail, State.WarmedH.trans X.warmed hW', X.limits, X.bytes, X.same.trans (hsame.setVm s.vm)⟩,
      ⟨g, mk, s₂, L, E, ce, rfl, rfl, hx, hce, hcv, hcl, rfl, hL, rfl, rfl⟩, ?_⟩
    show Steps p.tables e below _ (((({ U with heap := s₂.heap, slotsUsed := s₂.slotsUsed } : State).setVm s₂.vm).setTop g).pushFrame (.throwing q))
    rw [← hs₂]
    exact hsteps
end Payer
section Calls
variable {p : Program} {l : Launch} {e : Env} {R : Room} {s : State} {m : MethodId} {args : Array Value} {below : List Frame} {meth : Method} {c : Code} {T : State} {locs : List Loc} {cells slots : Nat}
theorem vx_callV (X : Stand p l e R s m args below meth c T locs cells slots) (hexec : p.tables.exec = Jvm.exec) {own C : String} {index : Nat} {y : MethodName} {bytes : ByteArray} {maxL : Nat} {ret : Option FieldType}
    (hown : s.vm.findClass own = some m.cls) (hlink : (Cond.methodLink own index y).before args s = true) (hinst : (Cond.instanceMethod y).before args s = true) (hsel : (Cond.selects C y y).before args s = true)
    (hcode : (Cond.code y bytes maxL ret).before args s = true) (hy : y.cls ≠ "java/lang/invoke/MethodHandle" ∧ y.cls ≠ "java/lang/invoke/VarHandle")
    {W9 : Nat} {Pre : Pt → Array Value → Prop} {Post : Pt → Array Value → Option Value → Pt → Prop} {PostX : Pt → Array Value → Addr → Pt → Prop} (hK : vx_Back l R p e below s args y 3 W9 Pre Post PostX)
    {b : Addr} {cellB : Cell} (hcell : T.heap[b]? = some cellB) (hobj : cellB.vm.isStatics = false) (hcls : s.vm.findClass C = some cellB.cls)
    {g : JFrame} (hg : g.method = m) (hsize : g.locals.size = c.maxLocals) {argsL rest : List Value} (hlen : ∀ sig, parseMethodDescriptor y.desc = some sig → argsL.length = sig.parameters.length)
    (hstack : g.stack = argsL.reverse ++ .ref b :: rest) (hW : 2 * g.monitorRoom + (rest.map fun v => v.category).sum ≤ W9) (hdg : decode c.code g.pc = .ok (.invokevirtual index, 3))
    (hpre : ∀ vm₁, s.WarmedH vm₁ → Pre ⟨T.setVm vm₁, locs, cells, slots⟩ (Value.ref b :: argsL).toArray) :
    (∃ (v : Option Value) (vm₁ : Vm) (B : Pt), s.WarmedH vm₁ ∧ Stand p l e R s m args below meth c B.U B.locs B.cells B.slots ∧ Post ⟨T.setVm vm₁, locs, cells, slots⟩ (Value.ref b :: argsL).toArray v B ∧
      ∀ target, Steps p.tables e below (B.U.setTop { g with pc := g.pc + 3, stack := v.toList ++ rest }) target → Steps p.tables e below (T.setTop g) target) ∨
    (∃ (q : Addr) (vm₁ : Vm) (B : Pt), s.WarmedH vm₁ ∧ Stand p l e R s m args below meth c B.U B.locs B.cells B.slots ∧ PostX ⟨T.setVm vm₁, locs, cells, slots⟩ (Value.ref b :: argsL).toArray q B ∧
      Steps p.tables e below (T.setTop g) ((B.U.setTop { g with stack := rest }).pushFrame (.throwing q))) := by
  obtain ⟨mk, methM, hnamed, hmethM, hstM, habM⟩ := Cond.instanceMethod_spec hinst
  obtain ⟨methM', cM, hmethM', -, -, -, -, -, -, hsigM⟩ := Cond.code_spec hnamed hcode
  cases hmethM.symm.trans hmethM'
  obtain ⟨c2, r2, m2, q1, q2, q3, q4, kP, hkP, hkPi⟩ := Cond.selects_spec hsel
  cases hcls.symm.trans q1
  cases (State.methodFound?_of_named hnamed hy).symm.trans q2
  cases hnamed.symm.trans q3
  have hselP : selectMethod e.platform s.vm cellB.cls mk = .method mk := by rw [Launch.admits_selectMethod X.admits]; exact q4
  obtain ⟨vm₁, X₁, hstep₁⟩ := X.invokevirtual hexec hown hlink hnamed hmethM hstM hkP hkPi hy (a := b) (cell := cellB) hcell
    (fun z h => by rw [h] at hobj; cases hobj) hselP hmethM habM hkP hkPi (g := g) hg (argsL := argsL) (rest := rest) (hlen _ hsigM) hstack hdg
  rcases hK m meth c ⟨T.setVm vm₁, locs, cells, slots⟩ { g with stack := rest } (.invokevirtual index) mk (Value.ref b :: argsL).toArray X₁ hg hsize hdg hW (X₁.named hnamed) (hpre vm₁ X₁.warmed) with ⟨v, B, X', hpost, hsteps⟩ | ⟨q, B, X', hpost, hsteps⟩
  · exact Or.inl ⟨v, vm₁, B, X₁.warmed, X', hpost, fun target h => hstep₁ _ fun acts => by rw [doInvoke_state]; exact hsteps.trans h⟩
  · exact Or.inr ⟨q, vm₁, B, X₁.warmed, X', hpost, hstep₁ _ fun acts => by rw [doInvoke_state]; exact hsteps⟩
theorem vx_callS (X : Stand p l e R s m args below meth c T locs cells slots) (hexec : p.tables.exec = Jvm.exec) {own : String} {index : Nat} {y : MethodName} {bytes : ByteArray} {maxL : Nat} {ret : Option FieldType}
    (hown : s.vm.findClass own = some m.cls) (hlink : (Cond.methodLink own index y).before args s = true) (hstat : (Cond.static y).before args s = true) (hinit : (Cond.initialized y.cls).before args s = true)
    (hcode : (Cond.code y bytes maxL ret).before args s = true) (hy : y.cls ≠ "java/lang/invoke/MethodHandle" ∧ y.cls ≠ "java/lang/invoke/VarHandle")
    {W9 : Nat} {Pre : Pt → Array Value → Prop} {Post : Pt → Array Value → Option Value → Pt → Prop} {PostX : Pt → Array Value → Addr → Pt → Prop} (hK : vx_Back l R p e below s args y 3 W9 Pre Post PostX)
    {g : JFrame} (hg : g.method = m) (hsize : g.locals.size = c.maxLocals) {argsL rest : List Value} (hlen : ∀ sig, parseMethodDescriptor y.desc = some sig → argsL.length = sig.parameters.length)
    (hstack : g.stack = argsL.reverse ++ rest) (hW : 2 * g.monitorRoom + (rest.map fun v => v.category).sum ≤ W9) (hdg : decode c.code g.pc = .ok (.invokestatic index, 3))
    (hpre : ∀ vm₁, s.WarmedH vm₁ → Pre ⟨T.setVm vm₁, locs, cells, slots⟩ argsL.toArray) :
    (∃ (v : Option Value) (vm₁ : Vm) (B : Pt), s.WarmedH vm₁ ∧ Stand p l e R s m args below meth c B.U B.locs B.cells B.slots ∧ Post ⟨T.setVm vm₁, locs, cells, slots⟩ argsL.toArray v B ∧
      ∀ target, Steps p.tables e below (B.U.setTop { g with pc := g.pc + 3, stack := v.toList ++ rest }) target → Steps p.tables e below (T.setTop g) target) ∨
    (∃ (q : Addr) (vm₁ : Vm) (B : Pt), s.WarmedH vm₁ ∧ Stand p l e R s m args below meth c B.U B.locs B.cells B.slots ∧ PostX ⟨T.setVm vm₁, locs, cells, slots⟩ argsL.toArray q B ∧
      Steps p.tables e below (T.setTop g) ((B.U.setTop { g with stack := rest }).pushFrame (.throwing q))) := by
  obtain ⟨mk, hnamed⟩ := Cond.code_named hcode
  obtain ⟨methM, cM, hmethM, -, -, -, -, -, -, hsigM⟩ := Cond.code_spec hnamed hcode
  have hstatic : methM.isStatic = true := Cond.static_spec hnamed hmethM hstat
  obtain ⟨kP, hkP, -⟩ := className_of_methodNamed hnamed
  have hinitP : kP.init = .initialized := Cond.initialized_spec (findClass_of_methodNamed hnamed) hkP hinit
  obtain ⟨vm₁, X₁, hstep₁⟩ := X.invokestatic hexec hown hlink hnamed hmethM hstatic hkP hinitP hy (g := g) hg (argsL := argsL) (rest := rest) (hlen _ hsigM) hstack hdg
  rcases hK m meth c ⟨T.setVm vm₁, locs, cells, slots⟩ { g with stack := rest } (.invokestatic index) mk argsL.toArray X₁ hg hsize hdg hW (X₁.named hnamed) (hpre vm₁ X₁.warmed) with ⟨v, B, X', hpost, hsteps⟩ | ⟨q, B, X', hpost, hsteps⟩
  · exact Or.inl ⟨v, vm₁, B, X₁.warmed, X', hpost, fun target h => hstep₁ _ fun acts => by rw [doInvoke_state]; exact hsteps.trans h⟩
  · exact Or.inr ⟨q, vm₁, B, X₁.warmed, X', hpost, hstep₁ _ fun acts => by rw [doInvoke_state]; exact hsteps⟩
end Calls
theorem vx_cls {s : State} {T : State} {vm₁ : Vm} {E : String} {k : ClassId} (hW : s.WarmedH vm₁) (h : (T.setVm vm₁).vm.findClass E = some k) : s.vm.findClass E = some k := by
  have h1 : vm₁.findClass E = some k := h
  rw [hW.alike.findClass] at h1
  exact h1
/-- the method's frame g, with q thrown over it -/
def vx_W (p : Program) (l : Launch) (e : Env) (R : Room) (s : State) (m : MethodId) (args : Array Value) (below : List Frame) (meth : Method) (c : Code) (H : Heap) (locs : List Loc) (cells slots : Nat) (Q : State → Prop) (g : JFrame) (q : Addr) : Prop :=
  ∀ T : State, T.heap = H → Stand p l e R s m args below meth c T locs cells slots → ∃ t, Steps p.tables e below ((T.setTop g).pushFrame (.throwing q)) t ∧ Q t
def vx_Run (p : Program) (l : Launch) (e : Env) (R : Room) (s : State) (m : MethodId) (args : Array Value) (below : List Frame) (meth : Method) (c : Code) (H : Heap) (locs : List Loc) (cells slots mc ms : Nat) (g : JFrame) (rest : List Value) (Qa : State → Outcome → State → Prop) (XC : String → State → State → Prop) (free : Addr → Prop) : Prop :=
  ∀ T : State, T.heap = H → Stand p l e R s m args below meth c T locs cells slots →
    (∃ (v : Option Value) (st₀ t T' : State) (L : List Loc), st₀.heap = H ∧ Stand p l e R s m args below meth c T' (locs ++ L) (cells + mc) (slots + ms) ∧ (∀ q ∈ L, free q.base) ∧ T'.heap = t.heap ∧ T'.vm = t.vm ∧ Qa st₀ (.returned v) t ∧
      Goes p e below T g T' { g with pc := g.pc + 3, stack := v.toList ++ rest }) ∨
    (∃ (q : Addr) (st₀ t T' : State) (L : List Loc) (E : String) (ce : Cell), st₀.heap = H ∧ Stand p l e R s m args below meth c T' (locs ++ L) (cells + mc) (slots + ms) ∧ (∀ z ∈ L, free z.base) ∧ T'.heap = t.heap ∧ T'.vm = t.vm ∧ XC E st₀ t ∧ t.heap[q]? = some ce ∧ ce.vm = .none ∧ s.vm.findClass E = some ce.cls ∧
      Steps p.tables e below (T.setTop g) ((T'.setTop { g with stack := rest }).pushFrame (.throwing q)))
def vx_X {S : Type} (px : S → Prop) (B : String → S → State → Prop) (A : Nat → Prop) : String → State → State → Prop := fun E st t => ∃ u : S, px u ∧ B E u t ∧ va_F A st t
section Runs
variable {p : Program} {l : Launch} {e : Env} {R : Room} {s : State} {m : MethodId} {args : Array Value} {below : List Frame} {meth : Method} {c : Code} {H : Heap} {locs : List Loc} {cells slots : Nat}
variable {y : MethodName} {bytes cc : ByteArray} {maxL nL mc ms n index : Nat} {ret : Option FieldType} {ws : List Cond} {rm : Room} {Pc : Array Value → State → Prop} {Qc : Array Value → State → Outcome → State → Prop} {XC : String → State → State → Prop} {free : Addr → Prop} {Ts : List Cond} {own C : String} {b : Addr} {As rest : List Value} {g : JFrame}
theorem vx_callBack (cb : CallB R s args own index y bytes maxL ret ws rm mc ms n) (hM : vx_Met l y ws rm Pc Qc XC mc ms free) (hbl : FrameBlind Pc) : vx_Back l R p e below s args y 3 8 (PreOf R mc ms Pc) (PostOf Qc mc ms free) (vx_Post XC mc ms free) := by
  obtain ⟨hrc, hrs, hfr, hlo, hws, hcw, -, hini, -⟩ := cb
  exact vx_back (bytes := bytes) (maxL := maxL) (ret := ret) hM hbl hrc hrs hfr hlo hws hcw (fun a' U hW => word_at hW (Or.inl (by first | rfl | simp [Cond.onTables, Cond.keeps, Cond.steady])) hini)
theorem vx_runV (S : CallFix p m c cc nL s args Ts own) (hM : vx_Met l y ws rm Pc Qc XC mc ms free) (cw : CallW R s args own C index y bytes maxL ret ws rm mc ms n) (hp : PreV s H C b Pc As)
    (hg : g.method = m) (hn : As.length = n) (hsize : g.locals.size = nL) (hstack : g.stack = As.reverse ++ .ref b :: rest) (hW : 2 * g.monitorRoom + (rest.map fun v => v.category).sum ≤ 8) (hdg : decode cc g.pc = .ok (.invokevirtual index, 3)) (hf : cells + mc ≤ R.cells ∧ slots + ms ≤ R.slots) :
    vx_Run p l e R s m args below meth c H locs cells slots mc ms g rest (Qc (Value.ref b :: As).toArray) XC free := by
  have hK : vx_Back l R p e below s args y 3 8 (PreOf R mc ms Pc) (PostOf Qc mc ms free) (vx_Post XC mc ms free) := vx_callBack cw.1 hM hp.1
  obtain ⟨⟨-, -, -, -, -, -, hcode, -, hy, hlen, hl⟩, hin, hse⟩ := cw
  obtain ⟨hx, hb, hml, ho, -⟩ := S
  obtain ⟨-, ⟨cellB, hcB, hoB, hclB⟩, hPc⟩ := hp
  intro T hT X
  rcases vx_callV X hx (C := C) (bytes := bytes) (maxL := maxL) (ret := ret) ho hl hin hse hcode hy hK (by rw [hT]; exact hcB) hoB hclB hg (hsize.trans hml.symm) (argsL := As) (rest := rest) (fun sig h => hn.trans (hlen sig h)) hstack hW (by rw [hb]; exact hdg)
    (fun vm₁ hW₁ => ⟨hf.1, hf.2, hPc (T.setVm vm₁) hT hW₁⟩) with ⟨v, vm₁, ⟨U', l2, c2, s2⟩, hW₁, X', ⟨g', mk, t, L, e1, e2, hq, h1, hL, h2, h3⟩, st⟩ | ⟨q, vm₁, ⟨U', l2, c2, s2⟩, hW₁, X', ⟨g', mk, t, L, E, ce, e1, e2, hq, hce, hcv, hcl, h1, hL, h2, h3⟩, st⟩
  · dsimp only [Pt.U, Pt.locs, Pt.cells, Pt.slots] at X' e1 e2 h1 h2 h3 st
    subst h1; subst h2; subst h3
    exact Or.inl ⟨v, (T.setVm vm₁).calling g' mk (Value.ref b :: As).toArray, t, U', L, hT, X', hL, e1, e2, hq, st⟩
  · dsimp only [Pt.U, Pt.locs, Pt.cells, Pt.slots] at X' e1 e2 h1 h2 h3 st hcl
    subst h1; subst h2; subst h3
    exact Or.inr ⟨q, (T.setVm vm₁).calling g' mk (Value.ref b :: As).toArray, t, U', L, E, ce, hT, X', hL, e1, e2, hq, hce, hcv, vx_cls hW₁ hcl, st⟩
theorem vx_runS (S : CallFix p m c cc nL s args Ts own) (hM : vx_Met l y ws rm Pc Qc XC mc ms free) (cw : CallB R s args own index y bytes maxL ret ws rm mc ms n ∧ (Cond.static y).before args s = true) (hp : PreS s H Pc As)
    (hg : g.method = m) (hn : As.length = n) (hsize : g.locals.size = nL) (hstack : g.stack = As.reverse ++ rest) (hW : 2 * g.monitorRoom + (rest.map fun v => v.category).sum ≤ 8) (hdg : decode cc g.pc = .ok (.invokestatic index, 3)) (hf : cells + mc ≤ R.cells ∧ slots + ms ≤ R.slots) :
    vx_Run p l e R s m args below meth c H locs cells slots mc ms g rest (Qc As.toArray) XC free := by
  have hK : vx_Back l R p e below s args y 3 8 (PreOf R mc ms Pc) (PostOf Qc mc ms free) (vx_Post XC mc ms free) := vx_callBack cw.1 hM hp.1
  obtain ⟨⟨-, -, -, -, -, -, hcode, hini, hy, hlen, hl⟩, hstt⟩ := cw
  obtain ⟨hx, hb, hml, ho, -⟩ := S
  intro T hT X
  rcases vx_callS X hx (bytes := bytes) (maxL := maxL) (ret := ret) ho hl hstt hini hcode hy hK hg (hsize.trans hml.symm) (argsL := As) (rest := rest) (fun sig h => hn.trans (hlen sig h)) hstack hW (by rw [hb]; exact hdg)
    (fun vm₁ hW₁ => ⟨hf.1, hf.2, hp.2 (T.setVm vm₁) hT hW₁⟩) with ⟨v, vm₁, ⟨U', l2, c2, s2⟩, hW₁, X', ⟨g', mk, t, L, e1, e2, hq, h1, hL, h2, h3⟩, st⟩ | ⟨q, vm₁, ⟨U', l2, c2, s2⟩, hW₁, X', ⟨g', mk, t, L, E, ce, e1, e2, hq, hce, hcv, hcl, h1, hL, h2, h3⟩, st⟩
  · dsimp only [Pt.U, Pt.locs, Pt.cells, Pt.slots] at X' e1 e2 h1 h2 h3 st
    subst h1; subst h2; subst h3
    exact Or.inl ⟨v, (T.setVm vm₁).calling g' mk As.toArray, t, U', L, hT, X', hL, e1, e2, hq, st⟩
  · dsimp only [Pt.U, Pt.locs, Pt.cells, Pt.slots] at X' e1 e2 h1 h2 h3 st hcl
    subst h1; subst h2; subst h3
    exact Or.inr ⟨q, (T.setVm vm₁).calling g' mk As.toArray, t, U', L, E, ce, hT, X', hL, e1, e2, hq, hce, hcv, vx_cls hW₁ hcl, st⟩
end Runs
section Rows
variable {p : Program} {l : Launch} {e : Env} {R : Room} {s : State} {m : MethodId} {args : Array Value} {below : List Frame} {meth : Method} {c : Code} {H : Heap} {locs : List Loc} {cells slots : Nat} {Q : State → Prop}
variable {mc ms : Nat} {free : Addr → Prop} {A0 A1 : Nat → Prop} {H0 : Heap} {a : Array Value} {pc : Nat} {ls : Array Slot} {st0 rest : List Value}
theorem vx_keep {st₀ t T' : State} {L : List Loc} (h0 : st₀.heap = H) (e1 : T'.heap = t.heap) (hS : va_S A0 H0 H locs) (hA : ∀ q, q < H.size → A1 q → A0 q) (hf : ∀ q, free q → A0 q) (hL : ∀ q ∈ L, free q.base) (hF : va_F A1 st₀ t) :
    H.size ≤ T'.heap.size ∧ (∀ q : Nat, q < H.size → ¬ A1 q → T'.heap[q]? = H[q]?) ∧ va_S A0 H0 T'.heap (locs ++ L) := by
  obtain ⟨hz, hk⟩ := hF
  rw [h0] at hz hk
  exact ⟨by rw [e1]; exact hz, fun q h1 h2 => by rw [e1]; exact hk q h1 h2,
    ⟨Nat.le_trans hS.1 (by rw [e1]; exact hz), fun q h1 h2 => by rw [e1, hk q (Nat.lt_of_lt_of_le h1 hS.1) (fun z => h2 (hA q (Nat.lt_of_lt_of_le h1 hS.1) z))]; exact hS.2.1 q h1 h2, fun q hq => by
      rcases List.mem_append.mp hq with h | h
      · exact hS.2.2 q h
      · exact hf _ (hL q h)⟩⟩
theorem vx_calli {S SX : Type} {post : Int32 → S → Prop} {px : SX → Prop} {B : S → State → Prop} {BX : String → SX → State → Prop} {AX : Nat → Prop} (hr : vx_Run p l e R s m args below meth c H locs cells slots mc ms (F0 m pc ls st0) rest (va_Qi post B A1 a) (vx_X px BX AX) free) (hS : va_S A0 H0 H locs) (hA : ∀ q, q < H.size → A1 q → A0 q) (hf : ∀ q, free q → A0 q) (hAX : ∀ q, q < H.size → AX q → A0 q)
    (kx : ∀ (E : String) (ce : Cell) (q9 : Addr) (u : SX) (t : State) (H1 : Heap) (locs1 : List Loc), t.heap = H1 → s.vm.Alike t.vm → px u → BX E u t → H.size ≤ H1.size → (∀ q : Nat, q < H.size → ¬ AX q → H1[q]? = H[q]?) → va_S A0 H0 H1 locs1 → H1[q9]? = some ce → ce.vm = .none → s.vm.findClass E = some ce.cls → vx_W p l e R s m args below meth c H1 locs1 (cells + mc) (slots + ms) Q (F0 m pc ls rest) q9)
    (kk : ∀ (r : Int32) (u : S) (t : State) (H1 : Heap) (locs1 : List Loc), t.heap = H1 → s.vm.Alike t.vm → post r u → B u t → H.size ≤ H1.size → (∀ q : Nat, q < H.size → ¬ A1 q → H1[q]? = H[q]?) → va_S A0 H0 H1 locs1 → W p l e R s m args below meth c H1 locs1 (cells + mc) (slots + ms) Q (F0 m (pc + 3) ls (.int r :: rest))) : W p l e R s m args below meth c H locs cells slots Q (F0 m pc ls st0) := by
  intro T hT X
  rcases hr T hT X with ⟨v, st₀, t, T', L, h0, X', hL, e1, e2, ⟨⟨r, u, hv, hp, hb⟩, hF⟩, st⟩ | ⟨q, st₀, t, T', L, E, ce, h0, X', hL, e1, e2, ⟨u, hp, hb, hF⟩, hce, hcv, hcl, st⟩
  · cases hv
    obtain ⟨k1, k2, k3⟩ := vx_keep h0 e1 hS hA hf hL hF
    obtain ⟨t2, a1, b1⟩ := kk r u t T'.heap (locs ++ L) e1.symm (by rw [← e2]; exact X'.warmed.alike) hp hb k1 k2 k3 T' rfl X'
    exact ⟨t2, st t2 a1, b1⟩
  · obtain ⟨k1, k2, k3⟩ := vx_keep h0 e1 hS hAX hf hL hF
    obtain ⟨t2, a1, b1⟩ := kx E ce q u t T'.heap (locs ++ L) e1.symm (by rw [← e2]; exact X'.warmed.alike) hp hb k1 k2 k3 (by rw [e1]; exact hce) hcv hcl T' rfl X'
    exact ⟨t2, st.trans a1, b1⟩
theorem vx_calll {S SX : Type} {post : Int64 → S → Prop} {px : SX → Prop} {B : S → State → Prop} {BX : String → SX → State → Prop} {AX : Nat → Prop} (hr : vx_Run p l e R s m args below meth c H locs cells slots mc ms (F0 m pc ls st0) rest (va_Ql post B A1 a) (vx_X px BX AX) free) (hS : va_S A0 H0 H locs) (hA : ∀ q, q < H.size → A1 q → A0 q) (hf : ∀ q, free q → A0 q) (hAX : ∀ q, q < H.size → AX q → A0 q)
    (kx : ∀ (E : String) (ce : Cell) (q9 : Addr) (u : SX) (t : State) (H1 : Heap) (locs1 : List Loc), t.heap = H1 → s.vm.Alike t.vm → px u → BX E u t → H.size ≤ H1.size → (∀ q : Nat, q < H.size → ¬ AX q → H1[q]? = H[q]?) → va_S A0 H0 H1 locs1 → H1[q9]? = some ce → ce.vm = .none → s.vm.findClass E = some ce.cls → vx_W p l e R s m args below meth c H1 locs1 (cells + mc) (slots + ms) Q (F0 m pc ls rest) q9)
    (kk : ∀ (r : Int64) (u : S) (t : State) (H1 : Heap) (locs1 : List Loc), t.heap = H1 → s.vm.Alike t.vm → post r u → B u t → H.size ≤ H1.size → (∀ q : Nat, q < H.size → ¬ A1 q → H1[q]? = H[q]?) → va_S A0 H0 H1 locs1 → W p l e R s m args below meth c H1 locs1 (cells + mc) (slots + ms) Q (F0 m (pc + 3) ls (.long r :: rest))) : W p l e R s m args below meth c H locs cells slots Q (F0 m pc ls st0) := by
  intro T hT X
  rcases hr T hT X with ⟨v, st₀, t, T', L, h0, X', hL, e1, e2, ⟨⟨r, u, hv, hp, hb⟩, hF⟩, st⟩ | ⟨q, st₀, t, T', L, E, ce, h0, X', hL, e1, e2, ⟨u, hp, hb, hF⟩, hce, hcv, hcl, st⟩
  · cases hv
    obtain ⟨k1, k2, k3⟩ := vx_keep h0 e1 hS hA hf hL hF
    obtain ⟨t2, a1, b1⟩ := kk r u t T'.heap (locs ++ L) e1.symm (by rw [← e2]; exact X'.warmed.alike) hp hb k1 k2 k3 T' rfl X'
    exact ⟨t2, st t2 a1, b1⟩
  · obtain ⟨k1, k2, k3⟩ := vx_keep h0 e1 hS hAX hf hL hF
    obtain ⟨t2, a1, b1⟩ := kx E ce q u t T'.heap (locs ++ L) e1.symm (by rw [← e2]; exact X'.warmed.alike) hp hb k1 k2 k3 (by rw [e1]; exact hce) hcv hcl T' rfl X'
    exact ⟨t2, st.trans a1, b1⟩
theorem vx_callf {S SX : Type} {post : UInt32 → S → Prop} {px : SX → Prop} {B : S → State → Prop} {BX : String → SX → State → Prop} {AX : Nat → Prop} (hr : vx_Run p l e R s m args below meth c H locs cells slots mc ms (F0 m pc ls st0) rest (va_Qf post B A1 a) (vx_X px BX AX) free) (hS : va_S A0 H0 H locs) (hA : ∀ q, q < H.size → A1 q → A0 q) (hf : ∀ q, free q → A0 q) (hAX : ∀ q, q < H.size → AX q → A0 q)
    (kx : ∀ (E : String) (ce : Cell) (q9 : Addr) (u : SX) (t : State) (H1 : Heap) (locs1 : List Loc), t.heap = H1 → s.vm.Alike t.vm → px u → BX E u t → H.size ≤ H1.size → (∀ q : Nat, q < H.size → ¬ AX q → H1[q]? = H[q]?) → va_S A0 H0 H1 locs1 → H1[q9]? = some ce → ce.vm = .none → s.vm.findClass E = some ce.cls → vx_W p l e R s m args below meth c H1 locs1 (cells + mc) (slots + ms) Q (F0 m pc ls rest) q9)
    (kk : ∀ (r : UInt32) (u : S) (t : State) (H1 : Heap) (locs1 : List Loc), t.heap = H1 → s.vm.Alike t.vm → post r u → B u t → H.size ≤ H1.size → (∀ q : Nat, q < H.size → ¬ A1 q → H1[q]? = H[q]?) → va_S A0 H0 H1 locs1 → W p l e R s m args below meth c H1 locs1 (cells + mc) (slots + ms) Q (F0 m (pc + 3) ls (.float r :: rest))) : W p l e R s m args below meth c H locs cells slots Q (F0 m pc ls st0) := by
  intro T hT X
  rcases hr T hT X with ⟨v, st₀, t, T', L, h0, X', hL, e1, e2, ⟨⟨r, u, hv, hp, hb⟩, hF⟩, st⟩ | ⟨q, st₀, t, T', L, E, ce, h0, X', hL, e1, e2, ⟨u, hp, hb, hF⟩, hce, hcv, hcl, st⟩
  · cases hv
    obtain ⟨k1, k2, k3⟩ := vx_keep h0 e1 hS hA hf hL hF
    obtain ⟨t2, a1, b1⟩ := kk r u t T'.heap (locs ++ L) e1.symm (by rw [← e2]; exact X'.warmed.alike) hp hb k1 k2 k3 T' rfl X'
    exact ⟨t2, st t2 a1, b1⟩
  · obtain ⟨k1, k2, k3⟩ := vx_keep h0 e1 hS hAX hf hL hF
    obtain ⟨t2, a1, b1⟩ := kx E ce q u t T'.heap (locs ++ L) e1.symm (by rw [← e2]; exact X'.warmed.alike) hp hb k1 k2 k3 (by rw [e1]; exact hce) hcv hcl T' rfl X'
    exact ⟨t2, st.trans a1, b1⟩
theorem vx_calld {S SX : Type} {post : UInt64 → S → Prop} {px : SX → Prop} {B : S → State → Prop} {BX : String → SX → State → Prop} {AX : Nat → Prop} (hr : vx_Run p l e R s m args below meth c H locs cells slots mc ms (F0 m pc ls st0) rest (va_Qd post B A1 a) (vx_X px BX AX) free) (hS : va_S A0 H0 H locs) (hA : ∀ q, q < H.size → A1 q → A0 q) (hf : ∀ q, free q → A0 q) (hAX : ∀ q, q < H.size → AX q → A0 q)
    (kx : ∀ (E : String) (ce : Cell) (q9 : Addr) (u : SX) (t : State) (H1 : Heap) (locs1 : List Loc), t.heap = H1 → s.vm.Alike t.vm → px u → BX E u t → H.size ≤ H1.size → (∀ q : Nat, q < H.size → ¬ AX q → H1[q]? = H[q]?) → va_S A0 H0 H1 locs1 → H1[q9]? = some ce → ce.vm = .none → s.vm.findClass E = some ce.cls → vx_W p l e R s m args below meth c H1 locs1 (cells + mc) (slots + ms) Q (F0 m pc ls rest) q9)
    (kk : ∀ (r : UInt64) (u : S) (t : State) (H1 : Heap) (locs1 : List Loc), t.heap = H1 → s.vm.Alike t.vm → post r u → B u t → H.size ≤ H1.size → (∀ q : Nat, q < H.size → ¬ A1 q → H1[q]? = H[q]?) → va_S A0 H0 H1 locs1 → W p l e R s m args below meth c H1 locs1 (cells + mc) (slots + ms) Q (F0 m (pc + 3) ls (.double r :: rest))) : W p l e R s m args below meth c H locs cells slots Q (F0 m pc ls st0) := by
  intro T hT X
  rcases hr T hT X with ⟨v, st₀, t, T', L, h0, X', hL, e1, e2, ⟨⟨r, u, hv, hp, hb⟩, hF⟩, st⟩ | ⟨q, st₀, t, T', L, E, ce, h0, X', hL, e1, e2, ⟨u, hp, hb, hF⟩, hce, hcv, hcl, st⟩
  · cases hv
    obtain ⟨k1, k2, k3⟩ := vx_keep h0 e1 hS hA hf hL hF
    obtain ⟨t2, a1, b1⟩ := kk r u t T'.heap (locs ++ L) e1.symm (by rw [← e2]; exact X'.warmed.alike) hp hb k1 k2 k3 T' rfl X'
    exact ⟨t2, st t2 a1, b1⟩
  · obtain ⟨k1, k2, k3⟩ := vx_keep h0 e1 hS hAX hf hL hF
    obtain ⟨t2, a1, b1⟩ := kx E ce q u t T'.heap (locs ++ L) e1.symm (by rw [← e2]; exact X'.warmed.alike) hp hb k1 k2 k3 (by rw [e1]; exact hce) hcv hcl T' rfl X'
    exact ⟨t2, st.trans a1, b1⟩
theorem vx_callv {S SX : Type} {post : S → Prop} {px : SX → Prop} {B : S → State → Prop} {BX : String → SX → State → Prop} {AX : Nat → Prop} (hr : vx_Run p l e R s m args below meth c H locs cells slots mc ms (F0 m pc ls st0) rest (va_Qv post B A1 a) (vx_X px BX AX) free) (hS : va_S A0 H0 H locs) (hA : ∀ q, q < H.size → A1 q → A0 q) (hf : ∀ q, free q → A0 q) (hAX : ∀ q, q < H.size → AX q → A0 q)
    (kx : ∀ (E : String) (ce : Cell) (q9 : Addr) (u : SX) (t : State) (H1 : Heap) (locs1 : List Loc), t.heap = H1 → s.vm.Alike t.vm → px u → BX E u t → H.size ≤ H1.size → (∀ q : Nat, q < H.size → ¬ AX q → H1[q]? = H[q]?) → va_S A0 H0 H1 locs1 → H1[q9]? = some ce → ce.vm = .none → s.vm.findClass E = some ce.cls → vx_W p l e R s m args below meth c H1 locs1 (cells + mc) (slots + ms) Q (F0 m pc ls rest) q9)
    (kk : ∀ (u : S) (t : State) (H1 : Heap) (locs1 : List Loc), t.heap = H1 → s.vm.Alike t.vm → post u → B u t → H.size ≤ H1.size → (∀ q : Nat, q < H.size → ¬ A1 q → H1[q]? = H[q]?) → va_S A0 H0 H1 locs1 → W p l e R s m args below meth c H1 locs1 (cells + mc) (slots + ms) Q (F0 m (pc + 3) ls (rest))) : W p l e R s m args below meth c H locs cells slots Q (F0 m pc ls st0) := by
  intro T hT X
  rcases hr T hT X with ⟨v, st₀, t, T', L, h0, X', hL, e1, e2, ⟨⟨u, hv, hp, hb⟩, hF⟩, st⟩ | ⟨q, st₀, t, T', L, E, ce, h0, X', hL, e1, e2, ⟨u, hp, hb, hF⟩, hce, hcv, hcl, st⟩
  · cases hv
    obtain ⟨k1, k2, k3⟩ := vx_keep h0 e1 hS hA hf hL hF
    obtain ⟨t2, a1, b1⟩ := kk u t T'.heap (locs ++ L) e1.symm (by rw [← e2]; exact X'.warmed.alike) hp hb k1 k2 k3 T' rfl X'
    exact ⟨t2, st t2 a1, b1⟩
  · obtain ⟨k1, k2, k3⟩ := vx_keep h0 e1 hS hAX hf hL hF
    obtain ⟨t2, a1, b1⟩ := kx E ce q u t T'.heap (locs ++ L) e1.symm (by rw [← e2]; exact X'.warmed.alike) hp hb k1 k2 k3 (by rw [e1]; exact hce) hcv hcl T' rfl X'
    exact ⟨t2, st.trans a1, b1⟩
/-- caught by the row x of this method's table; the rows ahead don't take it -/
theorem vx_catch {own name : String} {E : String} {ce : Cell} {q : Addr} (hown : s.vm.findClass own = some m.cls) (pre : List ExceptionTableEntry) (x : ExceptionTableEntry) (suf : List ExceptionTableEntry) (hsplit : c.exceptionTable.toList = pre ++ x :: suf)
    (hpass : ∀ z ∈ pre, covers z pc = false ∨ (z.catchType ≠ 0 ∧ ∃ nm : String, (Cond.classLink own z.catchType nm).before args s = true ∧ va_Nc E nm s)) (hx : covers x pc = true) (h0 : x.catchType ≠ 0)
    (hlink : (Cond.classLink own x.catchType name).before args s = true) (hcast : (Cond.castable E name).before args s = true) (hcell : H[q]? = some ce) (hv : ce.vm = .none) (hcl : s.vm.findClass E = some ce.cls)
    (kk : W p l e R s m args below meth c H locs cells slots Q (F0 m x.handlerPc ls [.ref q])) : vx_W p l e R s m args below meth c H locs cells slots Q (F0 m pc ls rest) q := by
  intro T hT X
  have hpl : e.platform.magicAccessors = ({} : Platform).magicAccessors := by rw [X.admits.platform]
  obtain ⟨c3, c4, hc3, hc4, hasg⟩ := Cond.castable_spec hcast
  cases Option.some.inj (hc3.symm.trans hcl)
  obtain ⟨c5, hc5, hcl5⟩ := Cond.classLink_spec hown hlink e.platform hpl
  cases Option.some.inj (hc4.symm.trans hc5)
  obtain ⟨vm', X', st⟩ := Stand.thenCaughtThrough X q (g := F0 m pc ls rest) rfl (Steps.refl _) (by rw [hT]; exact hcell) (by rw [hv]; rfl) (by obtain ⟨k9, h9, -⟩ := Vm.findClass_spec hcl; exact ⟨k9, h9⟩) pre x suf hsplit
    (fun z hz => by
      rcases hpass z hz with h | ⟨hz0, nm, hl1, hn1⟩
      · exact Or.inl h
      · obtain ⟨c6, hc6, hcl6⟩ := Cond.classLink_spec hown hl1 e.platform hpl
        obtain ⟨a8, b8, h1, h2, h3⟩ := hn1
        cases Option.some.inj (h1.symm.trans hcl)
        cases Option.some.inj (h2.symm.trans hc6)
        exact Or.inr ⟨hz0, _, hcl6, h3⟩) hx (Or.inr ⟨h0, c4, hcl5, hasg⟩)
  obtain ⟨t, a1, b1⟩ := kk (T.setVm vm') hT X'
  exact ⟨t, st.trans a1, b1⟩
end Rows
section Ends
variable {p : Program} {l : Launch} {e : Env} {R : Room} {s : State} {m : MethodId} {args : Array Value} {below : List Frame} {meth : Method} {c : Code} {H : Heap} {locs : List Loc} {cells slots : Nat} {Q : State → Prop}
variable {mc ms : Nat} {free : Addr → Prop} {A0 A1 : Nat → Prop} {H0 : Heap} {a : Array Value} {ls : Array Slot} {st0 rest : List Value}
variable {Qc : Array Value → State → Outcome → State → Prop} {XC : String → State → State → Prop}
/-- what a body that may throw owes at its end -/
def vx_MQ (below : List Frame) (Qc : Array Value → State → Outcome → State → Prop) (XC : String → State → State → Prop) (a : Array Value) (s : State) (mc ms : Nat) (free : Addr → Prop) : State → Prop := fun t =>
  ∃ o, t.status = .running ∧ Ended t below o ∧ vx_Q Qc XC mc ms free a s o t
theorem vx_ret {g : JFrame} {mc ms : Nat} (k : W p l e R s m args below meth c H locs cells slots (MQ below Qc args s mc ms free) g) : W p l e R s m args below meth c H locs cells slots (vx_MQ below Qc XC args s mc ms free) g := by
  intro T hT X
  obtain ⟨t, a1, o, b1, b2, b3, b4⟩ := k T hT X
  exact ⟨t, a1, o, b1, b2, Or.inl ⟨b3, b4⟩⟩
/-- not caught here: it goes on to the caller -/
theorem vx_widen {g : JFrame} {q : Addr} {k n : Nat} (h1 : cells ≤ k) (h2 : slots ≤ n) (kk : vx_W p l e R s m args below meth c H locs k n Q g q) : vx_W p l e R s m args below meth c H locs cells slots Q g q := fun T hT X => kk T hT (stand_widen X h1 h2)
theorem vx_out {pc : Nat} {E : String} {ce : Cell} {q : Addr} {mc ms : Nat} (hout : ∀ x ∈ c.exceptionTable.toList, covers x pc = false) (hlocks : meth.locks = false) (hcell : H[q]? = some ce) (hv : ce.vm = .none) (hcl : s.vm.findClass E = some ce.cls)
    (hx : ∀ t : State, t.heap = H → s.vm.Alike t.vm → XC E s t) (hf : ∀ z ∈ locs, free z.base) (hc : cells ≤ mc) (hs : slots ≤ ms) :
    vx_W p l e R s m args below meth c H locs cells slots (vx_MQ below Qc XC args s mc ms free) (F0 m pc ls rest) q := by
  intro T hT X
  obtain ⟨st1, hrun, hend, hW, hsm⟩ := X.leaveThrown q (g := F0 m pc ls rest) rfl rfl rfl hout hlocks
  have hcell9 : (T.setFrames (.throwing q :: below)).heap[q]? = some ce := by
    show T.heap[q]? = some ce
    rw [hT]; exact hcell
  exact ⟨_, st1, .threw q, hrun, hend, Or.inr ⟨q, rfl, E, ce, locs, hx _ hT hW.alike, hcell9, hv, hcl, hW, hsm.mono hc hs, hf⟩⟩
theorem vx_frame {U : State} {k n : Nat} (h : s.sameButNew ({ U with vm := s.vm } : State) locs k n) : s.heap.size ≤ U.heap.size ∧ ∀ q : Nat, q < s.heap.size → (∀ z ∈ locs, z.base ≠ q) → U.heap[q]? = s.heap[q]? := by
  obtain ⟨-, h2, -, -, -, h6⟩ := h
  refine ⟨h2, fun q hq hz => ?_⟩
  obtain ⟨c9, e1, e2, e3, e4⟩ := h6 q _ (Array.getElem?_eq_getElem hq)
  have hs : c9.slots = (s.heap[q]).slots := Array.ext_getElem? fun i => e4 i fun hm => hz _ hm rfl
  have h9 : c9 = s.heap[q] := by
    rw [hs] at e2
    exact e2
  have e5 : U.heap[q]? = some c9 := e1
  rw [e5, h9, Array.getElem?_eq_getElem hq]
/-- the words of a throw but the four that speak of the heap -/
def vx_no (w : Cond) : Bool := decide (w ≠ .isRef (.static Bundle.tN "UNASSIGNED_STACK" Bundle.steD)) && decide (w ≠ .isRef (.static Bundle.tN "SUPPRESSED_SENTINEL" Bundle.listD)) && decide (w ≠ .laysStatic Bundle.tN "UNASSIGNED_STACK" Bundle.steD) && decide (w ≠ .laysStatic Bundle.tN "SUPPRESSED_SENTINEL" Bundle.listD)
def vx_at0 (own : String) (ic : Nat) (X : String) (names : List String) : List Cond := (Bundle.ownAtoms0 own ic X names).filter vx_no
def vx_atS (own : String) (ic : Nat) (X : String) (names : List String) : List Cond := (Bundle.ownAtoms own ic X names).filter vx_no
/-- a word that the tables alone decide, or a good one -/
def vx_ot (w : Cond) : Bool := w.onTables || goodWord w
theorem vx_ot_at {args a' : Array Value} {s U : State} {w : Cond} (hW : s.WarmedH U.vm) (hvm : s.vm = U.vm) (hg : vx_ot w = true) (h : w.before args s = true) : w.before a' U = true := by
  simp only [vx_ot, Bool.or_eq_true] at hg
  rcases hg with hg | hg
  · exact va_tabs hg hvm h
  · exact word_at hW (good_of_word hg) h
/-- a list's words: the good ones out of the method's own list, the others by premises of their own -/
theorem vx_hat {args : Array Value} {s : State} {L B : List Cond} (h1 : ∀ w ∈ L.filter goodWord, w.before args s = true) (h2 : ∀ w ∈ L.filter (fun w => !goodWord w), w ∈ B) (h3 : ∀ w ∈ B, w.before args s = true) : ∀ w ∈ L, w.before args s = true := by
  intro w hw
  by_cases g : goodWord w = true
  · exact h1 w (List.mem_filter.mpr ⟨hw, g⟩)
  · refine h3 w (h2 w (List.mem_filter.mpr ⟨hw, ?_⟩))
    show (!goodWord w) = true
    cases hgw : goodWord w
    · rfl
    · exact absurd hgw g
theorem vx_c {args : Array Value} {s : State} {w : Cond} {B : List Cond} (h : w.before args s = true) (t : ∀ w ∈ B, w.before args s = true) : ∀ w' ∈ w :: B, w'.before args s = true := fun w' h' => (List.mem_cons.mp h').elim (fun e => by rw [e]; exact h) (t w')
theorem vx_n {args : Array Value} {s : State} : ∀ w ∈ ([] : List Cond), w.before args s = true := fun _ h => nomatch h
theorem vx_own {args : Array Value} {s : State} {L : List Cond} (h1 : ∀ w ∈ L.filter vx_no, w.before args s = true)
    (hU : (Cond.isRef (.static Bundle.tN "UNASSIGNED_STACK" Bundle.steD)).before args s = true) (hN : (Cond.isRef (.static Bundle.tN "SUPPRESSED_SENTINEL" Bundle.listD)).before args s = true)
    (lU : (Cond.laysStatic Bundle.tN "UNASSIGNED_STACK" Bundle.steD).before args s = true) (lN : (Cond.laysStatic Bundle.tN "SUPPRESSED_SENTINEL" Bundle.listD).before args s = true) : ∀ w ∈ L, w.before args s = true := by
  intro w hw
  by_cases e1 : w = .isRef (.static Bundle.tN "UNASSIGNED_STACK" Bundle.steD)
  · rw [e1]; exact hU
  · by_cases e2 : w = .isRef (.static Bundle.tN "SUPPRESSED_SENTINEL" Bundle.listD)
    · rw [e2]; exact hN
    · by_cases e3 : w = .laysStatic Bundle.tN "UNASSIGNED_STACK" Bundle.steD
      · rw [e3]; exact lU
      · by_cases e4 : w = .laysStatic Bundle.tN "SUPPRESSED_SENTINEL" Bundle.listD
        · rw [e4]; exact lN
        · exact h1 w (List.mem_filter.mpr ⟨hw, by unfold vx_no; rw [decide_eq_true e1, decide_eq_true e2, decide_eq_true e3, decide_eq_true e4]; rfl⟩)
/-- where a static field lies, its class's statics cell in H -/
def vx_L (C n d : String) (A : Nat → Prop) (U : State) (H : Heap) : Prop := ∃ (c : ClassId) (k : Class) (i : Nat) (f : Field) (a : Nat) (cell : Cell), U.vm.findClass C = some c ∧ U.fieldFound? C n d = some (c, k, i, f) ∧ f.isStatic = true ∧ k.statics = some a ∧ H[a]? = some cell ∧ cell.vm.isStatics = true ∧ cell.cls = c ∧ f.slot < cell.slots.size ∧ k.staticTypes[f.slot]? = some f.type ∧ ¬ A a
theorem vx_L.moved {C n d : String} {A : Nat → Prop} {u U : State} {H : Heap} (hvm : u.vm.Alike U.vm) (h : vx_L C n d A u H) : vx_L C n d A U H := by
  obtain ⟨c, k, i, f, a, cell, h1, h2, h3, h4, h5, h6, h7, h8, h9, h10⟩ := h
  obtain ⟨k', hi', he⟩ := State.fieldFound?_setVm hvm h2
  exact ⟨c, k', i, f, a, cell, by rw [hvm.findClass]; exact h1, hi', h3, by rw [he]; exact h4, h5, h6, h7, h8, by rw [he]; exact h9, h10⟩
theorem vx_L.kept {C n d : String} {A : Nat → Prop} {U : State} {H H1 : Heap} (h : vx_L C n d A U H) (hq : ∀ a : Nat, a < H.size → ¬ A a → H1[a]? = H[a]?) : vx_L C n d A U H1 := by
  obtain ⟨c, k, i, f, a, cell, h1, h2, h3, h4, h5, h6, h7, h8, h9, h10⟩ := h
  exact ⟨c, k, i, f, a, cell, h1, h2, h3, h4, by rw [hq a (Array.getElem?_eq_some_iff.mp h5).1 h10]; exact h5, h6, h7, h8, h9, h10⟩
theorem vx_L.narrow {C n d : String} {A B : Nat → Prop} {U : State} {H : Heap} (h : vx_L C n d A U H) (hAB : ∀ q, B q → A q) : vx_L C n d B U H := by
  obtain ⟨c, k, i, f, a, cell, h1, h2, h3, h4, h5, h6, h7, h8, h9, h10⟩ := h
  exact ⟨c, k, i, f, a, cell, h1, h2, h3, h4, h5, h6, h7, h8, h9, fun z => h10 (hAB _ z)⟩
theorem vx_L.word {C n d : String} {A : Nat → Prop} {s : State} {args : Array Value} (h : vx_L C n d A s s.heap) : (Cond.laysStatic C n d).before args s = true := by
  obtain ⟨c, k, i, f, a, cell, h1, h2, h3, h4, h5, h6, h7, h8, h9, -⟩ := h
  show (Cond.laysStatic C n d).holds args s none s [] = true
  exact Cond.laysStatic_of h1 h2 h3 h4 h5 h6 h7 h8 h9
/-- .. and what it holds: null or some reference -/
def vx_Zq (C n d : String) (A : Nat → Prop) (U : State) (H : Heap) : Prop := va_Zq C n d A U H ∧ vx_L C n d A U H
theorem vx_Zq.moved {C n d : String} {A : Nat → Prop} {u U : State} {H : Heap} (hvm : u.vm.Alike U.vm) (h : vx_Zq C n d A u H) : vx_Zq C n d A U H := ⟨va_Zq.moved hvm h.1, vx_L.moved hvm h.2⟩
theorem vx_Zq.kept {C n d : String} {A : Nat → Prop} {U : State} {H H1 : Heap} (h : vx_Zq C n d A U H) (hq : ∀ a : Nat, a < H.size → ¬ A a → H1[a]? = H[a]?) : vx_Zq C n d A U H1 := ⟨va_Zq.kept h.1 hq, vx_L.kept h.2 hq⟩
theorem vx_Zq.narrow {C n d : String} {A B : Nat → Prop} {U : State} {H : Heap} (h : vx_Zq C n d A U H) (hAB : ∀ q, B q → A q) : vx_Zq C n d B U H := ⟨va_Zq.narrow h.1 hAB, vx_L.narrow h.2 hAB⟩
theorem vx_Zqof {args : Array Value} {s : State} {C n d : String} {A : Nat → Prop} (hl : (Cond.laysStatic C n d).before args s = true) (hini : (Cond.initialized C).before args s = true) (h : (Cond.isRef (.static C n d)).before args s = true) (hA : ∀ a : Nat, a < s.heap.size → ¬ A a) : vx_Zq C n d A s s.heap := by
  refine ⟨va_Zqof hl hini h hA, ?_⟩
  obtain ⟨c, k, i, f, a, cell, h1, h2, h3, h4, h5, h6, h7, h8, h9⟩ := Cond.laysStatic_spec hl
  exact ⟨c, k, i, f, a, cell, h1, h2, h3, h4, h5, h6, h7, h8, h9, hA a (Array.getElem?_eq_some_iff.mp h5).1⟩
theorem vx_isRef {C n d : String} {v : Value} {A : Nat → Prop} {s : State} {args : Array Value} (h : va_Z C n d v A s s.heap) (hv : v.isRef = true) : (Cond.isRef (.static C n d)).before args s = true := by
  obtain ⟨cf, kf, fi, f, a, cell, h1, h2, h3, h4, h5, h6, h7, -⟩ := h
  have he : (Term.static C n d).eval args s none [] s = some v := by
    simp [Term.eval, State.fieldNamed?, h1, h2, h4, h5, h6, h7]
  simp only [Cond.before, Cond.holds, Cond.value, he]
  cases v <;> simp_all [Value.isRef]
theorem vx_isRefq {C n d : String} {A : Nat → Prop} {s : State} {args : Array Value} (h : va_Zq C n d A s s.heap) : (Cond.isRef (.static C n d)).before args s = true := by
  rcases h with h | ⟨t, h⟩
  · exact vx_isRef h rfl
  · exact vx_isRef h rfl
/-- the same frame, seen from here: as if the method were called anew in this heap -/
theorem vx_rebase {T : State} (X : Stand p l e R s m args below meth c T locs cells slots) {R' : Room} (hf : R'.frames ≤ R.frames) (hl : R'.locals ≤ R.locals) (hc : cells + R'.cells ≤ R.cells) (hs : slots + R'.slots ≤ R.slots) :
    Stand p l e R' ((T.setVm s.vm).setFrames (.invoking m args :: below)) m args below meth c T [] 0 0 := by
  have htop : (T.setVm s.vm).topJava?.isSome := X.here.top
  have hF : ((T.setVm s.vm).setFrames (.invoking m args :: below)).frames = .invoking m args :: below := State.frames_setFrames _ (State.cur_lt_of_top htop)
  obtain ⟨g₀, hg0⟩ := Option.isSome_iff_exists.mp htop
  obtain ⟨r, hr⟩ := State.topJava?_eq_some.mp hg0
  have hl9 : e.platform.stackLimits (T.setVm s.vm).me = e.platform.stackLimits s.me := X.limits
  have hb9 : (T.setVm s.vm).me.stackBytes = s.me.stackBytes := X.bytes
  refine ⟨X.admits, X.cas, X.clock, hF, ?_, X.hears, X.method, X.code, X.here, X.tail, X.warmed, ?_, ?_, ?_⟩
  · have h := X.room
    have hU : ((T.setVm s.vm).setFrames (.invoking m args :: below)).localsInUse = s.localsInUse := by
      rw [State.localsInUse_invoking hF (meth := meth) (c := c) X.method X.code, State.localsInUse_invoking X.frames X.method X.code]
    simp only [State.hasRoom, Bool.and_eq_true, decide_eq_true_eq] at h ⊢
    obtain ⟨⟨⟨⟨h1, h2, h3, h4, h5, h6⟩, h7⟩, h8⟩, h9⟩ := h
    rw [X.frames, List.length_cons] at h2 h3
    have q1 := X.heapSize
    have q2 := X.used
    simp only [hF, hU, List.length_cons, State.stackLimits_setFrames, State.stackBytes_setFrames, hl9, hb9]
    refine ⟨⟨⟨⟨by omega, by omega, by omega, by omega, by omega, h6⟩, ?_⟩, ?_⟩, X.book⟩
    · show T.heap.size + R'.cells ≤ e.platform.maxCells
      omega
    · show T.slotsUsed + R'.slots ≤ e.platform.maxSlots
      omega
  · rw [State.stackLimits_setFrames]; rfl
  · rw [State.stackBytes_setFrames]; rfl
  · refine ⟨?_, Nat.le_refl _, Nat.le_refl _, ?_, ?_, fun a c9 h9 => ⟨c9, h9, rfl, rfl, fun _ _ => rfl⟩⟩
    · obtain ⟨t, ht, -⟩ := State.frames_cons hr
      show T.setVm s.vm = { ((T.setVm s.vm).setFrames (.invoking m args :: below)).setFrames (T.setVm s.vm).frames with heap := T.heap, slotsUsed := T.slotsUsed }
      rw [State.setFrames_setFrames, State.setFrames_self ht]
      rfl
    · show T.slotsUsed = T.slotsUsed + ((T.heap.toList.drop T.heap.size).map (·.slots.size)).sum
      rw [List.drop_eq_nil_of_le (Nat.le_of_eq Array.length_toList)]
      rfl
    · show ((T.heap.toList.drop T.heap.size).map (·.slots.size)).sum ≤ 0
      rw [List.drop_eq_nil_of_le (Nat.le_of_eq Array.length_toList)]
      exact Nat.le_refl _
/-- 'throw new E()': new; dup; invokespecial; athrow -/
theorem vx_throw0 {cc : ByteArray} {pc : Nat} (hexec : p.tables.exec = Jvm.exec) (hb : c.code = cc) (hl : l.stackTraces = false) {own cls : String} {names : List String} {ik ic mc ms : Nat} {A : Nat → Prop}
    (hown : s.vm.findClass own = some m.cls) (hcls : Bundle.fit cls = true) (hnames : ∀ n ∈ names, Bundle.fit n = true)
    (hk : (Cond.classLink own ik cls).before args s = true) (hini : (Cond.initialized cls).before args s = true) (hat : ∀ w ∈ vx_at0 own ic cls names, w.before args s = true)
    (hgood : ∀ w ∈ Cond.classLink own ik cls :: Cond.initialized cls :: vx_at0 own ic cls names, vx_ot w = true)
    (hU : vx_Zq Bundle.tN "UNASSIGNED_STACK" Bundle.steD A s s.heap) (hN : vx_Zq Bundle.tN "SUPPRESSED_SENTINEL" Bundle.listD A s s.heap) (hS : va_S A s.heap H locs) (hsize : ls.size = c.maxLocals)
    (d0 : decode cc pc = .ok (.new ik, 3)) (d3 : decode cc (pc + 3) = .ok (.dup, 1)) (d4 : decode cc (pc + 4) = .ok (.invokespecial ic, 3)) (d7 : decode cc (pc + 7) = .ok (.athrow, 1))
    (hout : ∀ x ∈ c.exceptionTable.toList, covers x (pc + 7) = false)
    (hRframes : names.length + 3 < R.frames) (hRlocals : (rest.map fun v => v.category).sum + (13 * (names.length + 1) + 42) ≤ R.locals) (hRcells : cells + 1 ≤ R.cells) (hRslots : slots + 6 ≤ R.slots) (hlocks : meth.locks = false)
    (hx : ∀ t : State, s.vm.Alike t.vm → H.size ≤ t.heap.size → (∀ q : Nat, q < H.size → t.heap[q]? = H[q]?) → XC cls s t)
    (hf : ∀ z ∈ locs, free z.base) (hc : cells + 1 ≤ mc) (hs : slots + 6 ≤ ms) :
    W p l e R s m args below meth c H locs cells slots (vx_MQ below Qc XC args s mc ms free) (F0 m pc ls rest) := by
  intro T hT X
  have htr : e.platform.stackTraces = false := (show e.platform.stackTraces = l.stackTraces by rw [X.admits.platform]).trans hl
  have Y := vx_rebase X (R' := { frames := R.frames, locals := R.locals, cells := 1, slots := 6 }) (Nat.le_refl _) (Nat.le_refl _) hRcells hRslots
  obtain ⟨s', hA⟩ : ∃ z, z = (T.setVm s.vm).setFrames (.invoking m args :: below) := ⟨_, rfl⟩
  rw [← hA] at Y
  have hvm : s'.vm = s.vm := by rw [hA]; rfl
  have hhp : s'.heap = H := by rw [hA]; exact hT
  have hW0 : s.WarmedH s'.vm := by rw [hvm]; exact State.WarmedH.refl s
  have hat' : ∀ w ∈ vx_at0 own ic cls names, w.before args s' = true := fun w hw => vx_ot_at hW0 hvm.symm (hgood w (List.mem_cons_of_mem _ (List.mem_cons_of_mem _ hw))) (hat w hw)
  have hk' : (Cond.classLink own ik cls).before args s' = true := vx_ot_at hW0 hvm.symm (hgood _ List.mem_cons_self) hk
  have hini' : (Cond.initialized cls).before args s' = true := vx_ot_at hW0 hvm.symm (hgood _ (List.mem_cons_of_mem _ List.mem_cons_self)) hini
  have hU' : vx_Zq Bundle.tN "UNASSIGNED_STACK" Bundle.steD A s' s'.heap := by rw [hhp]; exact vx_Zq.moved hW0.alike (hU.kept hS.2.1)
  have hN' : vx_Zq Bundle.tN "SUPPRESSED_SENTINEL" Bundle.listD A s' s'.heap := by rw [hhp]; exact vx_Zq.moved hW0.alike (hN.kept hS.2.1)
  have h : ∀ w ∈ Bundle.ownAtoms0 own ic cls names, w.before args s' = true := vx_own hat' (vx_isRefq hU'.1) (vx_isRefq hN'.1) hU'.2.word hN'.2.word
  have hown' : s'.vm.findClass own = some m.cls := by rw [hvm]; exact hown
  have hins : (Cond.instantiable cls 6).before args s' = true := h _ (by simp [Bundle.ownAtoms0])
  obtain ⟨vm₁, cX, kX, hfX, hkX, -, -, X₁, st1⟩ := Y.newCold hexec (own := own) (C := cls) (index := ik) (n := 6) hown' hk' hins hini'
    (g := F0 m pc ls rest) rfl (by rw [hb]; exact d0) (Nat.le_refl _) (Nat.le_refl _)
  generalize hT1 : (T.setVm vm₁).pushCell { cls := cX, slots := kX.instanceTypes.map defaultValue, vm := .none } = T1 at X₁ st1
  have hcat : (Value.ref T.heap.size).category = 1 := rfl
  have hcellA : T1.heap[T.heap.size]? = some (freshCell cX kX) := by rw [← hT1]; exact State.heap_pushCell_size _ _
  have d3' : decode c.code (pc + 3) = .ok (.dup, 1) := by rw [hb]; exact d3
  obtain ⟨U, hsteps, hrun, hend, hW, hsame, ce, hce, hO⟩ := X₁.ctorThrow0 hexec htr (own := own) (cls := cls) (names := names) (ic := ic) hown' hcls hnames h (fun x hx => nomatch hx) hfX hkX hcellA (by rw [hhp, hT]; exact Nat.le_refl _)
    (g := { method := m, pc := pc + 4, locals := ls, stack := .ref T.heap.size :: .ref T.heap.size :: rest, locked := none }) rfl hsize rfl rfl (rest := rest) rfl
    (by rw [hb]; exact d4) (by rw [hb]; exact d7) hout hRframes (by simp only [List.map_cons, List.sum_cons, hcat]; omega) hlocks
  obtain ⟨f1, f2⟩ := vx_frame hsame
  rw [hhp] at f1 f2
  have hWs : s.WarmedH U.vm := State.WarmedH.trans hW0 hW
  have hcl : s.vm.findClass cls = some ce.cls := by
    have h9 := hO.cls
    rw [hvm] at h9
    exact h9
  have hall : s.sameButNew ({ U with vm := s.vm } : State) locs mc ms := by
    subst hA
    obtain ⟨e1, e2⟩ := hsame
    rw [State.setFrames_setFrames] at e1
    have h2 : (T.setVm s.vm).sameButNew ({ U with vm := s.vm } : State) [] (0 + 1) (0 + 6) := ⟨e1, e2⟩
    have h3 := X.same.trans h2
    rw [List.append_nil] at h3
    exact h3.mono hc hs
  refine ⟨U, ?_, .threw T.heap.size, hrun, hend, Or.inr ⟨T.heap.size, rfl, cls, ce, locs, hx U hWs.alike f1 (fun q hq => f2 q hq (fun z hz => nomatch hz)), hce, hO.vm, hcl, hWs, hall, hf⟩⟩
  refine st1 _ ?_
  show Steps p.tables e below (T1.setTop { method := m, pc := pc + 3, locals := ls, stack := .ref T.heap.size :: rest, locked := none }) _
  jvm_step X₁.here [X₁.here.top, hexec, d3', Value.category]
  exact hsteps
/-- 'throw new E("text")': new; dup; ldc; invokespecial; athrow -/
theorem vx_throwS {cc : ByteArray} {pc : Nat} (hexec : p.tables.exec = Jvm.exec) (hb : c.code = cc) (hl : l.stackTraces = false) {own cls text : String} {names : List String} {ik is ic mc ms sa : Nat} {A : Nat → Prop}
    (hown : s.vm.findClass own = some m.cls) (hcls : Bundle.fit cls = true) (hnames : ∀ n ∈ names, Bundle.fit n = true)
    (hk : (Cond.classLink own ik cls).before args s = true) (hini : (Cond.initialized cls).before args s = true) (hstr : vk_R own is text sa s) (hat : ∀ w ∈ vx_atS own ic cls names, w.before args s = true)
    (hgood : ∀ w ∈ Cond.classLink own ik cls :: Cond.initialized cls :: vx_atS own ic cls names, vx_ot w = true)
    (hU : vx_Zq Bundle.tN "UNASSIGNED_STACK" Bundle.steD A s s.heap) (hN : vx_Zq Bundle.tN "SUPPRESSED_SENTINEL" Bundle.listD A s s.heap) (hS : va_S A s.heap H locs) (hsize : ls.size = c.maxLocals)
    (d0 : decode cc pc = .ok (.new ik, 3)) (d3 : decode cc (pc + 3) = .ok (.dup, 1)) (d4 : decode cc (pc + 4) = .ok (.ldc is, 2)) (d6 : decode cc (pc + 6) = .ok (.invokespecial ic, 3)) (d9 : decode cc (pc + 9) = .ok (.athrow, 1))
    (hout : ∀ x ∈ c.exceptionTable.toList, covers x (pc + 9) = false)
    (hRframes : names.length + 3 < R.frames) (hRlocals : (rest.map fun v => v.category).sum + (13 * (names.length + 1) + 43) ≤ R.locals) (hRcells : cells + 1 ≤ R.cells) (hRslots : slots + 6 ≤ R.slots) (hlocks : meth.locks = false)
    (hx : ∀ t : State, s.vm.Alike t.vm → H.size ≤ t.heap.size → (∀ q : Nat, q < H.size → t.heap[q]? = H[q]?) → XC cls s t)
    (hf : ∀ z ∈ locs, free z.base) (hc : cells + 1 ≤ mc) (hs : slots + 6 ≤ ms) :
    W p l e R s m args below meth c H locs cells slots (vx_MQ below Qc XC args s mc ms free) (F0 m pc ls rest) := by
  intro T hT X
  have htr : e.platform.stackTraces = false := (show e.platform.stackTraces = l.stackTraces by rw [X.admits.platform]).trans hl
  have Y := vx_rebase X (R' := { frames := R.frames, locals := R.locals, cells := 1, slots := 6 }) (Nat.le_refl _) (Nat.le_refl _) hRcells hRslots
  obtain ⟨s', hA⟩ : ∃ z, z = (T.setVm s.vm).setFrames (.invoking m args :: below) := ⟨_, rfl⟩
  rw [← hA] at Y
  have hvm : s'.vm = s.vm := by rw [hA]; rfl
  have hhp : s'.heap = H := by rw [hA]; exact hT
  have hW0 : s.WarmedH s'.vm := by rw [hvm]; exact State.WarmedH.refl s
  have hat' : ∀ w ∈ vx_atS own ic cls names, w.before args s' = true := fun w hw => vx_ot_at hW0 hvm.symm (hgood w (List.mem_cons_of_mem _ (List.mem_cons_of_mem _ hw))) (hat w hw)
  have hk' : (Cond.classLink own ik cls).before args s' = true := vx_ot_at hW0 hvm.symm (hgood _ List.mem_cons_self) hk
  have hini' : (Cond.initialized cls).before args s' = true := vx_ot_at hW0 hvm.symm (hgood _ (List.mem_cons_of_mem _ List.mem_cons_self)) hini
  have hU' : vx_Zq Bundle.tN "UNASSIGNED_STACK" Bundle.steD A s' s'.heap := by rw [hhp]; exact vx_Zq.moved hW0.alike (hU.kept hS.2.1)
  have hN' : vx_Zq Bundle.tN "SUPPRESSED_SENTINEL" Bundle.listD A s' s'.heap := by rw [hhp]; exact vx_Zq.moved hW0.alike (hN.kept hS.2.1)
  have h : ∀ w ∈ Bundle.ownAtoms own ic cls names, w.before args s' = true := vx_own hat' (vx_isRefq hU'.1) (vx_isRefq hN'.1) hU'.2.word hN'.2.word
  have hown' : s'.vm.findClass own = some m.cls := by rw [hvm]; exact hown
  have hins : (Cond.instantiable cls 6).before args s' = true := h _ (by simp [Bundle.ownAtoms])
  obtain ⟨vm₁, cX, kX, hfX, hkX, -, -, X₁, st1⟩ := Y.newCold hexec (own := own) (C := cls) (index := ik) (n := 6) hown' hk' hins hini'
    (g := F0 m pc ls rest) rfl (by rw [hb]; exact d0) (Nat.le_refl _) (Nat.le_refl _)
  generalize hT1 : (T.setVm vm₁).pushCell { cls := cX, slots := kX.instanceTypes.map defaultValue, vm := .none } = T1 at X₁ st1
  have hcat : (Value.ref T.heap.size).category = 1 := rfl
  have hcellA : T1.heap[T.heap.size]? = some (freshCell cX kX) := by rw [← hT1]; exact State.heap_pushCell_size _ _
  have d3' : decode c.code (pc + 3) = .ok (.dup, 1) := by rw [hb]; exact d3
  have d4' : decode c.code (pc + 4) = .ok (.ldc is, 2) := by rw [hb]; exact d4
  have hstr' : vk_R own is text sa s' := vk_R.warm hW0 hstr
  obtain ⟨U, hsteps, hrun, hend, hW, hsame, ce, hce, hO⟩ := X₁.ctorThrowS hexec htr (own := own) (cls := cls) (names := names) (ic := ic) hown' hcls hnames h (fun x hx => nomatch hx) hfX hkX hcellA (by rw [hhp, hT]; exact Nat.le_refl _) (msg := .ref sa) rfl
    (g := { method := m, pc := pc + 6, locals := ls, stack := .ref sa :: .ref T.heap.size :: .ref T.heap.size :: rest, locked := none }) rfl hsize rfl rfl (rest := rest) rfl
    (by rw [hb]; exact d6) (by rw [hb]; exact d9) hout hRframes (by simp only [List.map_cons, List.sum_cons, hcat]; omega) hlocks
  obtain ⟨f1, f2⟩ := vx_frame hsame
  rw [hhp] at f1 f2
  have hWs : s.WarmedH U.vm := State.WarmedH.trans hW0 hW
  have hcl : s.vm.findClass cls = some ce.cls := by
    have h9 := hO.cls
    rw [hvm] at h9
    exact h9
  have hall : s.sameButNew ({ U with vm := s.vm } : State) locs mc ms := by
    subst hA
    obtain ⟨e1, e2⟩ := hsame
    rw [State.setFrames_setFrames] at e1
    have h2 : (T.setVm s.vm).sameButNew ({ U with vm := s.vm } : State) [] (0 + 1) (0 + 6) := ⟨e1, e2⟩
    have h3 := X.same.trans h2
    rw [List.append_nil] at h3
    exact h3.mono hc hs
  refine ⟨U, ?_, .threw T.heap.size, hrun, hend, Or.inr ⟨T.heap.size, rfl, cls, ce, locs, hx U hWs.alike f1 (fun q hq => f2 q hq (fun z hz => nomatch hz)), hce, hO.vm, hcl, hWs, hall, hf⟩⟩
  refine st1 _ ?_
  show Steps p.tables e below (T1.setTop { method := m, pc := pc + 3, locals := ls, stack := .ref T.heap.size :: rest, locked := none }) _
  jvm_step X₁.here [X₁.here.top, hexec, d3', Value.category]
  exact X₁.ldcString hexec (own := own) (text := text) (index := is) (a := sa) hown' hstr'.1 hstr'.2
    (g := { method := m, pc := pc + 4, locals := ls, stack := .ref T.heap.size :: .ref T.heap.size :: rest, locked := none }) rfl d4' _ hsteps
/-- 'throw new E("text")', the text by a wide index -/
theorem vx_throwSW {cc : ByteArray} {pc : Nat} (hexec : p.tables.exec = Jvm.exec) (hb : c.code = cc) (hl : l.stackTraces = false) {own cls text : String} {names : List String} {ik is ic mc ms sa : Nat} {A : Nat → Prop}
    (hown : s.vm.findClass own = some m.cls) (hcls : Bundle.fit cls = true) (hnames : ∀ n ∈ names, Bundle.fit n = true)
    (hk : (Cond.classLink own ik cls).before args s = true) (hini : (Cond.initialized cls).before args s = true) (hstr : vk_R own is text sa s) (hat : ∀ w ∈ vx_atS own ic cls names, w.before args s = true)
    (hgood : ∀ w ∈ Cond.classLink own ik cls :: Cond.initialized cls :: vx_atS own ic cls names, vx_ot w = true)
    (hU : vx_Zq Bundle.tN "UNASSIGNED_STACK" Bundle.steD A s s.heap) (hN : vx_Zq Bundle.tN "SUPPRESSED_SENTINEL" Bundle.listD A s s.heap) (hS : va_S A s.heap H locs) (hsize : ls.size = c.maxLocals)
    (d0 : decode cc pc = .ok (.new ik, 3)) (d3 : decode cc (pc + 3) = .ok (.dup, 1)) (d4 : decode cc (pc + 4) = .ok (.ldc_w is, 3)) (d7 : decode cc (pc + 7) = .ok (.invokespecial ic, 3)) (d10 : decode cc (pc + 10) = .ok (.athrow, 1))
    (hout : ∀ x ∈ c.exceptionTable.toList, covers x (pc + 10) = false)
    (hRframes : names.length + 3 < R.frames) (hRlocals : (rest.map fun v => v.category).sum + (13 * (names.length + 1) + 43) ≤ R.locals) (hRcells : cells + 1 ≤ R.cells) (hRslots : slots + 6 ≤ R.slots) (hlocks : meth.locks = false)
    (hx : ∀ t : State, s.vm.Alike t.vm → H.size ≤ t.heap.size → (∀ q : Nat, q < H.size → t.heap[q]? = H[q]?) → XC cls s t)
    (hf : ∀ z ∈ locs, free z.base) (hc : cells + 1 ≤ mc) (hs : slots + 6 ≤ ms) :
    W p l e R s m args below meth c H locs cells slots (vx_MQ below Qc XC args s mc ms free) (F0 m pc ls rest) := by
  intro T hT X
  have htr : e.platform.stackTraces = false := (show e.platform.stackTraces = l.stackTraces by rw [X.admits.platform]).trans hl
  have Y := vx_rebase X (R' := { frames := R.frames, locals := R.locals, cells := 1, slots := 6 }) (Nat.le_refl _) (Nat.le_refl _) hRcells hRslots
  obtain ⟨s', hA⟩ : ∃ z, z = (T.setVm s.vm).setFrames (.invoking m args :: below) := ⟨_, rfl⟩
  rw [← hA] at Y
  have hvm : s'.vm = s.vm := by rw [hA]; rfl
  have hhp : s'.heap = H := by rw [hA]; exact hT
  have hW0 : s.WarmedH s'.vm := by rw [hvm]; exact State.WarmedH.refl s
  have hat' : ∀ w ∈ vx_atS own ic cls names, w.before args s' = true := fun w hw => vx_ot_at hW0 hvm.symm (hgood w (List.mem_cons_of_mem _ (List.mem_cons_of_mem _ hw))) (hat w hw)
  have hk' : (Cond.classLink own ik cls).before args s' = true := vx_ot_at hW0 hvm.symm (hgood _ List.mem_cons_self) hk
  have hini' : (Cond.initialized cls).before args s' = true := vx_ot_at hW0 hvm.symm (hgood _ (List.mem_cons_of_mem _ List.mem_cons_self)) hini
  have hU' : vx_Zq Bundle.tN "UNASSIGNED_STACK" Bundle.steD A s' s'.heap := by rw [hhp]; exact vx_Zq.moved hW0.alike (hU.kept hS.2.1)
  have hN' : vx_Zq Bundle.tN "SUPPRESSED_SENTINEL" Bundle.listD A s' s'.heap := by rw [hhp]; exact vx_Zq.moved hW0.alike (hN.kept hS.2.1)
  have h : ∀ w ∈ Bundle.ownAtoms own ic cls names, w.before args s' = true := vx_own hat' (vx_isRefq hU'.1) (vx_isRefq hN'.1) hU'.2.word hN'.2.word
  have hown' : s'.vm.findClass own = some m.cls := by rw [hvm]; exact hown
  have hins : (Cond.instantiable cls 6).before args s' = true := h _ (by simp [Bundle.ownAtoms])
  obtain ⟨vm₁, cX, kX, hfX, hkX, -, -, X₁, st1⟩ := Y.newCold hexec (own := own) (C := cls) (index := ik) (n := 6) hown' hk' hins hini'
    (g := F0 m pc ls rest) rfl (by rw [hb]; exact d0) (Nat.le_refl _) (Nat.le_refl _)
  generalize hT1 : (T.setVm vm₁).pushCell { cls := cX, slots := kX.instanceTypes.map defaultValue, vm := .none } = T1 at X₁ st1
  have hcat : (Value.ref T.heap.size).category = 1 := rfl
  have hcellA : T1.heap[T.heap.size]? = some (freshCell cX kX) := by rw [← hT1]; exact State.heap_pushCell_size _ _
  have d3' : decode c.code (pc + 3) = .ok (.dup, 1) := by rw [hb]; exact d3
  have d4' : decode c.code (pc + 4) = .ok (.ldc_w is, 3) := by rw [hb]; exact d4
  have hstr' : vk_R own is text sa s' := vk_R.warm hW0 hstr
  obtain ⟨U, hsteps, hrun, hend, hW, hsame, ce, hce, hO⟩ := X₁.ctorThrowS hexec htr (own := own) (cls := cls) (names := names) (ic := ic) hown' hcls hnames h (fun x hx => nomatch hx) hfX hkX hcellA (by rw [hhp, hT]; exact Nat.le_refl _) (msg := .ref sa) rfl
    (g := { method := m, pc := pc + 7, locals := ls, stack := .ref sa :: .ref T.heap.size :: .ref T.heap.size :: rest, locked := none }) rfl hsize rfl rfl (rest := rest) rfl
    (by rw [hb]; exact d7) (by rw [hb]; exact d10) hout hRframes (by simp only [List.map_cons, List.sum_cons, hcat]; omega) hlocks
  obtain ⟨f1, f2⟩ := vx_frame hsame
  rw [hhp] at f1 f2
  have hWs : s.WarmedH U.vm := State.WarmedH.trans hW0 hW
  have hcl : s.vm.findClass cls = some ce.cls := by
    have h9 := hO.cls
    rw [hvm] at h9
    exact h9
  have hall : s.sameButNew ({ U with vm := s.vm } : State) locs mc ms := by
    subst hA
    obtain ⟨e1, e2⟩ := hsame
    rw [State.setFrames_setFrames] at e1
    have h2 : (T.setVm s.vm).sameButNew ({ U with vm := s.vm } : State) [] (0 + 1) (0 + 6) := ⟨e1, e2⟩
    have h3 := X.same.trans h2
    rw [List.append_nil] at h3
    exact h3.mono hc hs
  refine ⟨U, ?_, .threw T.heap.size, hrun, hend, Or.inr ⟨T.heap.size, rfl, cls, ce, locs, hx U hWs.alike f1 (fun q hq => f2 q hq (fun z hz => nomatch hz)), hce, hO.vm, hcl, hWs, hall, hf⟩⟩
  refine st1 _ ?_
  show Steps p.tables e below (T1.setTop { method := m, pc := pc + 3, locals := ls, stack := .ref T.heap.size :: rest, locked := none }) _
  jvm_step X₁.here [X₁.here.top, hexec, d3', Value.category]
  exact X₁.ldcStringW hexec (own := own) (text := text) (index := is) (a := sa) hown' hstr'.1 hstr'.2
    (g := { method := m, pc := pc + 4, locals := ls, stack := .ref T.heap.size :: .ref T.heap.size :: rest, locked := none }) rfl d4' _ hsteps
end Ends
section Bodies
variable {l : Launch}
theorem vx_ofW {y : MethodName} {ws ws' : List Cond} {rm : Room} {Pc : Array Value → State → Prop} {Qc : Array Value → State → Outcome → State → Prop} {XC : String → State → State → Prop} {mc ms : Nat} {free : Addr → Prop} {cc : ByteArray} {maxL : Nat} {ret : Option FieldType}
    (hy : plainName y.cls = true) (hw : ws = Cond.code y cc maxL ret :: ws')
    (body : ∀ p e s m args below meth c s₁, BodyLoose p l y (headSpec ws rm) cc maxL ret e s m args below meth c s₁ → c.maxLocals = maxL → (∀ x ∈ c.exceptionTable.toList, False) → Pc args s →
      W p l e (headSpec ws rm).room s m args below meth c s.heap [] 0 0 (vx_MQ below Qc XC args s mc ms free) (entryFrame m args maxL)) : vx_Met l y ws rm Pc Qc XC mc ms free := by
  refine MetFree.of_bodyS (code := cc) (maxLocals := maxL) (ret := ret) hy ?_ ?_
  · intro args s m h hn
    obtain ⟨meth, c, h1, h2, h3, h4, h5, h6, -, -⟩ := Cond.code_spec hn (atoms_spec (ws := ws) h _ (by rw [hw]; exact List.mem_cons_self))
    exact ⟨meth, c, h1, h2, h3, h4, h5, h6⟩
  · intro p e s m args below meth c s₁ B hml hP _
    have hh0 : s₁.heap = s.heap := by rw [B.state]; rfl
    have ht : ∀ x ∈ c.exceptionTable.toList, False := by
      obtain ⟨meth9, c9, h1, h2, -, -, -, -, h7, -⟩ := Cond.code_spec B.named (atoms_spec (ws := ws) B.pre _ (by rw [hw]; exact List.mem_cons_self))
      cases Option.some.inj (h1.symm.trans B.method)
      cases Option.some.inj (h2.symm.trans (Stand.of_body B).code)
      intro x hx
      rw [Array.isEmpty_iff.mp h7] at hx
      cases hx
    obtain ⟨t, a1, o, b1, b2, b3⟩ := body p e s m args below meth c s₁ B hml ht hP s₁ hh0 (Stand.of_body B)
    exact ⟨t, o, a1, b1, b2, b3⟩
/-- the table of a body with handlers -/
theorem vx_table {p : Program} {x y : MethodName} {S : Spec} {cc bytes : ByteArray} {maxL maxL' : Nat} {ret ret' : Option FieldType} {e : Env} {s s₁ : State} {m : MethodId} {args : Array Value} {below : List Frame} {meth : Method} {c : Code} {hh : List (Nat × Nat × Nat × Nat)}
    (B : BodyLoose p l y S cc maxL ret e s m args below meth c s₁) (h : (Cond.codeWith y bytes maxL' ret' hh).before args s = true) : c.exceptionTable.toList = tableOf hh := by
  obtain ⟨m9, meth9, c9, hn9, h1, h2, -, -, h6, -⟩ := Cond.codeWith_spec h
  cases Option.some.inj (hn9.symm.trans B.named)
  cases Option.some.inj (h1.symm.trans B.method)
  cases Option.some.inj (h2.symm.trans (Stand.of_body B).code)
  rw [← h6, table_eq]
end Bodies
end VXA
/-! ===== END ===== -/
/-! ===== BEGIN a static call of a method with an exception table ===== -/
section VXS
variable {p : Program} {l : Launch} {e : Env} {R : Room} {s : State} {m : MethodId} {args : Array Value} {below : List Frame} {meth : Method} {c : Code} {T : State} {H : Heap} {locs : List Loc} {cells slots : Nat}
abbrev vx_CSW (R : Room) (s : State) (args : Array Value) (own : String) (index : Nat) (y : MethodName) (bytes : ByteArray) (maxL : Nat) (ret : Option FieldType) (hh : List (Nat × Nat × Nat × Nat)) (ws : List Cond) (rm : Room) (mc ms n : Nat) : Prop :=
  (rm.cells = mc ∧ rm.slots = ms ∧ rm.frames + 1 ≤ R.frames ∧ 8 + (maxL + 11) + rm.locals ≤ R.locals ∧ (∀ w ∈ ws, ∀ (a' : Array Value) (U : State), s.WarmedH U.vm → w.before a' U = true) ∧ Cond.codeWith y bytes maxL ret hh ∈ ws) ∧
  (Cond.codeWith y bytes maxL ret hh).before args s = true ∧ (Cond.initialized y.cls).before args s = true ∧ (y.cls ≠ "java/lang/invoke/MethodHandle" ∧ y.cls ≠ "java/lang/invoke/VarHandle") ∧
  (∀ sig, parseMethodDescriptor y.desc = some sig → n = sig.parameters.length) ∧ (Cond.methodLink own index y).before args s = true ∧ (Cond.static y).before args s = true
theorem vx_cwSW {own : String} {index maxL mc ms : Nat} {y : MethodName} {bytes : ByteArray} {ret : Option FieldType} {hh : List (Nat × Nat × Nat × Nat)} {Ts ws ws' : List Cond} {rm : Room} (n : Nat) (ht : ∀ w ∈ Ts, w.before args s = true) (hT : GoodIn Ts (va_wsS own index y ws)) (hw : ws = Cond.codeWith y bytes maxL ret hh :: ws') (hrc : rm.cells = mc) (hrs : rm.slots = ms)
    (hd : y.cls ≠ "java/lang/invoke/MethodHandle" ∧ y.cls ≠ "java/lang/invoke/VarHandle" ∧ (parseMethodDescriptor y.desc).map (fun d => d.parameters.length) = some n) (hR : rm.frames + 1 ≤ R.frames ∧ 8 + (maxL + 11) + rm.locals ≤ R.locals) :
    vx_CSW R s args own index y bytes maxL ret hh ws rm mc ms n := by
  have ok : ∀ w ∈ va_wsS own index y ws, w.before args s = true := fun w h => ht w (hT w h).1
  have hG : GoodIn Ts ws := fun w h => hT w (by unfold va_wsS; exact List.mem_append_right _ h)
  have hc : Cond.codeWith y bytes maxL ret hh ∈ ws := by rw [hw]; exact List.mem_cons_self
  refine ⟨⟨hrc, hrs, hR.1, hR.2, pay_in ht hG, hc⟩, ht _ (hG _ hc).1, ok _ (by simp [va_wsS]), ⟨hd.1, hd.2.1⟩, fun sig h => ?_, ok _ (by simp [va_wsS]), ok _ (by simp [va_wsS])⟩
  have h2 := hd.2.2
  rw [h] at h2
  exact (Option.some.inj h2).symm
theorem vx_callSW (X : Stand p l e R s m args below meth c T locs cells slots) (hexec : p.tables.exec = Jvm.exec) {own : String} {index : Nat} {y : MethodName} {bytes : ByteArray} {maxL : Nat} {ret : Option FieldType} {hh : List (Nat × Nat × Nat × Nat)}
    (hown : s.vm.findClass own = some m.cls) (hlink : (Cond.methodLink own index y).before args s = true) (hstat : (Cond.static y).before args s = true) (hinit : (Cond.initialized y.cls).before args s = true)
    (hcode : (Cond.codeWith y bytes maxL ret hh).before args s = true) (hy : y.cls ≠ "java/lang/invoke/MethodHandle" ∧ y.cls ≠ "java/lang/invoke/VarHandle")
    {W9 : Nat} {Pre : Pt → Array Value → Prop} {Post : Pt → Array Value → Option Value → Pt → Prop} (hK : Back l R p e below s args y 3 W9 Pre Post)
    {g : JFrame} (hg : g.method = m) (hsize : g.locals.size = c.maxLocals) {argsL rest : List Value} (hlen : ∀ sig, parseMethodDescriptor y.desc = some sig → argsL.length = sig.parameters.length)
    (hstack : g.stack = argsL.reverse ++ rest) (hW : 2 * g.monitorRoom + (rest.map fun v => v.category).sum ≤ W9) (hdg : decode c.code g.pc = .ok (.invokestatic index, 3))
    (hpre : ∀ vm₁, s.WarmedH vm₁ → Pre ⟨T.setVm vm₁, locs, cells, slots⟩ argsL.toArray) :
    ∃ (v : Option Value) (vm₁ : Vm) (B : Pt), s.WarmedH vm₁ ∧ Stand p l e R s m args below meth c B.U B.locs B.cells B.slots ∧ Post ⟨T.setVm vm₁, locs, cells, slots⟩ argsL.toArray v B ∧
      ∀ target, Steps p.tables e below (B.U.setTop { g with pc := g.pc + 3, stack := v.toList ++ rest }) target → Steps p.tables e below (T.setTop g) target := by
  obtain ⟨mk, methM, cM, hnamed, hmethM, -, -, -, -, -, -, hsigM⟩ := Cond.codeWith_spec hcode
  have hstatic : methM.isStatic = true := Cond.static_spec hnamed hmethM hstat
  obtain ⟨kP, hkP, -⟩ := className_of_methodNamed hnamed
  have hinitP : kP.init = .initialized := Cond.initialized_spec (findClass_of_methodNamed hnamed) hkP hinit
  obtain ⟨vm₁, X₁, hstep₁⟩ := X.invokestatic hexec hown hlink hnamed hmethM hstatic hkP hinitP hy (g := g) hg (argsL := argsL) (rest := rest) (hlen _ hsigM) hstack hdg
  obtain ⟨v, B, X', hpost, hsteps⟩ := hK m meth c ⟨T.setVm vm₁, locs, cells, slots⟩ { g with stack := rest } (.invokestatic index) mk argsL.toArray X₁ hg hsize hdg hW (X₁.named hnamed) (hpre vm₁ X₁.warmed)
  exact ⟨v, vm₁, B, X₁.warmed, X', hpost, fun target h => hstep₁ _ fun acts => by rw [doInvoke_state]; exact hsteps.trans h⟩
theorem vx_runSW {y : MethodName} {bytes cc : ByteArray} {maxL nL mc ms n index : Nat} {ret : Option FieldType} {hh : List (Nat × Nat × Nat × Nat)} {ws : List Cond} {rm : Room} {Pc : Array Value → State → Prop} {Qc : Array Value → State → Outcome → State → Prop} {free : Addr → Prop} {Ts : List Cond} {own : String} {As rest : List Value} {g : JFrame}
    (S : CallFix p m c cc nL s args Ts own) (hM : Met l y ws rm Pc Qc mc ms free) (cw : vx_CSW R s args own index y bytes maxL ret hh ws rm mc ms n) (hp : PreS s H Pc As)
    (hg : g.method = m) (hn : As.length = n) (hsize : g.locals.size = nL) (hstack : g.stack = As.reverse ++ rest) (hW : 2 * g.monitorRoom + (rest.map fun v => v.category).sum ≤ 8) (hdg : decode cc g.pc = .ok (.invokestatic index, 3)) (hf : cells + mc ≤ R.cells ∧ slots + ms ≤ R.slots) :
    va_Run p l e R s m args below meth c H locs cells slots mc ms g rest (Qc As.toArray) (free) := by
  obtain ⟨⟨hrc, hrs, hfr, hlo, hws, hcw⟩, hcode, hini, hy, hlen, hl, hstt⟩ := cw
  have hK : Back l R p e below s args y 3 8 (PreOf R mc ms Pc) (PostOf Qc mc ms free) := va_backW (hh := hh) (bytes := bytes) (maxL := maxL) (ret := ret) hM hp.1 hrc hrs hfr hlo hws hcw (fun a' U hW => word_at hW (Or.inl (by first | rfl | simp [Cond.onTables, Cond.keeps, Cond.steady])) hini)
  obtain ⟨hx, hb, hml, ho, -⟩ := S
  intro T hT X
  obtain ⟨v, vm₁, ⟨U', l2, c2, s2⟩, hW₁, X', ⟨g', mk, t, L, e1, e2, hq, h1, hL, h2, h3⟩, st⟩ := vx_callSW X hx (hh := hh) (bytes := bytes) (maxL := maxL) (ret := ret) ho hl hstt hini hcode hy hK hg (hsize.trans hml.symm) (argsL := As) (rest := rest) (fun sig h => hn.trans (hlen sig h)) hstack hW (by rw [hb]; exact hdg)
    (fun vm₁ hW₁ => ⟨hf.1, hf.2, hp.2 (T.setVm vm₁) hT hW₁⟩)
  dsimp only [Pt.U, Pt.locs, Pt.cells, Pt.slots] at X' e1 e2 h1 h2 h3 st
  subst h1; subst h2; subst h3
  exact ⟨v, (T.setVm vm₁).calling g' mk As.toArray, t, U', L, hT, X', hL, e1, e2, hq, st⟩
/-- not caught here, past rows that name other classes: it goes on to the caller -/
theorem vx_outP {p : Program} {l : Launch} {e : Env} {R : Room} {s : State} {m : MethodId} {args : Array Value} {below : List Frame} {meth : Method} {c : Code} {H : Heap} {locs : List Loc} {cells slots : Nat} {free : Addr → Prop} {ls : Array Slot} {rest : List Value} {Qc : Array Value → State → Outcome → State → Prop} {XC : String → State → State → Prop}
    {pc : Nat} {own E : String} {ce : Cell} {q : Addr} {mc ms : Nat} (hown : s.vm.findClass own = some m.cls) (hlocks : meth.locks = false)
    (hpass : ∀ z ∈ c.exceptionTable.toList, covers z pc = false ∨ (z.catchType ≠ 0 ∧ ∃ nm : String, (Cond.classLink own z.catchType nm).before args s = true ∧ va_Nc E nm s)) (hcell : H[q]? = some ce) (hv : ce.vm = .none) (hcl : s.vm.findClass E = some ce.cls)
    (hx : ∀ t : State, t.heap = H → s.vm.Alike t.vm → XC E s t) (hf : ∀ z ∈ locs, free z.base) (hc : cells ≤ mc) (hs : slots ≤ ms) :
    vx_W p l e R s m args below meth c H locs cells slots (vx_MQ below Qc XC args s mc ms free) (F0 m pc ls rest) q := by
  intro T hT X
  have hpl : e.platform.magicAccessors = ({} : Platform).magicAccessors := by rw [X.admits.platform]
  obtain ⟨vm', hW', X', st⟩ := X.outThrough hlocks q (g := F0 m pc ls rest) rfl rfl rfl (cell := ce) (by rw [hT]; exact hcell) (by rw [hv]; rfl)
    (by obtain ⟨k9, h9, -⟩ := Vm.findClass_spec hcl; exact ⟨k9, h9⟩) (fun z hz => by
      rcases hpass z hz with h | ⟨hz0, nm, hl1, hn1⟩
      · exact Or.inl h
      · obtain ⟨c6, hc6, hcl6⟩ := Cond.classLink_spec hown hl1 e.platform hpl
        obtain ⟨a8, b8, h1, h2, h3⟩ := hn1
        cases Option.some.inj (h1.symm.trans hcl)
        cases Option.some.inj (h2.symm.trans hc6)
        exact Or.inr ⟨hz0, _, hcl6, h3⟩)
  obtain ⟨g₀, hfr⟩ := X'.frames_eq
  have hcell9 : ((T.setVm vm').setFrames (.throwing q :: below)).heap[q]? = some ce := by
    show T.heap[q]? = some ce
    rw [hT]; exact hcell
  have hend : Ended ((T.setVm vm').setFrames (.throwing q :: below)) below (.threw q) := State.frames_setFrames _ (State.cur_lt_of_frames hfr)
  refine ⟨(T.setVm vm').setFrames (.throwing q :: below), ?_, .threw q, X'.here.running, hend, Or.inr ⟨q, rfl, E, ce, locs, hx _ hT (X'.ends _).1.alike, hcell9, hv, hcl, (X'.ends _).1, (X'.ends _).2.mono hc hs, hf⟩⟩
  rw [X.pushThrowing_eq]
  exact st
/-- a thing of a world lies in the heap -/
theorem vx_lt {D : va_G} {cl : List vw_C} {ws : va_W} {H1 : Heap} (h : va_P D cl ws H1) {k : Nat} {q : Nat × va_E} (hk : ws[k]? = some q) : q.1 < H1.size := (h k q hk).lt
end VXS
/-! ===== END ===== -/
/-! ===== BEGIN methods with a table of their own: called by a name, returning or throwing ===== -/
section VXH
/-! vx_backW, vx_callVX, vx_callSX, vx_callVW, vx_runVW, vx_runVX, vx_runSX, vx_ofWH follow the same proofs as their sisters above (Free/Laws.lean, Shelf42/LK1.lean); vx_outP calls Shelf42/NT130.lean (outThrough). -/
section
variable {l : Launch} {R : Room} {p : Program} {e : Env} {below : List Frame} {s : State} {sargs : Array Value} {y : MethodName} {len W9 : Nat}
theorem vx_backW {ws : List Cond} {rm : Room} {Pc : Array Value → State → Prop} {Qc : Array Value → State → Outcome → State → Prop} {XC : String → State → State → Prop} {mc ms : Nat} {free : Addr → Prop} {bytes : ByteArray} {maxL : Nat} {ret : Option FieldType} {hh : List (Nat × Nat × Nat × Nat)}
    (hM : vx_Met l y ws rm Pc Qc XC mc ms free) (hblind : FrameBlind Pc) (hrc : rm.cells = mc) (hrs : rm.slots = ms)
    (hframes : rm.frames + 1 ≤ R.frames) (hlocals : W9 + (maxL + 11) + rm.locals ≤ R.locals)
    (hws : ∀ w ∈ ws, ∀ a' U, s.WarmedH U.vm → w.before a' U = true) (hcode : Cond.codeWith y bytes maxL ret hh ∈ ws) (hinit : ∀ a' U, s.WarmedH U.vm → (Cond.initialized y.cls).before a' U = true) :
    vx_Back l R p e below s sargs y len W9 (PreOf R mc ms Pc) (PostOf Qc mc ms free) (vx_Post XC mc ms free) := by
  intro m meth c A g ig mk a X hg hsize hdg hW hn hp
  have h1 : (headSpec ws rm).pre.before a A.U = true := atoms_intro fun w hw => hws w hw _ _ X.warmed
  have h2 : (Cond.codeWith y bytes maxL ret hh).before a A.U = true := hws _ hcode _ _ X.warmed
  have h3 : (Cond.initialized y.cls).before a A.U = true := hinit _ _ X.warmed
  have h4 : A.cells + (headSpec ws rm).room.cells ≤ R.cells := by rw [show (headSpec ws rm).room.cells = mc from hrc]; exact hp.1
  have h5 : A.slots + (headSpec ws rm).room.slots ≤ R.slots := by rw [show (headSpec ws rm).room.slots = ms from hrs]; exact hp.2.1
  have hPc : Pc a (A.U.calling g mk a) := hblind _ _ _ _ hp.2.2
  obtain ⟨U, Ls, c0, s0⟩ := A
  dsimp only [Pt.U, Pt.locs, Pt.cells, Pt.slots] at h1 h2 h3 h4 h5 X hn hPc ⊢
  obtain ⟨m9, methY, cY, hn9, hmY, hcY, -, hlY, -⟩ := Cond.codeWith_spec h2
  cases Option.some.inj (hn9.symm.trans hn)
  obtain ⟨kY, hkY, -⟩ := className_of_methodNamed hn
  have hinitY : kY.init = .initialized := Cond.initialized_spec (findClass_of_methodNamed hn) hkY h3
  have h : At U g.method c below := by rw [hg]; exact X.here
  have hlocals9 : W9 + (maxL + 11) + (headSpec ws rm).room.locals ≤ R.locals := hlocals
  have happ : (headSpec ws rm).appliesLoose y e.platform (U.calling g mk a) = true :=
    Spec.appliesLoose_calling (g := g) h hdg hn hkY hinitY
      (X.room_calling (g := g) (R' := (headSpec ws rm).room) hsize hmY hcY hframes (by rw [hlY]; omega) h4 h5) h1
  obtain ⟨mid, hmid⟩ := h.above
  have hfr : (U.setTop g).frames = (.java g :: mid) ++ below := by rw [State.frames_setTop' g h.top, hmid]; rfl
  obtain ⟨o, s₂, hsteps, -, hend, hq⟩ := Steps.callFree hM p X.admits X.cas X.clock (acts := []) hfr happ hPc trivial
  have hq' : vx_Q Qc XC mc ms free a (U.calling g mk a) o s₂ := hq
  rw [State.frames_setTop' g h.top] at hend
  obtain ⟨g₀, hg0⟩ := Option.isSome_iff_exists.mp h.top
  obtain ⟨r, hr⟩ := State.topJava?_eq_some.mp hg0
  have hr' : (({ U with heap := s₂.heap, slotsUsed := s₂.slotsUsed } : State).setVm s₂.vm).frames = .java g₀ :: r := hr
  rcases hq' with ⟨hqc, L, hfe, hL⟩ | ⟨q, rfl, E, ce, L, hx, hce, hcv, hcl, hW₂, hsm, hL⟩
  · obtain ⟨⟨v, rfl⟩, hW₂, e2, q2, q3, q4, q5, q6⟩ := id hfe
    have e3 : s₂ = ({ (U.calling g mk a).setFrames s₂.frames with heap := s₂.heap, slotsUsed := s₂.slotsUsed } : State).setVm s₂.vm := by
      have : s₂ = ({ s₂ with vm := (U.calling g mk a).vm } : State).setVm s₂.vm := rfl
      rw [e2] at this
      exact this
    obtain ⟨c₂, i₂, len₂, hc₂, hd₂, hf₂⟩ := hend
    have hW' : U.WarmedH s₂.vm := hW₂
    have hcc : c₂ = c := by
      have h1 : s₂.code? g.method = U.code? g.method := by
        rw [State.code?_eq, State.code?_eq, hW'.alike.method?]
      exact Option.some.inj (hc₂.symm.trans (h1.trans h.code))
    subst hcc
    have hlen : len₂ = len := by rw [hdg] at hd₂; cases hd₂; rfl
    subst hlen
    have hs₂ : s₂ = (({ U with heap := s₂.heap, slotsUsed := s₂.slotsUsed } : State).setVm s₂.vm).setTop { g with pc := g.pc + len₂, stack := v.toList ++ g.stack } := by
      refine e3.trans ?_
      rw [hf₂, State.calling_eq h.top, State.setFrames_setFrames, State.setTop_of_frames _ hr', hr]
      rfl
    have hsame : U.sameButNew ({ U with heap := s₂.heap, slotsUsed := s₂.slotsUsed } : State) L mc ms := by
      refine ⟨?_, q2, q3, q4, q5, q6⟩
      obtain ⟨t, ht, -⟩ := State.frames_cons hr
      show ({ U with heap := s₂.heap, slotsUsed := s₂.slotsUsed } : State) = { U.setFrames U.frames with heap := s₂.heap, slotsUsed := s₂.slotsUsed }
      rw [State.setFrames_self ht]
    subst hg
    refine Or.inl ⟨v, ⟨(({ U with heap := s₂.heap, slotsUsed := s₂.slotsUsed } : State).setVm s₂.vm), Ls ++ L, c0 + mc, s0 + ms⟩,
      ⟨X.admits, X.cas, X.clock, X.frames, X.room, X.hears, X.method, X.code, (X.here.setHeapUsed s₂.heap s₂.slotsUsed).setVm hW'.alike, X.tail, State.WarmedH.trans X.warmed hW', X.limits, X.bytes, X.same.trans (hsame.setVm s.vm)⟩,
      ⟨g, mk, s₂, L, rfl, rfl, hqc, rfl, hL, rfl, rfl⟩, ?_⟩
    show Steps p.tables e below _ ((({ U with heap := s₂.heap, slotsUsed := s₂.slotsUsed } : State).setVm s₂.vm).setTop { g with pc := g.pc + len₂, stack := v.toList ++ g.stack })
    rw [← hs₂]
    exact hsteps
  · obtain ⟨e2, q2, q3, q4, q5, q6⟩ := id hsm
    have e3 : s₂ = ({ (U.calling g mk a).setFrames s₂.frames with heap := s₂.heap, slotsUsed := s₂.slotsUsed } : State).setVm s₂.vm := by
      have : s₂ = ({ s₂ with vm := (U.calling g mk a).vm } : State).setVm s₂.vm := rfl
      rw [e2] at this
      exact this
    have hf₂ : s₂.frames = .throwing q :: .java g :: U.frames.tail := hend
    have hW' : U.WarmedH s₂.vm := hW₂
    have hs₂ : s₂ = ((({ U with heap := s₂.heap, slotsUsed := s₂.slotsUsed } : State).setVm s₂.vm).setTop g).pushFrame (.throwing q) := by
      refine e3.trans ?_
      rw [hf₂, State.calling_eq h.top, State.setFrames_setFrames, State.pushFrame, State.frames_setTop _ hr', State.setTop_of_frames _ hr', State.setFrames_setFrames, hr]
      rfl
    have hsame : U.sameButNew ({ U with heap := s₂.heap, slotsUsed := s₂.slotsUsed } : State) L mc ms := by
      refine ⟨?_, q2, q3, q4, q5, q6⟩
      obtain ⟨t, ht, -⟩ := State.frames_cons hr
      show ({ U with heap := s₂.heap, slotsUsed := s₂.slotsUsed } : State) = { U.setFrames U.frames with heap := s₂.heap, slotsUsed := s₂.slotsUsed }
      rw [State.setFrames_self ht]
    subst hg
    refine Or.inr ⟨q, ⟨(({ U with heap := s₂.heap, slotsUsed := s₂.slotsUsed } : State).setVm s₂.vm), Ls ++ L, c0 + mc, s0 + ms⟩,
      ⟨X.admits, X.cas, X.clock, X.frames, X.room, X.hears, X.method, X.code, (X.here.setHeapUsed s₂.heap s₂.slotsUsed).setVm hW'.alike, X.tail, State.WarmedH.trans X.warmed hW', X.limits, X.bytes, X.same.trans (hsame.setVm s.vm)⟩,
      ⟨g, mk, s₂, L, E, ce, rfl, rfl, hx, hce, hcv, hcl, rfl, hL, rfl, rfl⟩, ?_⟩
    show Steps p.tables e below _ (((({ U with heap := s₂.heap, slotsUsed := s₂.slotsUsed } : State).setVm s₂.vm).setTop g).pushFrame (.throwing q))
    rw [← hs₂]
    exact hsteps
end
variable {p : Program} {l : Launch} {e : Env} {R : Room} {s : State} {m : MethodId} {args : Array Value} {below : List Frame} {meth : Method} {c : Code} {T : State} {H : Heap} {locs : List Loc} {cells slots : Nat}
theorem vx_callVX (X : Stand p l e R s m args below meth c T locs cells slots) (hexec : p.tables.exec = Jvm.exec) {own C : String} {index : Nat} {y : MethodName} {bytes : ByteArray} {maxL : Nat} {ret : Option FieldType} {hh : List (Nat × Nat × Nat × Nat)}
    (hown : s.vm.findClass own = some m.cls) (hlink : (Cond.methodLink own index y).before args s = true) (hinst : (Cond.instanceMethod y).before args s = true) (hsel : (Cond.selects C y y).before args s = true)
    (hcode : (Cond.codeWith y bytes maxL ret hh).before args s = true) (hy : y.cls ≠ "java/lang/invoke/MethodHandle" ∧ y.cls ≠ "java/lang/invoke/VarHandle")
    {W9 : Nat} {Pre : Pt → Array Value → Prop} {Post : Pt → Array Value → Option Value → Pt → Prop} {PostX : Pt → Array Value → Addr → Pt → Prop} (hK : vx_Back l R p e below s args y 3 W9 Pre Post PostX)
    {b : Addr} {cellB : Cell} (hcell : T.heap[b]? = some cellB) (hobj : cellB.vm.isStatics = false) (hcls : s.vm.findClass C = some cellB.cls)
    {g : JFrame} (hg : g.method = m) (hsize : g.locals.size = c.maxLocals) {argsL rest : List Value} (hlen : ∀ sig, parseMethodDescriptor y.desc = some sig → argsL.length = sig.parameters.length)
    (hstack : g.stack = argsL.reverse ++ .ref b :: rest) (hW : 2 * g.monitorRoom + (rest.map fun v => v.category).sum ≤ W9) (hdg : decode c.code g.pc = .ok (.invokevirtual index, 3))
    (hpre : ∀ vm₁, s.WarmedH vm₁ → Pre ⟨T.setVm vm₁, locs, cells, slots⟩ (Value.ref b :: argsL).toArray) :
    (∃ (v : Option Value) (vm₁ : Vm) (B : Pt), s.WarmedH vm₁ ∧ Stand p l e R s m args below meth c B.U B.locs B.cells B.slots ∧ Post ⟨T.setVm vm₁, locs, cells, slots⟩ (Value.ref b :: argsL).toArray v B ∧
      ∀ target, Steps p.tables e below (B.U.setTop { g with pc := g.pc + 3, stack := v.toList ++ rest }) target → Steps p.tables e below (T.setTop g) target) ∨
    (∃ (q : Addr) (vm₁ : Vm) (B : Pt), s.WarmedH vm₁ ∧ Stand p l e R s m args below meth c B.U B.locs B.cells B.slots ∧ PostX ⟨T.setVm vm₁, locs, cells, slots⟩ (Value.ref b :: argsL).toArray q B ∧
      Steps p.tables e below (T.setTop g) ((B.U.setTop { g with stack := rest }).pushFrame (.throwing q))) := by
  obtain ⟨mk, methM, hnamed, hmethM, hstM, habM⟩ := Cond.instanceMethod_spec hinst
  obtain ⟨m8, methM', cM, hn8, hmethM', -, -, -, -, -, -, hsigM⟩ := Cond.codeWith_spec hcode
  cases Option.some.inj (hn8.symm.trans hnamed)
  cases hmethM.symm.trans hmethM'
  obtain ⟨c2, r2, m2, q1, q2, q3, q4, kP, hkP, hkPi⟩ := Cond.selects_spec hsel
  cases hcls.symm.trans q1
  cases (State.methodFound?_of_named hnamed hy).symm.trans q2
  cases hnamed.symm.trans q3
  have hselP : selectMethod e.platform s.vm cellB.cls mk = .method mk := by rw [Launch.admits_selectMethod X.admits]; exact q4
  obtain ⟨vm₁, X₁, hstep₁⟩ := X.invokevirtual hexec hown hlink hnamed hmethM hstM hkP hkPi hy (a := b) (cell := cellB) hcell
    (fun z h => by rw [h] at hobj; cases hobj) hselP hmethM habM hkP hkPi (g := g) hg (argsL := argsL) (rest := rest) (hlen _ hsigM) hstack hdg
  rcases hK m meth c ⟨T.setVm vm₁, locs, cells, slots⟩ { g with stack := rest } (.invokevirtual index) mk (Value.ref b :: argsL).toArray X₁ hg hsize hdg hW (X₁.named hnamed) (hpre vm₁ X₁.warmed) with ⟨v, B, X', hpost, hsteps⟩ | ⟨q, B, X', hpost, hsteps⟩
  · exact Or.inl ⟨v, vm₁, B, X₁.warmed, X', hpost, fun target h => hstep₁ _ fun acts => by rw [doInvoke_state]; exact hsteps.trans h⟩
  · exact Or.inr ⟨q, vm₁, B, X₁.warmed, X', hpost, hstep₁ _ fun acts => by rw [doInvoke_state]; exact hsteps⟩
theorem vx_callSX (X : Stand p l e R s m args below meth c T locs cells slots) (hexec : p.tables.exec = Jvm.exec) {own : String} {index : Nat} {y : MethodName} {bytes : ByteArray} {maxL : Nat} {ret : Option FieldType} {hh : List (Nat × Nat × Nat × Nat)}
    (hown : s.vm.findClass own = some m.cls) (hlink : (Cond.methodLink own index y).before args s = true) (hstat : (Cond.static y).before args s = true) (hinit : (Cond.initialized y.cls).before args s = true)
    (hcode : (Cond.codeWith y bytes maxL ret hh).before args s = true) (hy : y.cls ≠ "java/lang/invoke/MethodHandle" ∧ y.cls ≠ "java/lang/invoke/VarHandle")
    {W9 : Nat} {Pre : Pt → Array Value → Prop} {Post : Pt → Array Value → Option Value → Pt → Prop} {PostX : Pt → Array Value → Addr → Pt → Prop} (hK : vx_Back l R p e below s args y 3 W9 Pre Post PostX)
    {g : JFrame} (hg : g.method = m) (hsize : g.locals.size = c.maxLocals) {argsL rest : List Value} (hlen : ∀ sig, parseMethodDescriptor y.desc = some sig → argsL.length = sig.parameters.length)
    (hstack : g.stack = argsL.reverse ++ rest) (hW : 2 * g.monitorRoom + (rest.map fun v => v.category).sum ≤ W9) (hdg : decode c.code g.pc = .ok (.invokestatic index, 3))
    (hpre : ∀ vm₁, s.WarmedH vm₁ → Pre ⟨T.setVm vm₁, locs, cells, slots⟩ argsL.toArray) :
    (∃ (v : Option Value) (vm₁ : Vm) (B : Pt), s.WarmedH vm₁ ∧ Stand p l e R s m args below meth c B.U B.locs B.cells B.slots ∧ Post ⟨T.setVm vm₁, locs, cells, slots⟩ argsL.toArray v B ∧
      ∀ target, Steps p.tables e below (B.U.setTop { g with pc := g.pc + 3, stack := v.toList ++ rest }) target → Steps p.tables e below (T.setTop g) target) ∨
    (∃ (q : Addr) (vm₁ : Vm) (B : Pt), s.WarmedH vm₁ ∧ Stand p l e R s m args below meth c B.U B.locs B.cells B.slots ∧ PostX ⟨T.setVm vm₁, locs, cells, slots⟩ argsL.toArray q B ∧
      Steps p.tables e below (T.setTop g) ((B.U.setTop { g with stack := rest }).pushFrame (.throwing q))) := by
  obtain ⟨mk, methM, cM, hnamed, hmethM, -, -, -, -, -, -, hsigM⟩ := Cond.codeWith_spec hcode
  have hstatic : methM.isStatic = true := Cond.static_spec hnamed hmethM hstat
  obtain ⟨kP, hkP, -⟩ := className_of_methodNamed hnamed
  have hinitP : kP.init = .initialized := Cond.initialized_spec (findClass_of_methodNamed hnamed) hkP hinit
  obtain ⟨vm₁, X₁, hstep₁⟩ := X.invokestatic hexec hown hlink hnamed hmethM hstatic hkP hinitP hy (g := g) hg (argsL := argsL) (rest := rest) (hlen _ hsigM) hstack hdg
  rcases hK m meth c ⟨T.setVm vm₁, locs, cells, slots⟩ { g with stack := rest } (.invokestatic index) mk argsL.toArray X₁ hg hsize hdg hW (X₁.named hnamed) (hpre vm₁ X₁.warmed) with ⟨v, B, X', hpost, hsteps⟩ | ⟨q, B, X', hpost, hsteps⟩
  · exact Or.inl ⟨v, vm₁, B, X₁.warmed, X', hpost, fun target h => hstep₁ _ fun acts => by rw [doInvoke_state]; exact hsteps.trans h⟩
  · exact Or.inr ⟨q, vm₁, B, X₁.warmed, X', hpost, hstep₁ _ fun acts => by rw [doInvoke_state]; exact hsteps⟩
theorem vx_callVW (X : Stand p l e R s m args below meth c T locs cells slots) (hexec : p.tables.exec = Jvm.exec) {own C : String} {index : Nat} {y : MethodName} {bytes : ByteArray} {maxL : Nat} {ret : Option FieldType} {hh : List (Nat × Nat × Nat × Nat)}
    (hown : s.vm.findClass own = some m.cls) (hlink : (Cond.methodLink own index y).before args s = true) (hinst : (Cond.instanceMethod y).before args s = true) (hsel : (Cond.selects C y y).before args s = true)
    (hcode : (Cond.codeWith y bytes maxL ret hh).before args s = true) (hy : y.cls ≠ "java/lang/invoke/MethodHandle" ∧ y.cls ≠ "java/lang/invoke/VarHandle")
    {W9 : Nat} {Pre : Pt → Array Value → Prop} {Post : Pt → Array Value → Option Value → Pt → Prop} (hK : Back l R p e below s args y 3 W9 Pre Post)
    {b : Addr} {cellB : Cell} (hcell : T.heap[b]? = some cellB) (hobj : cellB.vm.isStatics = false) (hcls : s.vm.findClass C = some cellB.cls)
    {g : JFrame} (hg : g.method = m) (hsize : g.locals.size = c.maxLocals) {argsL rest : List Value} (hlen : ∀ sig, parseMethodDescriptor y.desc = some sig → argsL.length = sig.parameters.length)
    (hstack : g.stack = argsL.reverse ++ .ref b :: rest) (hW : 2 * g.monitorRoom + (rest.map fun v => v.category).sum ≤ W9) (hdg : decode c.code g.pc = .ok (.invokevirtual index, 3))
    (hpre : ∀ vm₁, s.WarmedH vm₁ → Pre ⟨T.setVm vm₁, locs, cells, slots⟩ (Value.ref b :: argsL).toArray) :
    ∃ (v : Option Value) (vm₁ : Vm) (B : Pt), s.WarmedH vm₁ ∧ Stand p l e R s m args below meth c B.U B.locs B.cells B.slots ∧ Post ⟨T.setVm vm₁, locs, cells, slots⟩ (Value.ref b :: argsL).toArray v B ∧
      ∀ target, Steps p.tables e below (B.U.setTop { g with pc := g.pc + 3, stack := v.toList ++ rest }) target → Steps p.tables e below (T.setTop g) target := by
  obtain ⟨mk, methM, hnamed, hmethM, hstM, habM⟩ := Cond.instanceMethod_spec hinst
  obtain ⟨m8, methM', cM, hn8, hmethM', -, -, -, -, -, -, hsigM⟩ := Cond.codeWith_spec hcode
  cases Option.some.inj (hn8.symm.trans hnamed)
  cases hmethM.symm.trans hmethM'
  obtain ⟨c2, r2, m2, q1, q2, q3, q4, kP, hkP, hkPi⟩ := Cond.selects_spec hsel
  cases hcls.symm.trans q1
  cases (State.methodFound?_of_named hnamed hy).symm.trans q2
  cases hnamed.symm.trans q3
  have hselP : selectMethod e.platform s.vm cellB.cls mk = .method mk := by rw [Launch.admits_selectMethod X.admits]; exact q4
  obtain ⟨vm₁, X₁, hstep₁⟩ := X.invokevirtual hexec hown hlink hnamed hmethM hstM hkP hkPi hy (a := b) (cell := cellB) hcell
    (fun z h => by rw [h] at hobj; cases hobj) hselP hmethM habM hkP hkPi (g := g) hg (argsL := argsL) (rest := rest) (hlen _ hsigM) hstack hdg
  obtain ⟨v, B, X', hpost, hsteps⟩ := hK m meth c ⟨T.setVm vm₁, locs, cells, slots⟩ { g with stack := rest } (.invokevirtual index) mk (Value.ref b :: argsL).toArray X₁ hg hsize hdg hW (X₁.named hnamed) (hpre vm₁ X₁.warmed)
  exact ⟨v, vm₁, B, X₁.warmed, X', hpost, fun target h => hstep₁ _ fun acts => by rw [doInvoke_state]; exact hsteps.trans h⟩
abbrev vx_CVW (R : Room) (s : State) (args : Array Value) (own C : String) (index : Nat) (y : MethodName) (bytes : ByteArray) (maxL : Nat) (ret : Option FieldType) (hh : List (Nat × Nat × Nat × Nat)) (ws : List Cond) (rm : Room) (mc ms n : Nat) : Prop :=
  (rm.cells = mc ∧ rm.slots = ms ∧ rm.frames + 1 ≤ R.frames ∧ 8 + (maxL + 11) + rm.locals ≤ R.locals ∧ (∀ w ∈ ws, ∀ (a' : Array Value) (U : State), s.WarmedH U.vm → w.before a' U = true) ∧ Cond.codeWith y bytes maxL ret hh ∈ ws) ∧
  (Cond.codeWith y bytes maxL ret hh).before args s = true ∧ (Cond.initialized y.cls).before args s = true ∧ (y.cls ≠ "java/lang/invoke/MethodHandle" ∧ y.cls ≠ "java/lang/invoke/VarHandle") ∧
  (∀ sig, parseMethodDescriptor y.desc = some sig → n = sig.parameters.length) ∧ (Cond.methodLink own index y).before args s = true ∧ (Cond.instanceMethod y).before args s = true ∧ (Cond.selects C y y).before args s = true
theorem vx_cwVW {own C : String} {index maxL mc ms : Nat} {y : MethodName} {bytes : ByteArray} {ret : Option FieldType} {hh : List (Nat × Nat × Nat × Nat)} {Ts ws ws' : List Cond} {rm : Room} (n : Nat) (ht : ∀ w ∈ Ts, w.before args s = true) (hT : GoodIn Ts (wsV own index C y ws)) (hw : ws = Cond.codeWith y bytes maxL ret hh :: ws') (hrc : rm.cells = mc) (hrs : rm.slots = ms)
    (hd : y.cls = C ∧ y.cls ≠ "java/lang/invoke/MethodHandle" ∧ y.cls ≠ "java/lang/invoke/VarHandle" ∧ (parseMethodDescriptor y.desc).map (fun d => d.parameters.length) = some n) (hR : rm.frames + 1 ≤ R.frames ∧ 8 + (maxL + 11) + rm.locals ≤ R.locals) :
    vx_CVW R s args own C index y bytes maxL ret hh ws rm mc ms n := by
  obtain ⟨hC, hd⟩ := hd
  subst hC
  have ok : ∀ w ∈ wsV own index y.cls y ws, w.before args s = true := fun w h => ht w (hT w h).1
  have hG : GoodIn Ts ws := fun w h => hT w (by unfold wsV; exact List.mem_append_right _ h)
  have hc : Cond.codeWith y bytes maxL ret hh ∈ ws := by rw [hw]; exact List.mem_cons_self
  refine ⟨⟨hrc, hrs, hR.1, hR.2, pay_in ht hG, hc⟩, ht _ (hG _ hc).1, ok _ (by simp [wsV]), ⟨hd.1, hd.2.1⟩, fun sig h => ?_, ok _ (by simp [wsV]), ok _ (by simp [wsV]), ok _ (by simp [wsV])⟩
  have h2 := hd.2.2
  rw [h] at h2
  exact (Option.some.inj h2).symm
theorem vx_runVW {y : MethodName} {bytes cc : ByteArray} {maxL nL mc ms n index : Nat} {ret : Option FieldType} {hh : List (Nat × Nat × Nat × Nat)} {ws : List Cond} {rm : Room} {Pc : Array Value → State → Prop} {Qc : Array Value → State → Outcome → State → Prop} {free : Addr → Prop} {Ts : List Cond} {own C : String} {b : Addr} {As rest : List Value} {g : JFrame}
    (S : CallFix p m c cc nL s args Ts own) (hM : Met l y ws rm Pc Qc mc ms free) (cw : vx_CVW R s args own C index y bytes maxL ret hh ws rm mc ms n) (hp : PreV s H C b Pc As)
    (hg : g.method = m) (hn : As.length = n) (hsize : g.locals.size = nL) (hstack : g.stack = As.reverse ++ .ref b :: rest) (hW : 2 * g.monitorRoom + (rest.map fun v => v.category).sum ≤ 8) (hdg : decode cc g.pc = .ok (.invokevirtual index, 3)) (hf : cells + mc ≤ R.cells ∧ slots + ms ≤ R.slots) :
    va_Run p l e R s m args below meth c H locs cells slots mc ms g rest (Qc (Value.ref b :: As).toArray) free := by
  obtain ⟨⟨hrc, hrs, hfr, hlo, hws, hcw⟩, hcode, hini, hy, hlen, hl, hin, hse⟩ := cw
  have hK : Back l R p e below s args y 3 8 (PreOf R mc ms Pc) (PostOf Qc mc ms free) := va_backW (hh := hh) (bytes := bytes) (maxL := maxL) (ret := ret) hM hp.1 hrc hrs hfr hlo hws hcw (fun a' U hW => word_at hW (Or.inl (by first | rfl | simp [Cond.onTables, Cond.keeps, Cond.steady])) hini)
  obtain ⟨hx, hb, hml, ho, -⟩ := S
  obtain ⟨-, ⟨cellB, hcB, hoB, hclB⟩, hPc⟩ := hp
  intro T hT X
  obtain ⟨v, vm₁, ⟨U', l2, c2, s2⟩, hW₁, X', ⟨g', mk, t, L, e1, e2, hq, h1, hL, h2, h3⟩, st⟩ := vx_callVW X hx (C := C) (hh := hh) (bytes := bytes) (maxL := maxL) (ret := ret) ho hl hin hse hcode hy hK (by rw [hT]; exact hcB) hoB hclB hg (hsize.trans hml.symm) (argsL := As) (rest := rest) (fun sig h => hn.trans (hlen sig h)) hstack hW (by rw [hb]; exact hdg)
    (fun vm₁ hW₁ => ⟨hf.1, hf.2, hPc (T.setVm vm₁) hT hW₁⟩)
  dsimp only [Pt.U, Pt.locs, Pt.cells, Pt.slots] at X' e1 e2 h1 h2 h3 st
  subst h1; subst h2; subst h3
  exact ⟨v, (T.setVm vm₁).calling g' mk (Value.ref b :: As).toArray, t, U', L, hT, X', hL, e1, e2, hq, st⟩
section
variable {y : MethodName} {bytes cc : ByteArray} {maxL nL mc ms n index : Nat} {ret : Option FieldType} {ws : List Cond} {rm : Room} {Pc : Array Value → State → Prop} {Qc : Array Value → State → Outcome → State → Prop} {XC : String → State → State → Prop} {free : Addr → Prop} {Ts : List Cond} {own C : String} {b : Addr} {As rest : List Value} {g : JFrame}
theorem vx_runVX {hh : List (Nat × Nat × Nat × Nat)} (S : CallFix p m c cc nL s args Ts own) (hM : vx_Met l y ws rm Pc Qc XC mc ms free) (cw : vx_CVW R s args own C index y bytes maxL ret hh ws rm mc ms n) (hp : PreV s H C b Pc As)
    (hg : g.method = m) (hn : As.length = n) (hsize : g.locals.size = nL) (hstack : g.stack = As.reverse ++ .ref b :: rest) (hW : 2 * g.monitorRoom + (rest.map fun v => v.category).sum ≤ 8) (hdg : decode cc g.pc = .ok (.invokevirtual index, 3)) (hf : cells + mc ≤ R.cells ∧ slots + ms ≤ R.slots) :
    vx_Run p l e R s m args below meth c H locs cells slots mc ms g rest (Qc (Value.ref b :: As).toArray) XC free := by
  obtain ⟨⟨hrc, hrs, hfr, hlo, hws, hcw⟩, hcode, hini, hy, hlen, hl, hin, hse⟩ := cw
  have hK : vx_Back l R p e below s args y 3 8 (PreOf R mc ms Pc) (PostOf Qc mc ms free) (vx_Post XC mc ms free) := vx_backW (hh := hh) (bytes := bytes) (maxL := maxL) (ret := ret) hM hp.1 hrc hrs hfr hlo hws hcw (fun a' U hW => word_at hW (Or.inl (by first | rfl | simp [Cond.onTables, Cond.keeps, Cond.steady])) hini)
  obtain ⟨hx, hb, hml, ho, -⟩ := S
  obtain ⟨-, ⟨cellB, hcB, hoB, hclB⟩, hPc⟩ := hp
  intro T hT X
  rcases vx_callVX X hx (C := C) (hh := hh) (bytes := bytes) (maxL := maxL) (ret := ret) ho hl hin hse hcode hy hK (by rw [hT]; exact hcB) hoB hclB hg (hsize.trans hml.symm) (argsL := As) (rest := rest) (fun sig h => hn.trans (hlen sig h)) hstack hW (by rw [hb]; exact hdg)
    (fun vm₁ hW₁ => ⟨hf.1, hf.2, hPc (T.setVm vm₁) hT hW₁⟩) with ⟨v, vm₁, ⟨U', l2, c2, s2⟩, hW₁, X', ⟨g', mk, t, L, e1, e2, hq, h1, hL, h2, h3⟩, st⟩ | ⟨q, vm₁, ⟨U', l2, c2, s2⟩, hW₁, X', ⟨g', mk, t, L, E, ce, e1, e2, hq, hce, hcv, hcl, h1, hL, h2, h3⟩, st⟩
  · dsimp only [Pt.U, Pt.locs, Pt.cells, Pt.slots] at X' e1 e2 h1 h2 h3 st
    subst h1; subst h2; subst h3
    exact Or.inl ⟨v, (T.setVm vm₁).calling g' mk (Value.ref b :: As).toArray, t, U', L, hT, X', hL, e1, e2, hq, st⟩
  · dsimp only [Pt.U, Pt.locs, Pt.cells, Pt.slots] at X' e1 e2 h1 h2 h3 st hcl
    subst h1; subst h2; subst h3
    exact Or.inr ⟨q, (T.setVm vm₁).calling g' mk (Value.ref b :: As).toArray, t, U', L, E, ce, hT, X', hL, e1, e2, hq, hce, hcv, vx_cls hW₁ hcl, st⟩
theorem vx_runSX {hh : List (Nat × Nat × Nat × Nat)} (S : CallFix p m c cc nL s args Ts own) (hM : vx_Met l y ws rm Pc Qc XC mc ms free) (cw : vx_CSW R s args own index y bytes maxL ret hh ws rm mc ms n) (hp : PreS s H Pc As)
    (hg : g.method = m) (hn : As.length = n) (hsize : g.locals.size = nL) (hstack : g.stack = As.reverse ++ rest) (hW : 2 * g.monitorRoom + (rest.map fun v => v.category).sum ≤ 8) (hdg : decode cc g.pc = .ok (.invokestatic index, 3)) (hf : cells + mc ≤ R.cells ∧ slots + ms ≤ R.slots) :
    vx_Run p l e R s m args below meth c H locs cells slots mc ms g rest (Qc As.toArray) XC free := by
  obtain ⟨⟨hrc, hrs, hfr, hlo, hws, hcw⟩, hcode, hini, hy, hlen, hl, hstt⟩ := cw
  have hK : vx_Back l R p e below s args y 3 8 (PreOf R mc ms Pc) (PostOf Qc mc ms free) (vx_Post XC mc ms free) := vx_backW (hh := hh) (bytes := bytes) (maxL := maxL) (ret := ret) hM hp.1 hrc hrs hfr hlo hws hcw (fun a' U hW => word_at hW (Or.inl (by first | rfl | simp [Cond.onTables, Cond.keeps, Cond.steady])) hini)
  obtain ⟨hx, hb, hml, ho, -⟩ := S
  intro T hT X
  rcases vx_callSX X hx (hh := hh) (bytes := bytes) (maxL := maxL) (ret := ret) ho hl hstt hini hcode hy hK hg (hsize.trans hml.symm) (argsL := As) (rest := rest) (fun sig h => hn.trans (hlen sig h)) hstack hW (by rw [hb]; exact hdg)
    (fun vm₁ hW₁ => ⟨hf.1, hf.2, hp.2 (T.setVm vm₁) hT hW₁⟩) with ⟨v, vm₁, ⟨U', l2, c2, s2⟩, hW₁, X', ⟨g', mk, t, L, e1, e2, hq, h1, hL, h2, h3⟩, st⟩ | ⟨q, vm₁, ⟨U', l2, c2, s2⟩, hW₁, X', ⟨g', mk, t, L, E, ce, e1, e2, hq, hce, hcv, hcl, h1, hL, h2, h3⟩, st⟩
  · dsimp only [Pt.U, Pt.locs, Pt.cells, Pt.slots] at X' e1 e2 h1 h2 h3 st
    subst h1; subst h2; subst h3
    exact Or.inl ⟨v, (T.setVm vm₁).calling g' mk As.toArray, t, U', L, hT, X', hL, e1, e2, hq, st⟩
  · dsimp only [Pt.U, Pt.locs, Pt.cells, Pt.slots] at X' e1 e2 h1 h2 h3 st hcl
    subst h1; subst h2; subst h3
    exact Or.inr ⟨q, (T.setVm vm₁).calling g' mk As.toArray, t, U', L, E, ce, hT, X', hL, e1, e2, hq, hce, hcv, vx_cls hW₁ hcl, st⟩
end
end VXH
theorem vx_ofWH {l : Launch} {y : MethodName} {ws ws' : List Cond} {rm : Room} {Pc : Array Value → State → Prop} {Qc : Array Value → State → Outcome → State → Prop} {XC : String → State → State → Prop} {mc ms : Nat} {free : Addr → Prop} {cc : ByteArray} {maxL : Nat} {ret : Option FieldType} {hh : List (Nat × Nat × Nat × Nat)}
    (hy : plainName y.cls = true) (hw : ws = Cond.codeWith y cc maxL ret hh :: ws')
    (body : ∀ p e s m args below meth c s₁, BodyLoose p l y (headSpec ws rm) cc maxL ret e s m args below meth c s₁ → c.maxLocals = maxL → Pc args s →
      W p l e (headSpec ws rm).room s m args below meth c s.heap [] 0 0 (vx_MQ below Qc XC args s mc ms free) (entryFrame m args maxL)) : vx_Met l y ws rm Pc Qc XC mc ms free := by
  refine MetFree.of_bodyS (code := cc) (maxLocals := maxL) (ret := ret) hy ?_ ?_
  · intro args s m h hn
    obtain ⟨m9, meth, c, hn9, h1, h2, h3, h4, -, h5, h6, -⟩ := Cond.codeWith_spec (atoms_spec (ws := ws) h _ (by rw [hw]; exact List.mem_cons_self))
    cases hn.symm.trans hn9
    exact ⟨meth, c, h1, h2, h3, h4, h5, h6⟩
  · intro p e s m args below meth c s₁ B hml hP _
    have hh0 : s₁.heap = s.heap := by rw [B.state]; rfl
    obtain ⟨t, a1, o, b1, b2, b3⟩ := body p e s m args below meth c s₁ B hml hP s₁ hh0 (Stand.of_body B)
    exact ⟨t, o, a1, b1, b2, b3⟩
/-! ===== END ===== -/
end
section
def RX0 : String := "FlexCycles$DynamicFrames"
def TX0 : u_T := fun k => match k with
  | 0 => ("FlexCycles$DynamicFrames", "nodes", "[I", true)
  | 1 => ("FlexCycles$DynamicFrames", "identities", "[I", true)
  | 2 => ("FlexCycles$DynamicFrames", "lengths", "[I", true)
  | _ => ("FlexCycles$DynamicFrames", "size", "I", false)
def tyX0 : Nat → FieldType := fun k => match k with
  | 0 => .array .int
  | 1 => .array .int
  | 2 => .array .int
  | _ => .int
abbrev wsX00 : List Cond := u_ws RX0 TX0 4
theorem nmX0 : ∀ a, a < 4 → ∀ b, b < 4 → a ≠ b → (TX0 a).2.1 ≠ (TX0 b).2.1 := by decide +kernel
theorem tyX0_ok : ∀ k, k < 4 → parseFieldDescriptor (TX0 k).2.2.1 = some (tyX0 k) := by decide +kernel
abbrev cX0_init : ByteArray := prog_2_method_1_code
def yX0_init : MethodName := ⟨RX0, "<init>", "()V"⟩
abbrev cX0_isFull : ByteArray := prog_2_method_2_code
def yX0_isFull : MethodName := ⟨RX0, "isFull", "()Z"⟩
abbrev cX0_add : ByteArray := prog_2_method_3_code
def yX0_add : MethodName := ⟨RX0, "add", "(III)I"⟩
abbrev cX0_send : ByteArray := prog_2_method_4_code
def yX0_send : MethodName := ⟨RX0, "send", "(ILFlexCycles$Nodes;)I"⟩
abbrev cX0_firstOf : ByteArray := prog_2_method_5_code
def yX0_firstOf : MethodName := ⟨RX0, "firstOf", "(ILFlexCycles$Nodes;)I"⟩
abbrev cX0_remove : ByteArray := prog_2_method_6_code
def yX0_remove : MethodName := ⟨RX0, "remove", "(I)V"⟩
def RX1 : String := "FlexCycles$Flips"
def TX1 : u_T := fun k => match k with
  | 0 => ("FlexCycles$Flips", "channels", "[I", true)
  | _ => ("FlexCycles$Flips", "size", "I", false)
def tyX1 : Nat → FieldType := fun k => match k with
  | 0 => .array .int
  | _ => .int
abbrev wsX10 : List Cond := u_ws RX1 TX1 2
theorem nmX1 : ∀ a, a < 2 → ∀ b, b < 2 → a ≠ b → (TX1 a).2.1 ≠ (TX1 b).2.1 := by decide +kernel
theorem tyX1_ok : ∀ k, k < 2 → parseFieldDescriptor (TX1 k).2.2.1 = some (tyX1 k) := by decide +kernel
abbrev cX1_init : ByteArray := prog_3_method_1_code
def yX1_init : MethodName := ⟨RX1, "<init>", "(I)V"⟩
abbrev cX1_has : ByteArray := prog_3_method_2_code
def yX1_has : MethodName := ⟨RX1, "has", "(II)Z"⟩
abbrev cX1_add : ByteArray := prog_3_method_3_code
def yX1_add : MethodName := ⟨RX1, "add", "(II)I"⟩
abbrev cX1_leavesAny : ByteArray := prog_3_method_4_code
def yX1_leavesAny : MethodName := ⟨RX1, "leavesAny", "(II)Z"⟩
abbrev cX1_clear : ByteArray := prog_3_method_5_code
def yX1_clear : MethodName := ⟨RX1, "clear", "()V"⟩
def RX2 : String := "FlexCycles$Nodes"
def TX2 : u_T := fun k => match k with
  | 0 => ("FlexCycles$Nodes", "count", "I", true)
  | 1 => ("FlexCycles$Nodes", "state", "[I", true)
  | 2 => ("FlexCycles$Nodes", "error", "[I", true)
  | 3 => ("FlexCycles$Nodes", "drift", "[I", true)
  | 4 => ("FlexCycles$Nodes", "rate", "[I", true)
  | 5 => ("FlexCycles$Nodes", "cold", "[Z", true)
  | 6 => ("FlexCycles$Nodes", "listened", "[I", true)
  | 7 => ("FlexCycles$Nodes", "heard", "[Z", true)
  | 8 => ("FlexCycles$Nodes", "newMidpoint", "[I", true)
  | 9 => ("FlexCycles$Nodes", "lastMidpoint", "[I", true)
  | 10 => ("FlexCycles$Nodes", "activeBefore", "[Z", true)
  | _ => ("FlexCycles$Nodes", "deviations", "[I", true)
def tyX2 : Nat → FieldType := fun k => match k with
  | 0 => .int
  | 1 => .array .int
  | 2 => .array .int
  | 3 => .array .int
  | 4 => .array .int
  | 5 => .array .boolean
  | 6 => .array .int
  | 7 => .array .boolean
  | 8 => .array .int
  | 9 => .array .int
  | 10 => .array .boolean
  | _ => .array .int
abbrev wsX20 : List Cond := u_ws RX2 TX2 12
theorem nmX2 : ∀ a, a < 12 → ∀ b, b < 12 → a ≠ b → (TX2 a).2.1 ≠ (TX2 b).2.1 := by decide +kernel
theorem tyX2_ok : ∀ k, k < 12 → parseFieldDescriptor (TX2 k).2.2.1 = some (tyX2 k) := by decide +kernel
abbrev cX2_init : ByteArray := prog_4_method_1_code
def yX2_init : MethodName := ⟨RX2, "<init>", "(I)V"⟩
abbrev cX2_has : ByteArray := prog_4_method_2_code
def yX2_has : MethodName := ⟨RX2, "has", "(I)Z"⟩
abbrev cX2_isActive : ByteArray := prog_4_method_3_code
def yX2_isActive : MethodName := ⟨RX2, "isActive", "(I)Z"⟩
abbrev cX2_tellCold : ByteArray := prog_4_method_4_code
def yX2_tellCold : MethodName := ⟨RX2, "tellCold", "(IZ)V"⟩
abbrev cX2_countCold : ByteArray := prog_4_method_5_code
def yX2_countCold : MethodName := ⟨RX2, "countCold", "()I"⟩
abbrev cX2_areWithin : ByteArray := prog_4_method_6_code
def yX2_areWithin : MethodName := ⟨RX2, "areWithin", "(I)Z"⟩
abbrev cX2_distance : ByteArray := prog_4_method_7_code
def yX2_distance : MethodName := ⟨RX2, "distance", "(II)J"⟩
abbrev cX2_startUp : ByteArray := prog_4_method_8_code
def yX2_startUp : MethodName := ⟨RX2, "startUp", "()V"⟩
abbrev cX2_leastActive : ByteArray := prog_4_method_9_code
def yX2_leastActive : MethodName := ⟨RX2, "leastActive", "()I"⟩
abbrev cX2_integrate : ByteArray := prog_4_method_10_code
def yX2_integrate : MethodName := ⟨RX2, "integrate", "(I)V"⟩
abbrev cX2_listen : ByteArray := prog_4_method_11_code
def yX2_listen : MethodName := ⟨RX2, "listen", "(II)V"⟩
abbrev cX2_isStarter : ByteArray := prog_4_method_12_code
def yX2_isStarter : MethodName := ⟨RX2, "isStarter", "(I)Z"⟩
abbrev cX2_countStarters : ByteArray := prog_4_method_13_code
def yX2_countStarters : MethodName := ⟨RX2, "countStarters", "()I"⟩
abbrev cX2_startCold : ByteArray := prog_4_method_14_code
def yX2_startCold : MethodName := ⟨RX2, "startCold", "()V"⟩
abbrev cX2_forgetHeard : ByteArray := prog_4_method_15_code
def yX2_forgetHeard : MethodName := ⟨RX2, "forgetHeard", "()V"⟩
abbrev cX2_correct : ByteArray := prog_4_method_16_code
def yX2_correct : MethodName := ⟨RX2, "correct", "(Z)V"⟩
abbrev cX2_findMidpoint : ByteArray := prog_4_method_17_code
def yX2_findMidpoint : MethodName := ⟨RX2, "findMidpoint", "(I)I"⟩
abbrev cX2_insertDeviation : ByteArray := prog_4_method_18_code
def yX2_insertDeviation : MethodName := ⟨RX2, "insertDeviation", "(II)V"⟩
abbrev cX2_apply : ByteArray := prog_4_method_19_code
def yX2_apply : MethodName := ⟨RX2, "apply", "(IIZ)V"⟩
abbrev cX2_changeRate : ByteArray := prog_4_method_20_code
def yX2_changeRate : MethodName := ⟨RX2, "changeRate", "(II)V"⟩
abbrev cX2_passTime : ByteArray := prog_4_method_21_code
def yX2_passTime : MethodName := ⟨RX2, "passTime", "()V"⟩
def RX3 : String := "FlexCycles$StaticFrames"
def TX3 : u_T := fun k => match k with
  | 0 => ("FlexCycles$StaticFrames", "nodes", "[I", true)
  | 1 => ("FlexCycles$StaticFrames", "slots", "[I", true)
  | 2 => ("FlexCycles$StaticFrames", "channels", "[I", true)
  | 3 => ("FlexCycles$StaticFrames", "bases", "[I", true)
  | 4 => ("FlexCycles$StaticFrames", "everies", "[I", true)
  | _ => ("FlexCycles$StaticFrames", "size", "I", false)
def tyX3 : Nat → FieldType := fun k => match k with
  | 0 => .array .int
  | 1 => .array .int
  | 2 => .array .int
  | 3 => .array .int
  | 4 => .array .int
  | _ => .int
abbrev wsX30 : List Cond := u_ws RX3 TX3 6
theorem nmX3 : ∀ a, a < 6 → ∀ b, b < 6 → a ≠ b → (TX3 a).2.1 ≠ (TX3 b).2.1 := by decide +kernel
theorem tyX3_ok : ∀ k, k < 6 → parseFieldDescriptor (TX3 k).2.2.1 = some (tyX3 k) := by decide +kernel
abbrev cX3_init : ByteArray := prog_5_method_1_code
def yX3_init : MethodName := ⟨RX3, "<init>", "()V"⟩
abbrev cX3_isEvery : ByteArray := prog_5_method_2_code
def yX3_isEvery : MethodName := ⟨RX3, "isEvery", "(I)Z"⟩
abbrev cX3_isFull : ByteArray := prog_5_method_3_code
def yX3_isFull : MethodName := ⟨RX3, "isFull", "()Z"⟩
abbrev cX3_clashes : ByteArray := prog_5_method_4_code
def yX3_clashes : MethodName := ⟨RX3, "clashes", "(IIII)Z"⟩
abbrev cX3_add : ByteArray := prog_5_method_5_code
def yX3_add : MethodName := ⟨RX3, "add", "(IIIII)I"⟩
abbrev cX3_nodeAt : ByteArray := prog_5_method_6_code
def yX3_nodeAt : MethodName := ⟨RX3, "nodeAt", "(III)I"⟩
abbrev cX3_send : ByteArray := prog_5_method_7_code
def yX3_send : MethodName := ⟨RX3, "send", "(ILFlexCycles$Nodes;LFlexCycles$Flips;)I"⟩
abbrev cX3_isOn : ByteArray := prog_5_method_8_code
def yX3_isOn : MethodName := ⟨RX3, "isOn", "(III)Z"⟩
abbrev cX3_isIn : ByteArray := prog_5_method_9_code
def yX3_isIn : MethodName := ⟨RX3, "isIn", "(II)Z"⟩
abbrev cX3_remainder : ByteArray := prog_5_method_10_code
def yX3_remainder : MethodName := ⟨RX3, "remainder", "(II)I"⟩
def RX4 : String := "FlexCycles"
def TX4 : u_T := fun k => match k with
  | 0 => ("FlexCycles", "slots", "I", true)
  | 1 => ("FlexCycles", "minis", "I", true)
  | 2 => ("FlexCycles", "members", "LFlexCycles$Nodes;", true)
  | 3 => ("FlexCycles", "statics", "LFlexCycles$StaticFrames;", true)
  | 4 => ("FlexCycles", "dynamics", "LFlexCycles$DynamicFrames;", true)
  | 5 => ("FlexCycles", "flips", "LFlexCycles$Flips;", true)
  | _ => ("FlexCycles", "count", "I", false)
def tyX4 : Nat → FieldType := fun k => match k with
  | 0 => .int
  | 1 => .int
  | 2 => .object "FlexCycles$Nodes"
  | 3 => .object "FlexCycles$StaticFrames"
  | 4 => .object "FlexCycles$DynamicFrames"
  | 5 => .object "FlexCycles$Flips"
  | _ => .int
abbrev wsX40 : List Cond := u_ws RX4 TX4 7
theorem nmX4 : ∀ a, a < 7 → ∀ b, b < 7 → a ≠ b → (TX4 a).2.1 ≠ (TX4 b).2.1 := by decide +kernel
theorem tyX4_ok : ∀ k, k < 7 → parseFieldDescriptor (TX4 k).2.2.1 = some (tyX4 k) := by decide +kernel
abbrev cX4_init : ByteArray := prog_1_method_1_code
def yX4_init : MethodName := ⟨RX4, "<init>", "(III)V"⟩
abbrev cX4_frame : ByteArray := prog_1_method_2_code
def yX4_frame : MethodName := ⟨RX4, "frame", "(IIIII)I"⟩
abbrev cX4_dynamic : ByteArray := prog_1_method_3_code
def yX4_dynamic : MethodName := ⟨RX4, "dynamic", "(III)I"⟩
abbrev cX4_drift : ByteArray := prog_1_method_4_code
def yX4_drift : MethodName := ⟨RX4, "drift", "(II)I"⟩
abbrev cX4_run : ByteArray := prog_1_method_5_code
def yX4_run : MethodName := ⟨RX4, "run", "(I)I"⟩
abbrev cX4_state : ByteArray := prog_1_method_6_code
def yX4_state : MethodName := ⟨RX4, "state", "(I)I"⟩
abbrev cX4_offset : ByteArray := prog_1_method_7_code
def yX4_offset : MethodName := ⟨RX4, "offset", "(I)I"⟩
abbrev cX4_rate : ByteArray := prog_1_method_8_code
def yX4_rate : MethodName := ⟨RX4, "rate", "(I)I"⟩
abbrev cX4_place : ByteArray := prog_1_method_9_code
def yX4_place : MethodName := ⟨RX4, "place", "(II)I"⟩
abbrev cX4_cold : ByteArray := prog_1_method_10_code
def yX4_cold : MethodName := ⟨RX4, "cold", "(IZ)I"⟩
abbrev cX4_flip : ByteArray := prog_1_method_11_code
def yX4_flip : MethodName := ⟨RX4, "flip", "(II)I"⟩
abbrev cX4_close : ByteArray := prog_1_method_12_code
def yX4_close : MethodName := ⟨RX4, "close", "(I)Z"⟩
abbrev cX4_midpoint : ByteArray := prog_1_method_13_code
def yX4_midpoint : MethodName := ⟨RX4, "midpoint", "(I)I"⟩
abbrev cX4_within : ByteArray := prog_1_method_14_code
def yX4_within : MethodName := ⟨RX4, "within", "(III)Z"⟩
abbrev cX4_hasSlot : ByteArray := prog_1_method_15_code
def yX4_hasSlot : MethodName := ⟨RX4, "hasSlot", "(I)Z"⟩
abbrev cX4_runOne : ByteArray := prog_1_method_16_code
def yX4_runOne : MethodName := ⟨RX4, "runOne", "()I"⟩
def RX5 : String := "FlexCyclesModel"
def TX5 : u_T := fun k => match k with
  | 0 => ("FlexCyclesModel", "thrown", "I", false)
  | 1 => ("FlexCyclesModel", "nodes", "I", true)
  | 2 => ("FlexCyclesModel", "slots", "I", true)
  | 3 => ("FlexCyclesModel", "minis", "I", true)
  | 4 => ("FlexCyclesModel", "state", "[I", true)
  | 5 => ("FlexCyclesModel", "isCold", "[Z", true)
  | 6 => ("FlexCyclesModel", "error", "[I", true)
  | 7 => ("FlexCyclesModel", "drift", "[I", true)
  | 8 => ("FlexCyclesModel", "rate", "[I", true)
  | 9 => ("FlexCyclesModel", "middle", "[I", true)
  | 10 => ("FlexCyclesModel", "middleCycle", "[I", true)
  | 11 => ("FlexCyclesModel", "waited", "[I", true)
  | 12 => ("FlexCyclesModel", "wasDone", "[Z", true)
  | 13 => ("FlexCyclesModel", "now", "[I", true)
  | 14 => ("FlexCyclesModel", "apart", "[I", true)
  | 15 => ("FlexCyclesModel", "frames", "I", false)
  | 16 => ("FlexCyclesModel", "frameNode", "[I", true)
  | 17 => ("FlexCyclesModel", "frameSlot", "[I", true)
  | 18 => ("FlexCyclesModel", "frameChannels", "[I", true)
  | 19 => ("FlexCyclesModel", "frameBase", "[I", true)
  | 20 => ("FlexCyclesModel", "frameEvery", "[I", true)
  | 21 => ("FlexCyclesModel", "waiting", "I", false)
  | 22 => ("FlexCyclesModel", "waitNode", "[I", true)
  | 23 => ("FlexCyclesModel", "waitNumber", "[I", true)
  | 24 => ("FlexCyclesModel", "waitLength", "[I", true)
  | 25 => ("FlexCyclesModel", "flips", "[I", true)
  | _ => ("FlexCyclesModel", "cycle", "I", false)
def tyX5 : Nat → FieldType := fun k => match k with
  | 0 => .int
  | 1 => .int
  | 2 => .int
  | 3 => .int
  | 4 => .array .int
  | 5 => .array .boolean
  | 6 => .array .int
  | 7 => .array .int
  | 8 => .array .int
  | 9 => .array .int
  | 10 => .array .int
  | 11 => .array .int
  | 12 => .array .boolean
  | 13 => .array .int
  | 14 => .array .int
  | 15 => .int
  | 16 => .array .int
  | 17 => .array .int
  | 18 => .array .int
  | 19 => .array .int
  | 20 => .array .int
  | 21 => .int
  | 22 => .array .int
  | 23 => .array .int
  | 24 => .array .int
  | 25 => .array .int
  | _ => .int
abbrev wsX50 : List Cond := u_ws RX5 TX5 27
theorem nmX5 : ∀ a, a < 27 → ∀ b, b < 27 → a ≠ b → (TX5 a).2.1 ≠ (TX5 b).2.1 := by decide +kernel
theorem tyX5_ok : ∀ k, k < 27 → parseFieldDescriptor (TX5 k).2.2.1 = some (tyX5 k) := by decide +kernel
abbrev cX5_init : ByteArray := prog_7_method_1_code
def yX5_init : MethodName := ⟨RX5, "<init>", "(III)V"⟩
abbrev cX5_thrown : ByteArray := prog_7_method_2_code
def yX5_thrown : MethodName := ⟨RX5, "thrown", "()I"⟩
abbrev cX5_isNode : ByteArray := prog_7_method_3_code
def yX5_isNode : MethodName := ⟨RX5, "isNode", "(I)Z"⟩
abbrev cX5_isSlot : ByteArray := prog_7_method_4_code
def yX5_isSlot : MethodName := ⟨RX5, "isSlot", "(I)Z"⟩
abbrev cX5_frame : ByteArray := prog_7_method_5_code
def yX5_frame : MethodName := ⟨RX5, "frame", "(IIIII)I"⟩
abbrev cX5_dynamic : ByteArray := prog_7_method_6_code
def yX5_dynamic : MethodName := ⟨RX5, "dynamic", "(III)I"⟩
abbrev cX5_drift : ByteArray := prog_7_method_7_code
def yX5_drift : MethodName := ⟨RX5, "drift", "(II)I"⟩
abbrev cX5_startUp : ByteArray := prog_7_method_8_code
def yX5_startUp : MethodName := ⟨RX5, "startUp", "()V"⟩
abbrev cX5_sendStatic : ByteArray := prog_7_method_9_code
def yX5_sendStatic : MethodName := ⟨RX5, "sendStatic", "()I"⟩
abbrev cX5_waitingOne : ByteArray := prog_7_method_10_code
def yX5_waitingOne : MethodName := ⟨RX5, "waitingOne", "(I)I"⟩
abbrev cX5_sendDynamic : ByteArray := prog_7_method_11_code
def yX5_sendDynamic : MethodName := ⟨RX5, "sendDynamic", "()I"⟩
abbrev cX5_midpointOf : ByteArray := prog_7_method_12_code
def yX5_midpointOf : MethodName := ⟨RX5, "midpointOf", "(I)I"⟩
abbrev cX5_correct : ByteArray := prog_7_method_13_code
def yX5_correct : MethodName := ⟨RX5, "correct", "()V"⟩
abbrev cX5_run : ByteArray := prog_7_method_14_code
def yX5_run : MethodName := ⟨RX5, "run", "(I)I"⟩
abbrev cX5_state : ByteArray := prog_7_method_15_code
def yX5_state : MethodName := ⟨RX5, "state", "(I)I"⟩
abbrev cX5_offset : ByteArray := prog_7_method_16_code
def yX5_offset : MethodName := ⟨RX5, "offset", "(I)I"⟩
abbrev cX5_rate : ByteArray := prog_7_method_17_code
def yX5_rate : MethodName := ⟨RX5, "rate", "(I)I"⟩
abbrev cX5_place : ByteArray := prog_7_method_18_code
def yX5_place : MethodName := ⟨RX5, "place", "(II)I"⟩
abbrev cX5_cold : ByteArray := prog_7_method_19_code
def yX5_cold : MethodName := ⟨RX5, "cold", "(IZ)I"⟩
abbrev cX5_flip : ByteArray := prog_7_method_20_code
def yX5_flip : MethodName := ⟨RX5, "flip", "(II)I"⟩
abbrev cX5_close : ByteArray := prog_7_method_21_code
def yX5_close : MethodName := ⟨RX5, "close", "(I)Z"⟩
abbrev cX5_midpoint : ByteArray := prog_7_method_22_code
def yX5_midpoint : MethodName := ⟨RX5, "midpoint", "(I)I"⟩
def RJx00060 : String := "java/lang/ArrayIndexOutOfBoundsException"
def TJx00060 : u_T := fun k => match k with
  | 0 => ("java/lang/Throwable", "backtrace", "Ljava/lang/Object;", false)
  | 1 => ("java/lang/Throwable", "detailMessage", "Ljava/lang/String;", false)
  | 2 => ("java/lang/Throwable", "cause", "Ljava/lang/Throwable;", false)
  | 3 => ("java/lang/Throwable", "stackTrace", "[Ljava/lang/StackTraceElement;", false)
  | 4 => ("java/lang/Throwable", "depth", "I", false)
  | _ => ("java/lang/Throwable", "suppressedExceptions", "Ljava/util/List;", false)
def tyJx00060 : Nat → FieldType := fun k => match k with
  | 0 => .object "java/lang/Object"
  | 1 => .object "java/lang/String"
  | 2 => .object "java/lang/Throwable"
  | 3 => .array (.object "java/lang/StackTraceElement")
  | 4 => .int
  | _ => .object "java/util/List"
abbrev wsJx000600 : List Cond := u_ws RJx00060 TJx00060 6
theorem nmJx00060 : ∀ a, a < 6 → ∀ b, b < 6 → a ≠ b → (TJx00060 a).2.1 ≠ (TJx00060 b).2.1 := by decide +kernel
theorem tyJx00060_ok : ∀ k, k < 6 → parseFieldDescriptor (TJx00060 k).2.2.1 = some (tyJx00060 k) := by decide +kernel
abbrev cJx00060_init_da8c8 : ByteArray := prog_8_method_1_code
def yJx00060_init_da8c8 : MethodName := ⟨RJx00060, "<init>", "()V"⟩
abbrev cJx00060_init_a7421 : ByteArray := prog_8_method_2_code
def yJx00060_init_a7421 : MethodName := ⟨RJx00060, "<init>", "(Ljava/lang/String;)V"⟩
def RJ6 : String := "java/lang/Integer"
def TJ6 : u_T := fun k => match k with
  | _ => ("", "", "", false)
def tyJ6 : Nat → FieldType := fun k => match k with
  | _ => .int
abbrev wsJ60 : List Cond := u_ws RJ6 TJ6 0
theorem nmJ6 : ∀ a, a < 0 → ∀ b, b < 0 → a ≠ b → (TJ6 a).2.1 ≠ (TJ6 b).2.1 := by decide +kernel
theorem tyJ6_ok : ∀ k, k < 0 → parseFieldDescriptor (TJ6 k).2.2.1 = some (tyJ6 k) := by decide +kernel
abbrev cJ6_bitCount_0f7a4 : ByteArray := prog_11_method_49_code
def yJ6_bitCount_0f7a4 : MethodName := ⟨RJ6, "bitCount", "(I)I"⟩
def RJ9 : String := "java/lang/Math"
def TJ9 : u_T := fun k => match k with
  | _ => ("", "", "", false)
def tyJ9 : Nat → FieldType := fun k => match k with
  | _ => .int
abbrev wsJ90 : List Cond := u_ws RJ9 TJ9 0
theorem nmJ9 : ∀ a, a < 0 → ∀ b, b < 0 → a ≠ b → (TJ9 a).2.1 ≠ (TJ9 b).2.1 := by decide +kernel
theorem tyJ9_ok : ∀ k, k < 0 → parseFieldDescriptor (TJ9 k).2.2.1 = some (tyJ9 k) := by decide +kernel
abbrev cJ9_abs_067f4 : ByteArray := prog_12_method_61_code
def yJ9_abs_067f4 : MethodName := ⟨RJ9, "abs", "(J)J"⟩
abbrev cJ9_max_7cf53 : ByteArray := prog_12_method_65_code
def yJ9_max_7cf53 : MethodName := ⟨RJ9, "max", "(II)I"⟩
abbrev cJ9_min_7cf53 : ByteArray := prog_12_method_69_code
def yJ9_min_7cf53 : MethodName := ⟨RJ9, "min", "(II)I"⟩
def RJ0 : String := "java/lang/String"
def TJ0 : u_T := fun k => match k with
  | 0 => ("java/lang/String", "value", "[B", true)
  | _ => ("java/lang/String", "coder", "B", true)
def tyJ0 : Nat → FieldType := fun k => match k with
  | 0 => .array .byte
  | _ => .byte
abbrev wsJ00 : List Cond := u_ws RJ0 TJ0 2
theorem nmJ0 : ∀ a, a < 2 → ∀ b, b < 2 → a ≠ b → (TJ0 a).2.1 ≠ (TJ0 b).2.1 := by decide +kernel
theorem tyJ0_ok : ∀ k, k < 2 → parseFieldDescriptor (TJ0 k).2.2.1 = some (tyJ0 k) := by decide +kernel
def RL : String := "FlexCyclesLaw"
abbrev cL_cell : ByteArray := method_2_code
def yL_cell : MethodName := ⟨RL, "cell", "([II)I"⟩
abbrev cL_place : ByteArray := method_3_code
def yL_place : MethodName := ⟨RL, "place", "(LFlexCycles;II[J)I"⟩
abbrev cL_law : ByteArray := code
def yL_law : MethodName := ⟨RL, "law", "([I)Z"⟩
abbrev vwCl : List vw_C := [(RJ0, TJ0, 2), (RJx00060, TJx00060, 6), (RX0, TX0, 4), (RX1, TX1, 2), (RX2, TX2, 12), (RX3, TX3, 6), (RX4, TX4, 7), (RX5, TX5, 27)]
end
section
theorem dX0_init_0 : decode cX0_init 0 = .ok (.aload_n 0, 1) := by decide +kernel
theorem dX0_init_1 : decode cX0_init 1 = .ok (.invokespecial 1, 3) := by decide +kernel
theorem dX0_init_4 : decode cX0_init 4 = .ok (.aload_n 0, 1) := by decide +kernel
theorem dX0_init_5 : decode cX0_init 5 = .ok (.bipush 100, 2) := by decide +kernel
theorem dX0_init_7 : decode cX0_init 7 = .ok (.newarray .int, 2) := by decide +kernel
theorem dX0_init_9 : decode cX0_init 9 = .ok (.putfield 9, 3) := by decide +kernel
theorem dX0_init_12 : decode cX0_init 12 = .ok (.aload_n 0, 1) := by decide +kernel
theorem dX0_init_13 : decode cX0_init 13 = .ok (.bipush 100, 2) := by decide +kernel
theorem dX0_init_15 : decode cX0_init 15 = .ok (.newarray .int, 2) := by decide +kernel
theorem dX0_init_17 : decode cX0_init 17 = .ok (.putfield 13, 3) := by decide +kernel
theorem dX0_init_20 : decode cX0_init 20 = .ok (.aload_n 0, 1) := by decide +kernel
theorem dX0_init_21 : decode cX0_init 21 = .ok (.bipush 100, 2) := by decide +kernel
theorem dX0_init_23 : decode cX0_init 23 = .ok (.newarray .int, 2) := by decide +kernel
theorem dX0_init_25 : decode cX0_init 25 = .ok (.putfield 16, 3) := by decide +kernel
theorem dX0_init_28 : decode cX0_init 28 = .ok (.aload_n 0, 1) := by decide +kernel
theorem dX0_init_29 : decode cX0_init 29 = .ok (.iconst 0, 1) := by decide +kernel
theorem dX0_init_30 : decode cX0_init 30 = .ok (.putfield 19, 3) := by decide +kernel
theorem dX0_init_33 : decode cX0_init 33 = .ok (.return_, 1) := by decide +kernel
theorem dX0_isFull_0 : decode cX0_isFull 0 = .ok (.aload_n 0, 1) := by decide +kernel
theorem dX0_isFull_1 : decode cX0_isFull 1 = .ok (.getfield 19, 3) := by decide +kernel
theorem dX0_isFull_4 : decode cX0_isFull 4 = .ok (.bipush 100, 2) := by decide +kernel
theorem dX0_isFull_6 : decode cX0_isFull 6 = .ok (.if_icmp .lt 7, 3) := by decide +kernel
theorem dX0_isFull_9 : decode cX0_isFull 9 = .ok (.iconst 1, 1) := by decide +kernel
theorem dX0_isFull_10 : decode cX0_isFull 10 = .ok (.goto 4, 3) := by decide +kernel
theorem dX0_isFull_13 : decode cX0_isFull 13 = .ok (.iconst 0, 1) := by decide +kernel
theorem dX0_isFull_14 : decode cX0_isFull 14 = .ok (.ireturn, 1) := by decide +kernel
theorem dX0_add_0 : decode cX0_add 0 = .ok (.aload_n 0, 1) := by decide +kernel
theorem dX0_add_1 : decode cX0_add 1 = .ok (.getfield 9, 3) := by decide +kernel
theorem dX0_add_4 : decode cX0_add 4 = .ok (.aload_n 0, 1) := by decide +kernel
theorem dX0_add_5 : decode cX0_add 5 = .ok (.getfield 19, 3) := by decide +kernel
theorem dX0_add_8 : decode cX0_add 8 = .ok (.iload_n 1, 1) := by decide +kernel
theorem dX0_add_9 : decode cX0_add 9 = .ok (.iastore, 1) := by decide +kernel
theorem dX0_add_10 : decode cX0_add 10 = .ok (.aload_n 0, 1) := by decide +kernel
theorem dX0_add_11 : decode cX0_add 11 = .ok (.getfield 13, 3) := by decide +kernel
theorem dX0_add_14 : decode cX0_add 14 = .ok (.aload_n 0, 1) := by decide +kernel
theorem dX0_add_15 : decode cX0_add 15 = .ok (.getfield 19, 3) := by decide +kernel
theorem dX0_add_18 : decode cX0_add 18 = .ok (.iload_n 2, 1) := by decide +kernel
theorem dX0_add_19 : decode cX0_add 19 = .ok (.iastore, 1) := by decide +kernel
theorem dX0_add_20 : decode cX0_add 20 = .ok (.aload_n 0, 1) := by decide +kernel
theorem dX0_add_21 : decode cX0_add 21 = .ok (.getfield 16, 3) := by decide +kernel
theorem dX0_add_24 : decode cX0_add 24 = .ok (.aload_n 0, 1) := by decide +kernel
theorem dX0_add_25 : decode cX0_add 25 = .ok (.getfield 19, 3) := by decide +kernel
theorem dX0_add_28 : decode cX0_add 28 = .ok (.iload_n 3, 1) := by decide +kernel
theorem dX0_add_29 : decode cX0_add 29 = .ok (.iastore, 1) := by decide +kernel
theorem dX0_add_30 : decode cX0_add 30 = .ok (.aload_n 0, 1) := by decide +kernel
theorem dX0_add_31 : decode cX0_add 31 = .ok (.dup, 1) := by decide +kernel
theorem dX0_add_32 : decode cX0_add 32 = .ok (.getfield 19, 3) := by decide +kernel
theorem dX0_add_35 : decode cX0_add 35 = .ok (.iconst 1, 1) := by decide +kernel
theorem dX0_add_36 : decode cX0_add 36 = .ok (.iadd, 1) := by decide +kernel
theorem dX0_add_37 : decode cX0_add 37 = .ok (.putfield 19, 3) := by decide +kernel
theorem dX0_add_40 : decode cX0_add 40 = .ok (.aload_n 0, 1) := by decide +kernel
theorem dX0_add_41 : decode cX0_add 41 = .ok (.getfield 19, 3) := by decide +kernel
theorem dX0_add_44 : decode cX0_add 44 = .ok (.ireturn, 1) := by decide +kernel
theorem dX0_send_0 : decode cX0_send 0 = .ok (.iconst 0, 1) := by decide +kernel
theorem dX0_send_1 : decode cX0_send 1 = .ok (.istore_n 3, 1) := by decide +kernel
theorem dX0_send_2 : decode cX0_send 2 = .ok (.iconst 1, 1) := by decide +kernel
theorem dX0_send_3 : decode cX0_send 3 = .ok (.istore 4, 2) := by decide +kernel
theorem dX0_send_5 : decode cX0_send 5 = .ok (.iconst 1, 1) := by decide +kernel
theorem dX0_send_6 : decode cX0_send 6 = .ok (.istore 5, 2) := by decide +kernel
theorem dX0_send_8 : decode cX0_send 8 = .ok (.iload 5, 2) := by decide +kernel
theorem dX0_send_10 : decode cX0_send 10 = .ok (.bipush 60, 2) := by decide +kernel
theorem dX0_send_12 : decode cX0_send 12 = .ok (.if_icmp .gt 73, 3) := by decide +kernel
theorem dX0_send_15 : decode cX0_send 15 = .ok (.iload 4, 2) := by decide +kernel
theorem dX0_send_17 : decode cX0_send 17 = .ok (.iload_n 1, 1) := by decide +kernel
theorem dX0_send_18 : decode cX0_send 18 = .ok (.if_icmp .gt 67, 3) := by decide +kernel
theorem dX0_send_21 : decode cX0_send 21 = .ok (.aload_n 0, 1) := by decide +kernel
theorem dX0_send_22 : decode cX0_send 22 = .ok (.iload 5, 2) := by decide +kernel
theorem dX0_send_24 : decode cX0_send 24 = .ok (.aload_n 2, 1) := by decide +kernel
theorem dX0_send_25 : decode cX0_send 25 = .ok (.invokevirtual 23, 3) := by decide +kernel
theorem dX0_send_28 : decode cX0_send 28 = .ok (.istore 6, 2) := by decide +kernel
theorem dX0_send_30 : decode cX0_send 30 = .ok (.iload 6, 2) := by decide +kernel
theorem dX0_send_32 : decode cX0_send 32 = .ok (.iconst (-1), 1) := by decide +kernel
theorem dX0_send_33 : decode cX0_send 33 = .ok (.if_icmp .eq 43, 3) := by decide +kernel
theorem dX0_send_36 : decode cX0_send 36 = .ok (.iload 4, 2) := by decide +kernel
theorem dX0_send_38 : decode cX0_send 38 = .ok (.aload_n 0, 1) := by decide +kernel
theorem dX0_send_39 : decode cX0_send 39 = .ok (.getfield 16, 3) := by decide +kernel
theorem dX0_send_42 : decode cX0_send 42 = .ok (.iload 6, 2) := by decide +kernel
theorem dX0_send_44 : decode cX0_send 44 = .ok (.iaload, 1) := by decide +kernel
theorem dX0_send_45 : decode cX0_send 45 = .ok (.iadd, 1) := by decide +kernel
theorem dX0_send_46 : decode cX0_send 46 = .ok (.iconst 1, 1) := by decide +kernel
theorem dX0_send_47 : decode cX0_send 47 = .ok (.isub, 1) := by decide +kernel
theorem dX0_send_48 : decode cX0_send 48 = .ok (.iload_n 1, 1) := by decide +kernel
theorem dX0_send_49 : decode cX0_send 49 = .ok (.if_icmp .gt 27, 3) := by decide +kernel
theorem dX0_send_52 : decode cX0_send 52 = .ok (.iload 4, 2) := by decide +kernel
theorem dX0_send_54 : decode cX0_send 54 = .ok (.aload_n 0, 1) := by decide +kernel
theorem dX0_send_55 : decode cX0_send 55 = .ok (.getfield 16, 3) := by decide +kernel
theorem dX0_send_58 : decode cX0_send 58 = .ok (.iload 6, 2) := by decide +kernel
theorem dX0_send_60 : decode cX0_send 60 = .ok (.iaload, 1) := by decide +kernel
theorem dX0_send_61 : decode cX0_send 61 = .ok (.iadd, 1) := by decide +kernel
theorem dX0_send_62 : decode cX0_send 62 = .ok (.istore 4, 2) := by decide +kernel
theorem dX0_send_64 : decode cX0_send 64 = .ok (.aload_n 0, 1) := by decide +kernel
theorem dX0_send_65 : decode cX0_send 65 = .ok (.iload 6, 2) := by decide +kernel
theorem dX0_send_67 : decode cX0_send 67 = .ok (.invokevirtual 27, 3) := by decide +kernel
theorem dX0_send_70 : decode cX0_send 70 = .ok (.iinc 3 1, 3) := by decide +kernel
theorem dX0_send_73 : decode cX0_send 73 = .ok (.goto 6, 3) := by decide +kernel
theorem dX0_send_76 : decode cX0_send 76 = .ok (.iinc 4 1, 3) := by decide +kernel
theorem dX0_send_79 : decode cX0_send 79 = .ok (.iinc 5 1, 3) := by decide +kernel
theorem dX0_send_82 : decode cX0_send 82 = .ok (.goto (-74), 3) := by decide +kernel
theorem dX0_send_85 : decode cX0_send 85 = .ok (.iload_n 3, 1) := by decide +kernel
theorem dX0_send_86 : decode cX0_send 86 = .ok (.ireturn, 1) := by decide +kernel
theorem dX0_firstOf_0 : decode cX0_firstOf 0 = .ok (.iconst 0, 1) := by decide +kernel
theorem dX0_firstOf_1 : decode cX0_firstOf 1 = .ok (.istore_n 3, 1) := by decide +kernel
theorem dX0_firstOf_2 : decode cX0_firstOf 2 = .ok (.iload_n 3, 1) := by decide +kernel
theorem dX0_firstOf_3 : decode cX0_firstOf 3 = .ok (.aload_n 0, 1) := by decide +kernel
theorem dX0_firstOf_4 : decode cX0_firstOf 4 = .ok (.getfield 19, 3) := by decide +kernel
theorem dX0_firstOf_7 : decode cX0_firstOf 7 = .ok (.if_icmp .ge 34, 3) := by decide +kernel
theorem dX0_firstOf_10 : decode cX0_firstOf 10 = .ok (.aload_n 0, 1) := by decide +kernel
theorem dX0_firstOf_11 : decode cX0_firstOf 11 = .ok (.getfield 13, 3) := by decide +kernel
theorem dX0_firstOf_14 : decode cX0_firstOf 14 = .ok (.iload_n 3, 1) := by decide +kernel
theorem dX0_firstOf_15 : decode cX0_firstOf 15 = .ok (.iaload, 1) := by decide +kernel
theorem dX0_firstOf_16 : decode cX0_firstOf 16 = .ok (.iload_n 1, 1) := by decide +kernel
theorem dX0_firstOf_17 : decode cX0_firstOf 17 = .ok (.if_icmp .ne 18, 3) := by decide +kernel
theorem dX0_firstOf_20 : decode cX0_firstOf 20 = .ok (.aload_n 2, 1) := by decide +kernel
theorem dX0_firstOf_21 : decode cX0_firstOf 21 = .ok (.aload_n 0, 1) := by decide +kernel
theorem dX0_firstOf_22 : decode cX0_firstOf 22 = .ok (.getfield 9, 3) := by decide +kernel
theorem dX0_firstOf_25 : decode cX0_firstOf 25 = .ok (.iload_n 3, 1) := by decide +kernel
theorem dX0_firstOf_26 : decode cX0_firstOf 26 = .ok (.iaload, 1) := by decide +kernel
theorem dX0_firstOf_27 : decode cX0_firstOf 27 = .ok (.invokevirtual 31, 3) := by decide +kernel
theorem dX0_firstOf_30 : decode cX0_firstOf 30 = .ok (.ifCond .eq 5, 3) := by decide +kernel
theorem dX0_firstOf_33 : decode cX0_firstOf 33 = .ok (.iload_n 3, 1) := by decide +kernel
theorem dX0_firstOf_34 : decode cX0_firstOf 34 = .ok (.ireturn, 1) := by decide +kernel
theorem dX0_firstOf_35 : decode cX0_firstOf 35 = .ok (.iinc 3 1, 3) := by decide +kernel
theorem dX0_firstOf_38 : decode cX0_firstOf 38 = .ok (.goto (-36), 3) := by decide +kernel
theorem dX0_firstOf_41 : decode cX0_firstOf 41 = .ok (.iconst (-1), 1) := by decide +kernel
theorem dX0_firstOf_42 : decode cX0_firstOf 42 = .ok (.ireturn, 1) := by decide +kernel
theorem dX0_remove_0 : decode cX0_remove 0 = .ok (.aload_n 0, 1) := by decide +kernel
theorem dX0_remove_1 : decode cX0_remove 1 = .ok (.dup, 1) := by decide +kernel
theorem dX0_remove_2 : decode cX0_remove 2 = .ok (.getfield 19, 3) := by decide +kernel
theorem dX0_remove_5 : decode cX0_remove 5 = .ok (.iconst 1, 1) := by decide +kernel
theorem dX0_remove_6 : decode cX0_remove 6 = .ok (.isub, 1) := by decide +kernel
theorem dX0_remove_7 : decode cX0_remove 7 = .ok (.putfield 19, 3) := by decide +kernel
theorem dX0_remove_10 : decode cX0_remove 10 = .ok (.iload_n 1, 1) := by decide +kernel
theorem dX0_remove_11 : decode cX0_remove 11 = .ok (.istore_n 2, 1) := by decide +kernel
theorem dX0_remove_12 : decode cX0_remove 12 = .ok (.iload_n 2, 1) := by decide +kernel
theorem dX0_remove_13 : decode cX0_remove 13 = .ok (.aload_n 0, 1) := by decide +kernel
theorem dX0_remove_14 : decode cX0_remove 14 = .ok (.getfield 19, 3) := by decide +kernel
theorem dX0_remove_17 : decode cX0_remove 17 = .ok (.if_icmp .ge 51, 3) := by decide +kernel
theorem dX0_remove_20 : decode cX0_remove 20 = .ok (.aload_n 0, 1) := by decide +kernel
theorem dX0_remove_21 : decode cX0_remove 21 = .ok (.getfield 9, 3) := by decide +kernel
theorem dX0_remove_24 : decode cX0_remove 24 = .ok (.iload_n 2, 1) := by decide +kernel
theorem dX0_remove_25 : decode cX0_remove 25 = .ok (.aload_n 0, 1) := by decide +kernel
theorem dX0_remove_26 : decode cX0_remove 26 = .ok (.getfield 9, 3) := by decide +kernel
theorem dX0_remove_29 : decode cX0_remove 29 = .ok (.iload_n 2, 1) := by decide +kernel
theorem dX0_remove_30 : decode cX0_remove 30 = .ok (.iconst 1, 1) := by decide +kernel
theorem dX0_remove_31 : decode cX0_remove 31 = .ok (.iadd, 1) := by decide +kernel
theorem dX0_remove_32 : decode cX0_remove 32 = .ok (.iaload, 1) := by decide +kernel
theorem dX0_remove_33 : decode cX0_remove 33 = .ok (.iastore, 1) := by decide +kernel
theorem dX0_remove_34 : decode cX0_remove 34 = .ok (.aload_n 0, 1) := by decide +kernel
theorem dX0_remove_35 : decode cX0_remove 35 = .ok (.getfield 13, 3) := by decide +kernel
theorem dX0_remove_38 : decode cX0_remove 38 = .ok (.iload_n 2, 1) := by decide +kernel
theorem dX0_remove_39 : decode cX0_remove 39 = .ok (.aload_n 0, 1) := by decide +kernel
theorem dX0_remove_40 : decode cX0_remove 40 = .ok (.getfield 13, 3) := by decide +kernel
theorem dX0_remove_43 : decode cX0_remove 43 = .ok (.iload_n 2, 1) := by decide +kernel
theorem dX0_remove_44 : decode cX0_remove 44 = .ok (.iconst 1, 1) := by decide +kernel
theorem dX0_remove_45 : decode cX0_remove 45 = .ok (.iadd, 1) := by decide +kernel
theorem dX0_remove_46 : decode cX0_remove 46 = .ok (.iaload, 1) := by decide +kernel
theorem dX0_remove_47 : decode cX0_remove 47 = .ok (.iastore, 1) := by decide +kernel
theorem dX0_remove_48 : decode cX0_remove 48 = .ok (.aload_n 0, 1) := by decide +kernel
theorem dX0_remove_49 : decode cX0_remove 49 = .ok (.getfield 16, 3) := by decide +kernel
theorem dX0_remove_52 : decode cX0_remove 52 = .ok (.iload_n 2, 1) := by decide +kernel
theorem dX0_remove_53 : decode cX0_remove 53 = .ok (.aload_n 0, 1) := by decide +kernel
theorem dX0_remove_54 : decode cX0_remove 54 = .ok (.getfield 16, 3) := by decide +kernel
theorem dX0_remove_57 : decode cX0_remove 57 = .ok (.iload_n 2, 1) := by decide +kernel
theorem dX0_remove_58 : decode cX0_remove 58 = .ok (.iconst 1, 1) := by decide +kernel
theorem dX0_remove_59 : decode cX0_remove 59 = .ok (.iadd, 1) := by decide +kernel
theorem dX0_remove_60 : decode cX0_remove 60 = .ok (.iaload, 1) := by decide +kernel
theorem dX0_remove_61 : decode cX0_remove 61 = .ok (.iastore, 1) := by decide +kernel
theorem dX0_remove_62 : decode cX0_remove 62 = .ok (.iinc 2 1, 3) := by decide +kernel
theorem dX0_remove_65 : decode cX0_remove 65 = .ok (.goto (-53), 3) := by decide +kernel
theorem dX0_remove_68 : decode cX0_remove 68 = .ok (.return_, 1) := by decide +kernel
theorem dX1_init_0 : decode cX1_init 0 = .ok (.aload_n 0, 1) := by decide +kernel
theorem dX1_init_1 : decode cX1_init 1 = .ok (.invokespecial 1, 3) := by decide +kernel
theorem dX1_init_4 : decode cX1_init 4 = .ok (.aload_n 0, 1) := by decide +kernel
theorem dX1_init_5 : decode cX1_init 5 = .ok (.iload_n 1, 1) := by decide +kernel
theorem dX1_init_6 : decode cX1_init 6 = .ok (.newarray .int, 2) := by decide +kernel
theorem dX1_init_8 : decode cX1_init 8 = .ok (.putfield 7, 3) := by decide +kernel
theorem dX1_init_11 : decode cX1_init 11 = .ok (.aload_n 0, 1) := by decide +kernel
theorem dX1_init_12 : decode cX1_init 12 = .ok (.iconst 0, 1) := by decide +kernel
theorem dX1_init_13 : decode cX1_init 13 = .ok (.putfield 13, 3) := by decide +kernel
theorem dX1_init_16 : decode cX1_init 16 = .ok (.return_, 1) := by decide +kernel
theorem dX1_has_0 : decode cX1_has 0 = .ok (.aload_n 0, 1) := by decide +kernel
theorem dX1_has_1 : decode cX1_has 1 = .ok (.getfield 7, 3) := by decide +kernel
theorem dX1_has_4 : decode cX1_has 4 = .ok (.iload_n 2, 1) := by decide +kernel
theorem dX1_has_5 : decode cX1_has 5 = .ok (.iaload, 1) := by decide +kernel
theorem dX1_has_6 : decode cX1_has 6 = .ok (.iload_n 1, 1) := by decide +kernel
theorem dX1_has_7 : decode cX1_has 7 = .ok (.iand, 1) := by decide +kernel
theorem dX1_has_8 : decode cX1_has 8 = .ok (.ifCond .eq 7, 3) := by decide +kernel
theorem dX1_has_11 : decode cX1_has 11 = .ok (.iconst 1, 1) := by decide +kernel
theorem dX1_has_12 : decode cX1_has 12 = .ok (.goto 4, 3) := by decide +kernel
theorem dX1_has_15 : decode cX1_has 15 = .ok (.iconst 0, 1) := by decide +kernel
theorem dX1_has_16 : decode cX1_has 16 = .ok (.ireturn, 1) := by decide +kernel
theorem dX1_add_0 : decode cX1_add 0 = .ok (.aload_n 0, 1) := by decide +kernel
theorem dX1_add_1 : decode cX1_add 1 = .ok (.getfield 7, 3) := by decide +kernel
theorem dX1_add_4 : decode cX1_add 4 = .ok (.iload_n 2, 1) := by decide +kernel
theorem dX1_add_5 : decode cX1_add 5 = .ok (.dup2, 1) := by decide +kernel
theorem dX1_add_6 : decode cX1_add 6 = .ok (.iaload, 1) := by decide +kernel
theorem dX1_add_7 : decode cX1_add 7 = .ok (.iload_n 1, 1) := by decide +kernel
theorem dX1_add_8 : decode cX1_add 8 = .ok (.ior, 1) := by decide +kernel
theorem dX1_add_9 : decode cX1_add 9 = .ok (.iastore, 1) := by decide +kernel
theorem dX1_add_10 : decode cX1_add 10 = .ok (.aload_n 0, 1) := by decide +kernel
theorem dX1_add_11 : decode cX1_add 11 = .ok (.dup, 1) := by decide +kernel
theorem dX1_add_12 : decode cX1_add 12 = .ok (.getfield 13, 3) := by decide +kernel
theorem dX1_add_15 : decode cX1_add 15 = .ok (.iconst 1, 1) := by decide +kernel
theorem dX1_add_16 : decode cX1_add 16 = .ok (.iadd, 1) := by decide +kernel
theorem dX1_add_17 : decode cX1_add 17 = .ok (.putfield 13, 3) := by decide +kernel
theorem dX1_add_20 : decode cX1_add 20 = .ok (.aload_n 0, 1) := by decide +kernel
theorem dX1_add_21 : decode cX1_add 21 = .ok (.getfield 13, 3) := by decide +kernel
theorem dX1_add_24 : decode cX1_add 24 = .ok (.ireturn, 1) := by decide +kernel
theorem dX1_leavesAny_0 : decode cX1_leavesAny 0 = .ok (.iload_n 1, 1) := by decide +kernel
theorem dX1_leavesAny_1 : decode cX1_leavesAny 1 = .ok (.aload_n 0, 1) := by decide +kernel
theorem dX1_leavesAny_2 : decode cX1_leavesAny 2 = .ok (.getfield 7, 3) := by decide +kernel
theorem dX1_leavesAny_5 : decode cX1_leavesAny 5 = .ok (.iload_n 2, 1) := by decide +kernel
theorem dX1_leavesAny_6 : decode cX1_leavesAny 6 = .ok (.iaload, 1) := by decide +kernel
theorem dX1_leavesAny_7 : decode cX1_leavesAny 7 = .ok (.iconst (-1), 1) := by decide +kernel
theorem dX1_leavesAny_8 : decode cX1_leavesAny 8 = .ok (.ixor, 1) := by decide +kernel
theorem dX1_leavesAny_9 : decode cX1_leavesAny 9 = .ok (.iand, 1) := by decide +kernel
theorem dX1_leavesAny_10 : decode cX1_leavesAny 10 = .ok (.ifCond .eq 7, 3) := by decide +kernel
theorem dX1_leavesAny_13 : decode cX1_leavesAny 13 = .ok (.iconst 1, 1) := by decide +kernel
theorem dX1_leavesAny_14 : decode cX1_leavesAny 14 = .ok (.goto 4, 3) := by decide +kernel
theorem dX1_leavesAny_17 : decode cX1_leavesAny 17 = .ok (.iconst 0, 1) := by decide +kernel
theorem dX1_leavesAny_18 : decode cX1_leavesAny 18 = .ok (.ireturn, 1) := by decide +kernel
theorem dX1_clear_0 : decode cX1_clear 0 = .ok (.iconst 0, 1) := by decide +kernel
theorem dX1_clear_1 : decode cX1_clear 1 = .ok (.istore_n 1, 1) := by decide +kernel
theorem dX1_clear_2 : decode cX1_clear 2 = .ok (.iload_n 1, 1) := by decide +kernel
theorem dX1_clear_3 : decode cX1_clear 3 = .ok (.aload_n 0, 1) := by decide +kernel
theorem dX1_clear_4 : decode cX1_clear 4 = .ok (.getfield 7, 3) := by decide +kernel
theorem dX1_clear_7 : decode cX1_clear 7 = .ok (.arraylength, 1) := by decide +kernel
theorem dX1_clear_8 : decode cX1_clear 8 = .ok (.if_icmp .ge 16, 3) := by decide +kernel
theorem dX1_clear_11 : decode cX1_clear 11 = .ok (.aload_n 0, 1) := by decide +kernel
theorem dX1_clear_12 : decode cX1_clear 12 = .ok (.getfield 7, 3) := by decide +kernel
theorem dX1_clear_15 : decode cX1_clear 15 = .ok (.iload_n 1, 1) := by decide +kernel
theorem dX1_clear_16 : decode cX1_clear 16 = .ok (.iconst 0, 1) := by decide +kernel
theorem dX1_clear_17 : decode cX1_clear 17 = .ok (.iastore, 1) := by decide +kernel
theorem dX1_clear_18 : decode cX1_clear 18 = .ok (.iinc 1 1, 3) := by decide +kernel
theorem dX1_clear_21 : decode cX1_clear 21 = .ok (.goto (-19), 3) := by decide +kernel
theorem dX1_clear_24 : decode cX1_clear 24 = .ok (.aload_n 0, 1) := by decide +kernel
theorem dX1_clear_25 : decode cX1_clear 25 = .ok (.iconst 0, 1) := by decide +kernel
theorem dX1_clear_26 : decode cX1_clear 26 = .ok (.putfield 13, 3) := by decide +kernel
theorem dX1_clear_29 : decode cX1_clear 29 = .ok (.return_, 1) := by decide +kernel
theorem dX2_init_0 : decode cX2_init 0 = .ok (.aload_n 0, 1) := by decide +kernel
theorem dX2_init_1 : decode cX2_init 1 = .ok (.invokespecial 1, 3) := by decide +kernel
theorem dX2_init_4 : decode cX2_init 4 = .ok (.aload_n 0, 1) := by decide +kernel
theorem dX2_init_5 : decode cX2_init 5 = .ok (.iload_n 1, 1) := by decide +kernel
theorem dX2_init_6 : decode cX2_init 6 = .ok (.putfield 7, 3) := by decide +kernel
theorem dX2_init_9 : decode cX2_init 9 = .ok (.aload_n 0, 1) := by decide +kernel
theorem dX2_init_10 : decode cX2_init 10 = .ok (.iload_n 1, 1) := by decide +kernel
theorem dX2_init_11 : decode cX2_init 11 = .ok (.iconst 1, 1) := by decide +kernel
theorem dX2_init_12 : decode cX2_init 12 = .ok (.iadd, 1) := by decide +kernel
theorem dX2_init_13 : decode cX2_init 13 = .ok (.newarray .int, 2) := by decide +kernel
theorem dX2_init_15 : decode cX2_init 15 = .ok (.putfield 13, 3) := by decide +kernel
theorem dX2_init_18 : decode cX2_init 18 = .ok (.aload_n 0, 1) := by decide +kernel
theorem dX2_init_19 : decode cX2_init 19 = .ok (.iload_n 1, 1) := by decide +kernel
theorem dX2_init_20 : decode cX2_init 20 = .ok (.iconst 1, 1) := by decide +kernel
theorem dX2_init_21 : decode cX2_init 21 = .ok (.iadd, 1) := by decide +kernel
theorem dX2_init_22 : decode cX2_init 22 = .ok (.newarray .int, 2) := by decide +kernel
theorem dX2_init_24 : decode cX2_init 24 = .ok (.putfield 17, 3) := by decide +kernel
theorem dX2_init_27 : decode cX2_init 27 = .ok (.aload_n 0, 1) := by decide +kernel
theorem dX2_init_28 : decode cX2_init 28 = .ok (.iload_n 1, 1) := by decide +kernel
theorem dX2_init_29 : decode cX2_init 29 = .ok (.iconst 1, 1) := by decide +kernel
theorem dX2_init_30 : decode cX2_init 30 = .ok (.iadd, 1) := by decide +kernel
theorem dX2_init_31 : decode cX2_init 31 = .ok (.newarray .int, 2) := by decide +kernel
theorem dX2_init_33 : decode cX2_init 33 = .ok (.putfield 20, 3) := by decide +kernel
theorem dX2_init_36 : decode cX2_init 36 = .ok (.aload_n 0, 1) := by decide +kernel
theorem dX2_init_37 : decode cX2_init 37 = .ok (.iload_n 1, 1) := by decide +kernel
theorem dX2_init_38 : decode cX2_init 38 = .ok (.iconst 1, 1) := by decide +kernel
theorem dX2_init_39 : decode cX2_init 39 = .ok (.iadd, 1) := by decide +kernel
theorem dX2_init_40 : decode cX2_init 40 = .ok (.newarray .int, 2) := by decide +kernel
theorem dX2_init_42 : decode cX2_init 42 = .ok (.putfield 23, 3) := by decide +kernel
theorem dX2_init_45 : decode cX2_init 45 = .ok (.aload_n 0, 1) := by decide +kernel
theorem dX2_init_46 : decode cX2_init 46 = .ok (.iload_n 1, 1) := by decide +kernel
theorem dX2_init_47 : decode cX2_init 47 = .ok (.iconst 1, 1) := by decide +kernel
theorem dX2_init_48 : decode cX2_init 48 = .ok (.iadd, 1) := by decide +kernel
theorem dX2_init_49 : decode cX2_init 49 = .ok (.newarray .boolean, 2) := by decide +kernel
theorem dX2_init_51 : decode cX2_init 51 = .ok (.putfield 26, 3) := by decide +kernel
theorem dX2_init_54 : decode cX2_init 54 = .ok (.aload_n 0, 1) := by decide +kernel
theorem dX2_init_55 : decode cX2_init 55 = .ok (.iload_n 1, 1) := by decide +kernel
theorem dX2_init_56 : decode cX2_init 56 = .ok (.iconst 1, 1) := by decide +kernel
theorem dX2_init_57 : decode cX2_init 57 = .ok (.iadd, 1) := by decide +kernel
theorem dX2_init_58 : decode cX2_init 58 = .ok (.newarray .int, 2) := by decide +kernel
theorem dX2_init_60 : decode cX2_init 60 = .ok (.putfield 30, 3) := by decide +kernel
theorem dX2_init_63 : decode cX2_init 63 = .ok (.aload_n 0, 1) := by decide +kernel
theorem dX2_init_64 : decode cX2_init 64 = .ok (.iload_n 1, 1) := by decide +kernel
theorem dX2_init_65 : decode cX2_init 65 = .ok (.iconst 1, 1) := by decide +kernel
theorem dX2_init_66 : decode cX2_init 66 = .ok (.iadd, 1) := by decide +kernel
theorem dX2_init_67 : decode cX2_init 67 = .ok (.newarray .boolean, 2) := by decide +kernel
theorem dX2_init_69 : decode cX2_init 69 = .ok (.putfield 33, 3) := by decide +kernel
theorem dX2_init_72 : decode cX2_init 72 = .ok (.aload_n 0, 1) := by decide +kernel
theorem dX2_init_73 : decode cX2_init 73 = .ok (.iload_n 1, 1) := by decide +kernel
theorem dX2_init_74 : decode cX2_init 74 = .ok (.iconst 1, 1) := by decide +kernel
theorem dX2_init_75 : decode cX2_init 75 = .ok (.iadd, 1) := by decide +kernel
theorem dX2_init_76 : decode cX2_init 76 = .ok (.newarray .int, 2) := by decide +kernel
theorem dX2_init_78 : decode cX2_init 78 = .ok (.putfield 36, 3) := by decide +kernel
theorem dX2_init_81 : decode cX2_init 81 = .ok (.aload_n 0, 1) := by decide +kernel
theorem dX2_init_82 : decode cX2_init 82 = .ok (.iload_n 1, 1) := by decide +kernel
theorem dX2_init_83 : decode cX2_init 83 = .ok (.iconst 1, 1) := by decide +kernel
theorem dX2_init_84 : decode cX2_init 84 = .ok (.iadd, 1) := by decide +kernel
theorem dX2_init_85 : decode cX2_init 85 = .ok (.newarray .int, 2) := by decide +kernel
theorem dX2_init_87 : decode cX2_init 87 = .ok (.putfield 39, 3) := by decide +kernel
theorem dX2_init_90 : decode cX2_init 90 = .ok (.aload_n 0, 1) := by decide +kernel
theorem dX2_init_91 : decode cX2_init 91 = .ok (.iload_n 1, 1) := by decide +kernel
theorem dX2_init_92 : decode cX2_init 92 = .ok (.iconst 1, 1) := by decide +kernel
theorem dX2_init_93 : decode cX2_init 93 = .ok (.iadd, 1) := by decide +kernel
theorem dX2_init_94 : decode cX2_init 94 = .ok (.newarray .boolean, 2) := by decide +kernel
theorem dX2_init_96 : decode cX2_init 96 = .ok (.putfield 42, 3) := by decide +kernel
theorem dX2_init_99 : decode cX2_init 99 = .ok (.aload_n 0, 1) := by decide +kernel
theorem dX2_init_100 : decode cX2_init 100 = .ok (.iload_n 1, 1) := by decide +kernel
theorem dX2_init_101 : decode cX2_init 101 = .ok (.newarray .int, 2) := by decide +kernel
theorem dX2_init_103 : decode cX2_init 103 = .ok (.putfield 45, 3) := by decide +kernel
theorem dX2_init_106 : decode cX2_init 106 = .ok (.return_, 1) := by decide +kernel
theorem dX2_has_0 : decode cX2_has 0 = .ok (.iload_n 1, 1) := by decide +kernel
theorem dX2_has_1 : decode cX2_has 1 = .ok (.iconst 1, 1) := by decide +kernel
theorem dX2_has_2 : decode cX2_has 2 = .ok (.if_icmp .lt 15, 3) := by decide +kernel
theorem dX2_has_5 : decode cX2_has 5 = .ok (.iload_n 1, 1) := by decide +kernel
theorem dX2_has_6 : decode cX2_has 6 = .ok (.aload_n 0, 1) := by decide +kernel
theorem dX2_has_7 : decode cX2_has 7 = .ok (.getfield 7, 3) := by decide +kernel
theorem dX2_has_10 : decode cX2_has 10 = .ok (.if_icmp .gt 7, 3) := by decide +kernel
theorem dX2_has_13 : decode cX2_has 13 = .ok (.iconst 1, 1) := by decide +kernel
theorem dX2_has_14 : decode cX2_has 14 = .ok (.goto 4, 3) := by decide +kernel
theorem dX2_has_17 : decode cX2_has 17 = .ok (.iconst 0, 1) := by decide +kernel
theorem dX2_has_18 : decode cX2_has 18 = .ok (.ireturn, 1) := by decide +kernel
theorem dX2_isActive_0 : decode cX2_isActive 0 = .ok (.aload_n 0, 1) := by decide +kernel
theorem dX2_isActive_1 : decode cX2_isActive 1 = .ok (.getfield 13, 3) := by decide +kernel
theorem dX2_isActive_4 : decode cX2_isActive 4 = .ok (.iload_n 1, 1) := by decide +kernel
theorem dX2_isActive_5 : decode cX2_isActive 5 = .ok (.iaload, 1) := by decide +kernel
theorem dX2_isActive_6 : decode cX2_isActive 6 = .ok (.iconst 2, 1) := by decide +kernel
theorem dX2_isActive_7 : decode cX2_isActive 7 = .ok (.if_icmp .ne 7, 3) := by decide +kernel
theorem dX2_isActive_10 : decode cX2_isActive 10 = .ok (.iconst 1, 1) := by decide +kernel
theorem dX2_isActive_11 : decode cX2_isActive 11 = .ok (.goto 4, 3) := by decide +kernel
theorem dX2_isActive_14 : decode cX2_isActive 14 = .ok (.iconst 0, 1) := by decide +kernel
theorem dX2_isActive_15 : decode cX2_isActive 15 = .ok (.ireturn, 1) := by decide +kernel
theorem dX2_tellCold_0 : decode cX2_tellCold 0 = .ok (.aload_n 0, 1) := by decide +kernel
theorem dX2_tellCold_1 : decode cX2_tellCold 1 = .ok (.getfield 26, 3) := by decide +kernel
theorem dX2_tellCold_4 : decode cX2_tellCold 4 = .ok (.iload_n 1, 1) := by decide +kernel
theorem dX2_tellCold_5 : decode cX2_tellCold 5 = .ok (.iload_n 2, 1) := by decide +kernel
theorem dX2_tellCold_6 : decode cX2_tellCold 6 = .ok (.bastore, 1) := by decide +kernel
theorem dX2_tellCold_7 : decode cX2_tellCold 7 = .ok (.iload_n 2, 1) := by decide +kernel
theorem dX2_tellCold_8 : decode cX2_tellCold 8 = .ok (.ifCond .eq 44, 3) := by decide +kernel
theorem dX2_tellCold_11 : decode cX2_tellCold 11 = .ok (.aload_n 0, 1) := by decide +kernel
theorem dX2_tellCold_12 : decode cX2_tellCold 12 = .ok (.getfield 13, 3) := by decide +kernel
theorem dX2_tellCold_15 : decode cX2_tellCold 15 = .ok (.iload_n 1, 1) := by decide +kernel
theorem dX2_tellCold_16 : decode cX2_tellCold 16 = .ok (.iaload, 1) := by decide +kernel
theorem dX2_tellCold_17 : decode cX2_tellCold 17 = .ok (.iconst 3, 1) := by decide +kernel
theorem dX2_tellCold_18 : decode cX2_tellCold 18 = .ok (.if_icmp .eq 13, 3) := by decide +kernel
theorem dX2_tellCold_21 : decode cX2_tellCold 21 = .ok (.aload_n 0, 1) := by decide +kernel
theorem dX2_tellCold_22 : decode cX2_tellCold 22 = .ok (.getfield 13, 3) := by decide +kernel
theorem dX2_tellCold_25 : decode cX2_tellCold 25 = .ok (.iload_n 1, 1) := by decide +kernel
theorem dX2_tellCold_26 : decode cX2_tellCold 26 = .ok (.iaload, 1) := by decide +kernel
theorem dX2_tellCold_27 : decode cX2_tellCold 27 = .ok (.iconst 4, 1) := by decide +kernel
theorem dX2_tellCold_28 : decode cX2_tellCold 28 = .ok (.if_icmp .ne 24, 3) := by decide +kernel
theorem dX2_tellCold_31 : decode cX2_tellCold 31 = .ok (.aload_n 0, 1) := by decide +kernel
theorem dX2_tellCold_32 : decode cX2_tellCold 32 = .ok (.getfield 13, 3) := by decide +kernel
theorem dX2_tellCold_35 : decode cX2_tellCold 35 = .ok (.iload_n 1, 1) := by decide +kernel
theorem dX2_tellCold_36 : decode cX2_tellCold 36 = .ok (.iconst 0, 1) := by decide +kernel
theorem dX2_tellCold_37 : decode cX2_tellCold 37 = .ok (.iastore, 1) := by decide +kernel
theorem dX2_tellCold_38 : decode cX2_tellCold 38 = .ok (.aload_n 0, 1) := by decide +kernel
theorem dX2_tellCold_39 : decode cX2_tellCold 39 = .ok (.getfield 17, 3) := by decide +kernel
theorem dX2_tellCold_42 : decode cX2_tellCold 42 = .ok (.iload_n 1, 1) := by decide +kernel
theorem dX2_tellCold_43 : decode cX2_tellCold 43 = .ok (.iconst 0, 1) := by decide +kernel
theorem dX2_tellCold_44 : decode cX2_tellCold 44 = .ok (.iastore, 1) := by decide +kernel
theorem dX2_tellCold_45 : decode cX2_tellCold 45 = .ok (.aload_n 0, 1) := by decide +kernel
theorem dX2_tellCold_46 : decode cX2_tellCold 46 = .ok (.getfield 23, 3) := by decide +kernel
theorem dX2_tellCold_49 : decode cX2_tellCold 49 = .ok (.iload_n 1, 1) := by decide +kernel
theorem dX2_tellCold_50 : decode cX2_tellCold 50 = .ok (.iconst 0, 1) := by decide +kernel
theorem dX2_tellCold_51 : decode cX2_tellCold 51 = .ok (.iastore, 1) := by decide +kernel
theorem dX2_tellCold_52 : decode cX2_tellCold 52 = .ok (.return_, 1) := by decide +kernel
theorem dX2_countCold_0 : decode cX2_countCold 0 = .ok (.iconst 0, 1) := by decide +kernel
theorem dX2_countCold_1 : decode cX2_countCold 1 = .ok (.istore_n 1, 1) := by decide +kernel
theorem dX2_countCold_2 : decode cX2_countCold 2 = .ok (.iconst 1, 1) := by decide +kernel
theorem dX2_countCold_3 : decode cX2_countCold 3 = .ok (.istore_n 2, 1) := by decide +kernel
theorem dX2_countCold_4 : decode cX2_countCold 4 = .ok (.iload_n 2, 1) := by decide +kernel
theorem dX2_countCold_5 : decode cX2_countCold 5 = .ok (.aload_n 0, 1) := by decide +kernel
theorem dX2_countCold_6 : decode cX2_countCold 6 = .ok (.getfield 7, 3) := by decide +kernel
theorem dX2_countCold_9 : decode cX2_countCold 9 = .ok (.if_icmp .gt 21, 3) := by decide +kernel
theorem dX2_countCold_12 : decode cX2_countCold 12 = .ok (.aload_n 0, 1) := by decide +kernel
theorem dX2_countCold_13 : decode cX2_countCold 13 = .ok (.getfield 26, 3) := by decide +kernel
theorem dX2_countCold_16 : decode cX2_countCold 16 = .ok (.iload_n 2, 1) := by decide +kernel
theorem dX2_countCold_17 : decode cX2_countCold 17 = .ok (.baload, 1) := by decide +kernel
theorem dX2_countCold_18 : decode cX2_countCold 18 = .ok (.ifCond .eq 6, 3) := by decide +kernel
theorem dX2_countCold_21 : decode cX2_countCold 21 = .ok (.iinc 1 1, 3) := by decide +kernel
theorem dX2_countCold_24 : decode cX2_countCold 24 = .ok (.iinc 2 1, 3) := by decide +kernel
theorem dX2_countCold_27 : decode cX2_countCold 27 = .ok (.goto (-23), 3) := by decide +kernel
theorem dX2_countCold_30 : decode cX2_countCold 30 = .ok (.iload_n 1, 1) := by decide +kernel
theorem dX2_countCold_31 : decode cX2_countCold 31 = .ok (.ireturn, 1) := by decide +kernel
theorem dX2_areWithin_0 : decode cX2_areWithin 0 = .ok (.iconst 1, 1) := by decide +kernel
theorem dX2_areWithin_1 : decode cX2_areWithin 1 = .ok (.istore_n 2, 1) := by decide +kernel
theorem dX2_areWithin_2 : decode cX2_areWithin 2 = .ok (.iload_n 2, 1) := by decide +kernel
theorem dX2_areWithin_3 : decode cX2_areWithin 3 = .ok (.aload_n 0, 1) := by decide +kernel
theorem dX2_areWithin_4 : decode cX2_areWithin 4 = .ok (.getfield 7, 3) := by decide +kernel
theorem dX2_areWithin_7 : decode cX2_areWithin 7 = .ok (.if_icmp .gt 57, 3) := by decide +kernel
theorem dX2_areWithin_10 : decode cX2_areWithin 10 = .ok (.iload_n 2, 1) := by decide +kernel
theorem dX2_areWithin_11 : decode cX2_areWithin 11 = .ok (.iconst 1, 1) := by decide +kernel
theorem dX2_areWithin_12 : decode cX2_areWithin 12 = .ok (.iadd, 1) := by decide +kernel
theorem dX2_areWithin_13 : decode cX2_areWithin 13 = .ok (.istore_n 3, 1) := by decide +kernel
theorem dX2_areWithin_14 : decode cX2_areWithin 14 = .ok (.iload_n 3, 1) := by decide +kernel
theorem dX2_areWithin_15 : decode cX2_areWithin 15 = .ok (.aload_n 0, 1) := by decide +kernel
theorem dX2_areWithin_16 : decode cX2_areWithin 16 = .ok (.getfield 7, 3) := by decide +kernel
theorem dX2_areWithin_19 : decode cX2_areWithin 19 = .ok (.if_icmp .gt 39, 3) := by decide +kernel
theorem dX2_areWithin_22 : decode cX2_areWithin 22 = .ok (.aload_n 0, 1) := by decide +kernel
theorem dX2_areWithin_23 : decode cX2_areWithin 23 = .ok (.iload_n 2, 1) := by decide +kernel
theorem dX2_areWithin_24 : decode cX2_areWithin 24 = .ok (.invokevirtual 48, 3) := by decide +kernel
theorem dX2_areWithin_27 : decode cX2_areWithin 27 = .ok (.ifCond .eq 25, 3) := by decide +kernel
theorem dX2_areWithin_30 : decode cX2_areWithin 30 = .ok (.aload_n 0, 1) := by decide +kernel
theorem dX2_areWithin_31 : decode cX2_areWithin 31 = .ok (.iload_n 3, 1) := by decide +kernel
theorem dX2_areWithin_32 : decode cX2_areWithin 32 = .ok (.invokevirtual 48, 3) := by decide +kernel
theorem dX2_areWithin_35 : decode cX2_areWithin 35 = .ok (.ifCond .eq 17, 3) := by decide +kernel
theorem dX2_areWithin_38 : decode cX2_areWithin 38 = .ok (.aload_n 0, 1) := by decide +kernel
theorem dX2_areWithin_39 : decode cX2_areWithin 39 = .ok (.iload_n 2, 1) := by decide +kernel
theorem dX2_areWithin_40 : decode cX2_areWithin 40 = .ok (.iload_n 3, 1) := by decide +kernel
theorem dX2_areWithin_41 : decode cX2_areWithin 41 = .ok (.invokevirtual 52, 3) := by decide +kernel
theorem dX2_areWithin_44 : decode cX2_areWithin 44 = .ok (.iload_n 1, 1) := by decide +kernel
theorem dX2_areWithin_45 : decode cX2_areWithin 45 = .ok (.i2l, 1) := by decide +kernel
theorem dX2_areWithin_46 : decode cX2_areWithin 46 = .ok (.lcmp, 1) := by decide +kernel
theorem dX2_areWithin_47 : decode cX2_areWithin 47 = .ok (.ifCond .le 5, 3) := by decide +kernel
theorem dX2_areWithin_50 : decode cX2_areWithin 50 = .ok (.iconst 0, 1) := by decide +kernel
theorem dX2_areWithin_51 : decode cX2_areWithin 51 = .ok (.ireturn, 1) := by decide +kernel
theorem dX2_areWithin_52 : decode cX2_areWithin 52 = .ok (.iinc 3 1, 3) := by decide +kernel
theorem dX2_areWithin_55 : decode cX2_areWithin 55 = .ok (.goto (-41), 3) := by decide +kernel
theorem dX2_areWithin_58 : decode cX2_areWithin 58 = .ok (.iinc 2 1, 3) := by decide +kernel
theorem dX2_areWithin_61 : decode cX2_areWithin 61 = .ok (.goto (-59), 3) := by decide +kernel
theorem dX2_areWithin_64 : decode cX2_areWithin 64 = .ok (.iconst 1, 1) := by decide +kernel
theorem dX2_areWithin_65 : decode cX2_areWithin 65 = .ok (.ireturn, 1) := by decide +kernel
theorem dX2_distance_0 : decode cX2_distance 0 = .ok (.aload_n 0, 1) := by decide +kernel
theorem dX2_distance_1 : decode cX2_distance 1 = .ok (.getfield 17, 3) := by decide +kernel
theorem dX2_distance_4 : decode cX2_distance 4 = .ok (.iload_n 1, 1) := by decide +kernel
theorem dX2_distance_5 : decode cX2_distance 5 = .ok (.iaload, 1) := by decide +kernel
theorem dX2_distance_6 : decode cX2_distance 6 = .ok (.i2l, 1) := by decide +kernel
theorem dX2_distance_7 : decode cX2_distance 7 = .ok (.aload_n 0, 1) := by decide +kernel
theorem dX2_distance_8 : decode cX2_distance 8 = .ok (.getfield 17, 3) := by decide +kernel
theorem dX2_distance_11 : decode cX2_distance 11 = .ok (.iload_n 2, 1) := by decide +kernel
theorem dX2_distance_12 : decode cX2_distance 12 = .ok (.iaload, 1) := by decide +kernel
theorem dX2_distance_13 : decode cX2_distance 13 = .ok (.i2l, 1) := by decide +kernel
theorem dX2_distance_14 : decode cX2_distance 14 = .ok (.lsub, 1) := by decide +kernel
theorem dX2_distance_15 : decode cX2_distance 15 = .ok (.invokestatic 56, 3) := by decide +kernel
theorem dX2_distance_18 : decode cX2_distance 18 = .ok (.lreturn, 1) := by decide +kernel
theorem dX2_startUp_0 : decode cX2_startUp 0 = .ok (.aload_n 0, 1) := by decide +kernel
theorem dX2_startUp_1 : decode cX2_startUp 1 = .ok (.invokevirtual 62, 3) := by decide +kernel
theorem dX2_startUp_4 : decode cX2_startUp 4 = .ok (.istore_n 1, 1) := by decide +kernel
theorem dX2_startUp_5 : decode cX2_startUp 5 = .ok (.iload_n 1, 1) := by decide +kernel
theorem dX2_startUp_6 : decode cX2_startUp 6 = .ok (.ifCond .eq 11, 3) := by decide +kernel
theorem dX2_startUp_9 : decode cX2_startUp 9 = .ok (.aload_n 0, 1) := by decide +kernel
theorem dX2_startUp_10 : decode cX2_startUp 10 = .ok (.iload_n 1, 1) := by decide +kernel
theorem dX2_startUp_11 : decode cX2_startUp 11 = .ok (.invokevirtual 66, 3) := by decide +kernel
theorem dX2_startUp_14 : decode cX2_startUp 14 = .ok (.goto 15, 3) := by decide +kernel
theorem dX2_startUp_17 : decode cX2_startUp 17 = .ok (.aload_n 0, 1) := by decide +kernel
theorem dX2_startUp_18 : decode cX2_startUp 18 = .ok (.invokevirtual 70, 3) := by decide +kernel
theorem dX2_startUp_21 : decode cX2_startUp 21 = .ok (.iconst 2, 1) := by decide +kernel
theorem dX2_startUp_22 : decode cX2_startUp 22 = .ok (.if_icmp .lt 7, 3) := by decide +kernel
theorem dX2_startUp_25 : decode cX2_startUp 25 = .ok (.aload_n 0, 1) := by decide +kernel
theorem dX2_startUp_26 : decode cX2_startUp 26 = .ok (.invokevirtual 73, 3) := by decide +kernel
theorem dX2_startUp_29 : decode cX2_startUp 29 = .ok (.return_, 1) := by decide +kernel
theorem dX2_leastActive_0 : decode cX2_leastActive 0 = .ok (.iconst 1, 1) := by decide +kernel
theorem dX2_leastActive_1 : decode cX2_leastActive 1 = .ok (.istore_n 1, 1) := by decide +kernel
theorem dX2_leastActive_2 : decode cX2_leastActive 2 = .ok (.iload_n 1, 1) := by decide +kernel
theorem dX2_leastActive_3 : decode cX2_leastActive 3 = .ok (.aload_n 0, 1) := by decide +kernel
theorem dX2_leastActive_4 : decode cX2_leastActive 4 = .ok (.getfield 7, 3) := by decide +kernel
theorem dX2_leastActive_7 : decode cX2_leastActive 7 = .ok (.if_icmp .gt 19, 3) := by decide +kernel
theorem dX2_leastActive_10 : decode cX2_leastActive 10 = .ok (.aload_n 0, 1) := by decide +kernel
theorem dX2_leastActive_11 : decode cX2_leastActive 11 = .ok (.iload_n 1, 1) := by decide +kernel
theorem dX2_leastActive_12 : decode cX2_leastActive 12 = .ok (.invokevirtual 48, 3) := by decide +kernel
theorem dX2_leastActive_15 : decode cX2_leastActive 15 = .ok (.ifCond .eq 5, 3) := by decide +kernel
theorem dX2_leastActive_18 : decode cX2_leastActive 18 = .ok (.iload_n 1, 1) := by decide +kernel
theorem dX2_leastActive_19 : decode cX2_leastActive 19 = .ok (.ireturn, 1) := by decide +kernel
theorem dX2_leastActive_20 : decode cX2_leastActive 20 = .ok (.iinc 1 1, 3) := by decide +kernel
theorem dX2_leastActive_23 : decode cX2_leastActive 23 = .ok (.goto (-21), 3) := by decide +kernel
theorem dX2_leastActive_26 : decode cX2_leastActive 26 = .ok (.iconst 0, 1) := by decide +kernel
theorem dX2_leastActive_27 : decode cX2_leastActive 27 = .ok (.ireturn, 1) := by decide +kernel
theorem dX2_integrate_0 : decode cX2_integrate 0 = .ok (.iconst 1, 1) := by decide +kernel
theorem dX2_integrate_1 : decode cX2_integrate 1 = .ok (.istore_n 2, 1) := by decide +kernel
theorem dX2_integrate_2 : decode cX2_integrate 2 = .ok (.iload_n 2, 1) := by decide +kernel
theorem dX2_integrate_3 : decode cX2_integrate 3 = .ok (.aload_n 0, 1) := by decide +kernel
theorem dX2_integrate_4 : decode cX2_integrate 4 = .ok (.getfield 7, 3) := by decide +kernel
theorem dX2_integrate_7 : decode cX2_integrate 7 = .ok (.if_icmp .gt 51, 3) := by decide +kernel
theorem dX2_integrate_10 : decode cX2_integrate 10 = .ok (.aload_n 0, 1) := by decide +kernel
theorem dX2_integrate_11 : decode cX2_integrate 11 = .ok (.getfield 13, 3) := by decide +kernel
theorem dX2_integrate_14 : decode cX2_integrate 14 = .ok (.iload_n 2, 1) := by decide +kernel
theorem dX2_integrate_15 : decode cX2_integrate 15 = .ok (.iaload, 1) := by decide +kernel
theorem dX2_integrate_16 : decode cX2_integrate 16 = .ok (.ifCond .ne 20, 3) := by decide +kernel
theorem dX2_integrate_19 : decode cX2_integrate 19 = .ok (.aload_n 0, 1) := by decide +kernel
theorem dX2_integrate_20 : decode cX2_integrate 20 = .ok (.getfield 13, 3) := by decide +kernel
theorem dX2_integrate_23 : decode cX2_integrate 23 = .ok (.iload_n 2, 1) := by decide +kernel
theorem dX2_integrate_24 : decode cX2_integrate 24 = .ok (.iconst 1, 1) := by decide +kernel
theorem dX2_integrate_25 : decode cX2_integrate 25 = .ok (.iastore, 1) := by decide +kernel
theorem dX2_integrate_26 : decode cX2_integrate 26 = .ok (.aload_n 0, 1) := by decide +kernel
theorem dX2_integrate_27 : decode cX2_integrate 27 = .ok (.getfield 30, 3) := by decide +kernel
theorem dX2_integrate_30 : decode cX2_integrate 30 = .ok (.iload_n 2, 1) := by decide +kernel
theorem dX2_integrate_31 : decode cX2_integrate 31 = .ok (.iconst 0, 1) := by decide +kernel
theorem dX2_integrate_32 : decode cX2_integrate 32 = .ok (.iastore, 1) := by decide +kernel
theorem dX2_integrate_33 : decode cX2_integrate 33 = .ok (.goto 19, 3) := by decide +kernel
theorem dX2_integrate_36 : decode cX2_integrate 36 = .ok (.aload_n 0, 1) := by decide +kernel
theorem dX2_integrate_37 : decode cX2_integrate 37 = .ok (.getfield 13, 3) := by decide +kernel
theorem dX2_integrate_40 : decode cX2_integrate 40 = .ok (.iload_n 2, 1) := by decide +kernel
theorem dX2_integrate_41 : decode cX2_integrate 41 = .ok (.iaload, 1) := by decide +kernel
theorem dX2_integrate_42 : decode cX2_integrate 42 = .ok (.iconst 1, 1) := by decide +kernel
theorem dX2_integrate_43 : decode cX2_integrate 43 = .ok (.if_icmp .ne 9, 3) := by decide +kernel
theorem dX2_integrate_46 : decode cX2_integrate 46 = .ok (.aload_n 0, 1) := by decide +kernel
theorem dX2_integrate_47 : decode cX2_integrate 47 = .ok (.iload_n 2, 1) := by decide +kernel
theorem dX2_integrate_48 : decode cX2_integrate 48 = .ok (.iload_n 1, 1) := by decide +kernel
theorem dX2_integrate_49 : decode cX2_integrate 49 = .ok (.invokevirtual 76, 3) := by decide +kernel
theorem dX2_integrate_52 : decode cX2_integrate 52 = .ok (.iinc 2 1, 3) := by decide +kernel
theorem dX2_integrate_55 : decode cX2_integrate 55 = .ok (.goto (-53), 3) := by decide +kernel
theorem dX2_integrate_58 : decode cX2_integrate 58 = .ok (.return_, 1) := by decide +kernel
theorem dX2_listen_0 : decode cX2_listen 0 = .ok (.aload_n 0, 1) := by decide +kernel
theorem dX2_listen_1 : decode cX2_listen 1 = .ok (.getfield 30, 3) := by decide +kernel
theorem dX2_listen_4 : decode cX2_listen 4 = .ok (.iload_n 1, 1) := by decide +kernel
theorem dX2_listen_5 : decode cX2_listen 5 = .ok (.dup2, 1) := by decide +kernel
theorem dX2_listen_6 : decode cX2_listen 6 = .ok (.iaload, 1) := by decide +kernel
theorem dX2_listen_7 : decode cX2_listen 7 = .ok (.iconst 1, 1) := by decide +kernel
theorem dX2_listen_8 : decode cX2_listen 8 = .ok (.iadd, 1) := by decide +kernel
theorem dX2_listen_9 : decode cX2_listen 9 = .ok (.iastore, 1) := by decide +kernel
theorem dX2_listen_10 : decode cX2_listen 10 = .ok (.aload_n 0, 1) := by decide +kernel
theorem dX2_listen_11 : decode cX2_listen 11 = .ok (.getfield 30, 3) := by decide +kernel
theorem dX2_listen_14 : decode cX2_listen 14 = .ok (.iload_n 1, 1) := by decide +kernel
theorem dX2_listen_15 : decode cX2_listen 15 = .ok (.iaload, 1) := by decide +kernel
theorem dX2_listen_16 : decode cX2_listen 16 = .ok (.iconst 2, 1) := by decide +kernel
theorem dX2_listen_17 : decode cX2_listen 17 = .ok (.if_icmp .lt 22, 3) := by decide +kernel
theorem dX2_listen_20 : decode cX2_listen 20 = .ok (.aload_n 0, 1) := by decide +kernel
theorem dX2_listen_21 : decode cX2_listen 21 = .ok (.getfield 13, 3) := by decide +kernel
theorem dX2_listen_24 : decode cX2_listen 24 = .ok (.iload_n 1, 1) := by decide +kernel
theorem dX2_listen_25 : decode cX2_listen 25 = .ok (.iconst 2, 1) := by decide +kernel
theorem dX2_listen_26 : decode cX2_listen 26 = .ok (.iastore, 1) := by decide +kernel
theorem dX2_listen_27 : decode cX2_listen 27 = .ok (.aload_n 0, 1) := by decide +kernel
theorem dX2_listen_28 : decode cX2_listen 28 = .ok (.getfield 17, 3) := by decide +kernel
theorem dX2_listen_31 : decode cX2_listen 31 = .ok (.iload_n 1, 1) := by decide +kernel
theorem dX2_listen_32 : decode cX2_listen 32 = .ok (.aload_n 0, 1) := by decide +kernel
theorem dX2_listen_33 : decode cX2_listen 33 = .ok (.getfield 17, 3) := by decide +kernel
theorem dX2_listen_36 : decode cX2_listen 36 = .ok (.iload_n 2, 1) := by decide +kernel
theorem dX2_listen_37 : decode cX2_listen 37 = .ok (.iaload, 1) := by decide +kernel
theorem dX2_listen_38 : decode cX2_listen 38 = .ok (.iastore, 1) := by decide +kernel
theorem dX2_listen_39 : decode cX2_listen 39 = .ok (.return_, 1) := by decide +kernel
theorem dX2_isStarter_0 : decode cX2_isStarter 0 = .ok (.aload_n 0, 1) := by decide +kernel
theorem dX2_isStarter_1 : decode cX2_isStarter 1 = .ok (.getfield 26, 3) := by decide +kernel
theorem dX2_isStarter_4 : decode cX2_isStarter 4 = .ok (.iload_n 1, 1) := by decide +kernel
theorem dX2_isStarter_5 : decode cX2_isStarter 5 = .ok (.baload, 1) := by decide +kernel
theorem dX2_isStarter_6 : decode cX2_isStarter 6 = .ok (.ifCond .eq 26, 3) := by decide +kernel
theorem dX2_isStarter_9 : decode cX2_isStarter 9 = .ok (.aload_n 0, 1) := by decide +kernel
theorem dX2_isStarter_10 : decode cX2_isStarter 10 = .ok (.getfield 13, 3) := by decide +kernel
theorem dX2_isStarter_13 : decode cX2_isStarter 13 = .ok (.iload_n 1, 1) := by decide +kernel
theorem dX2_isStarter_14 : decode cX2_isStarter 14 = .ok (.iaload, 1) := by decide +kernel
theorem dX2_isStarter_15 : decode cX2_isStarter 15 = .ok (.ifCond .eq 13, 3) := by decide +kernel
theorem dX2_isStarter_18 : decode cX2_isStarter 18 = .ok (.aload_n 0, 1) := by decide +kernel
theorem dX2_isStarter_19 : decode cX2_isStarter 19 = .ok (.getfield 13, 3) := by decide +kernel
theorem dX2_isStarter_22 : decode cX2_isStarter 22 = .ok (.iload_n 1, 1) := by decide +kernel
theorem dX2_isStarter_23 : decode cX2_isStarter 23 = .ok (.iaload, 1) := by decide +kernel
theorem dX2_isStarter_24 : decode cX2_isStarter 24 = .ok (.iconst 1, 1) := by decide +kernel
theorem dX2_isStarter_25 : decode cX2_isStarter 25 = .ok (.if_icmp .ne 7, 3) := by decide +kernel
theorem dX2_isStarter_28 : decode cX2_isStarter 28 = .ok (.iconst 1, 1) := by decide +kernel
theorem dX2_isStarter_29 : decode cX2_isStarter 29 = .ok (.goto 4, 3) := by decide +kernel
theorem dX2_isStarter_32 : decode cX2_isStarter 32 = .ok (.iconst 0, 1) := by decide +kernel
theorem dX2_isStarter_33 : decode cX2_isStarter 33 = .ok (.ireturn, 1) := by decide +kernel
theorem dX2_countStarters_0 : decode cX2_countStarters 0 = .ok (.iconst 0, 1) := by decide +kernel
theorem dX2_countStarters_1 : decode cX2_countStarters 1 = .ok (.istore_n 1, 1) := by decide +kernel
theorem dX2_countStarters_2 : decode cX2_countStarters 2 = .ok (.iconst 1, 1) := by decide +kernel
theorem dX2_countStarters_3 : decode cX2_countStarters 3 = .ok (.istore_n 2, 1) := by decide +kernel
theorem dX2_countStarters_4 : decode cX2_countStarters 4 = .ok (.iload_n 2, 1) := by decide +kernel
theorem dX2_countStarters_5 : decode cX2_countStarters 5 = .ok (.aload_n 0, 1) := by decide +kernel
theorem dX2_countStarters_6 : decode cX2_countStarters 6 = .ok (.getfield 7, 3) := by decide +kernel
theorem dX2_countStarters_9 : decode cX2_countStarters 9 = .ok (.if_icmp .gt 20, 3) := by decide +kernel
theorem dX2_countStarters_12 : decode cX2_countStarters 12 = .ok (.aload_n 0, 1) := by decide +kernel
theorem dX2_countStarters_13 : decode cX2_countStarters 13 = .ok (.iload_n 2, 1) := by decide +kernel
theorem dX2_countStarters_14 : decode cX2_countStarters 14 = .ok (.invokevirtual 80, 3) := by decide +kernel
theorem dX2_countStarters_17 : decode cX2_countStarters 17 = .ok (.ifCond .eq 6, 3) := by decide +kernel
theorem dX2_countStarters_20 : decode cX2_countStarters 20 = .ok (.iinc 1 1, 3) := by decide +kernel
theorem dX2_countStarters_23 : decode cX2_countStarters 23 = .ok (.iinc 2 1, 3) := by decide +kernel
theorem dX2_countStarters_26 : decode cX2_countStarters 26 = .ok (.goto (-22), 3) := by decide +kernel
theorem dX2_countStarters_29 : decode cX2_countStarters 29 = .ok (.iload_n 1, 1) := by decide +kernel
theorem dX2_countStarters_30 : decode cX2_countStarters 30 = .ok (.ireturn, 1) := by decide +kernel
theorem dX2_startCold_0 : decode cX2_startCold 0 = .ok (.iconst 1, 1) := by decide +kernel
theorem dX2_startCold_1 : decode cX2_startCold 1 = .ok (.istore_n 1, 1) := by decide +kernel
theorem dX2_startCold_2 : decode cX2_startCold 2 = .ok (.iload_n 1, 1) := by decide +kernel
theorem dX2_startCold_3 : decode cX2_startCold 3 = .ok (.aload_n 0, 1) := by decide +kernel
theorem dX2_startCold_4 : decode cX2_startCold 4 = .ok (.getfield 7, 3) := by decide +kernel
theorem dX2_startCold_7 : decode cX2_startCold 7 = .ok (.if_icmp .gt 24, 3) := by decide +kernel
theorem dX2_startCold_10 : decode cX2_startCold 10 = .ok (.aload_n 0, 1) := by decide +kernel
theorem dX2_startCold_11 : decode cX2_startCold 11 = .ok (.iload_n 1, 1) := by decide +kernel
theorem dX2_startCold_12 : decode cX2_startCold 12 = .ok (.invokevirtual 80, 3) := by decide +kernel
theorem dX2_startCold_15 : decode cX2_startCold 15 = .ok (.ifCond .eq 10, 3) := by decide +kernel
theorem dX2_startCold_18 : decode cX2_startCold 18 = .ok (.aload_n 0, 1) := by decide +kernel
theorem dX2_startCold_19 : decode cX2_startCold 19 = .ok (.getfield 13, 3) := by decide +kernel
theorem dX2_startCold_22 : decode cX2_startCold 22 = .ok (.iload_n 1, 1) := by decide +kernel
theorem dX2_startCold_23 : decode cX2_startCold 23 = .ok (.iconst 2, 1) := by decide +kernel
theorem dX2_startCold_24 : decode cX2_startCold 24 = .ok (.iastore, 1) := by decide +kernel
theorem dX2_startCold_25 : decode cX2_startCold 25 = .ok (.iinc 1 1, 3) := by decide +kernel
theorem dX2_startCold_28 : decode cX2_startCold 28 = .ok (.goto (-26), 3) := by decide +kernel
theorem dX2_startCold_31 : decode cX2_startCold 31 = .ok (.return_, 1) := by decide +kernel
theorem dX2_forgetHeard_0 : decode cX2_forgetHeard 0 = .ok (.iconst 1, 1) := by decide +kernel
theorem dX2_forgetHeard_1 : decode cX2_forgetHeard 1 = .ok (.istore_n 1, 1) := by decide +kernel
theorem dX2_forgetHeard_2 : decode cX2_forgetHeard 2 = .ok (.iload_n 1, 1) := by decide +kernel
theorem dX2_forgetHeard_3 : decode cX2_forgetHeard 3 = .ok (.aload_n 0, 1) := by decide +kernel
theorem dX2_forgetHeard_4 : decode cX2_forgetHeard 4 = .ok (.getfield 7, 3) := by decide +kernel
theorem dX2_forgetHeard_7 : decode cX2_forgetHeard 7 = .ok (.if_icmp .gt 16, 3) := by decide +kernel
theorem dX2_forgetHeard_10 : decode cX2_forgetHeard 10 = .ok (.aload_n 0, 1) := by decide +kernel
theorem dX2_forgetHeard_11 : decode cX2_forgetHeard 11 = .ok (.getfield 33, 3) := by decide +kernel
theorem dX2_forgetHeard_14 : decode cX2_forgetHeard 14 = .ok (.iload_n 1, 1) := by decide +kernel
theorem dX2_forgetHeard_15 : decode cX2_forgetHeard 15 = .ok (.iconst 0, 1) := by decide +kernel
theorem dX2_forgetHeard_16 : decode cX2_forgetHeard 16 = .ok (.bastore, 1) := by decide +kernel
theorem dX2_forgetHeard_17 : decode cX2_forgetHeard 17 = .ok (.iinc 1 1, 3) := by decide +kernel
theorem dX2_forgetHeard_20 : decode cX2_forgetHeard 20 = .ok (.goto (-18), 3) := by decide +kernel
theorem dX2_forgetHeard_23 : decode cX2_forgetHeard 23 = .ok (.return_, 1) := by decide +kernel
theorem dX2_correct_0 : decode cX2_correct 0 = .ok (.iconst 1, 1) := by decide +kernel
theorem dX2_correct_1 : decode cX2_correct 1 = .ok (.istore_n 2, 1) := by decide +kernel
theorem dX2_correct_2 : decode cX2_correct 2 = .ok (.iload_n 2, 1) := by decide +kernel
theorem dX2_correct_3 : decode cX2_correct 3 = .ok (.aload_n 0, 1) := by decide +kernel
theorem dX2_correct_4 : decode cX2_correct 4 = .ok (.getfield 7, 3) := by decide +kernel
theorem dX2_correct_7 : decode cX2_correct 7 = .ok (.if_icmp .gt 28, 3) := by decide +kernel
theorem dX2_correct_10 : decode cX2_correct 10 = .ok (.aload_n 0, 1) := by decide +kernel
theorem dX2_correct_11 : decode cX2_correct 11 = .ok (.iload_n 2, 1) := by decide +kernel
theorem dX2_correct_12 : decode cX2_correct 12 = .ok (.invokevirtual 48, 3) := by decide +kernel
theorem dX2_correct_15 : decode cX2_correct 15 = .ok (.ifCond .eq 14, 3) := by decide +kernel
theorem dX2_correct_18 : decode cX2_correct 18 = .ok (.aload_n 0, 1) := by decide +kernel
theorem dX2_correct_19 : decode cX2_correct 19 = .ok (.getfield 36, 3) := by decide +kernel
theorem dX2_correct_22 : decode cX2_correct 22 = .ok (.iload_n 2, 1) := by decide +kernel
theorem dX2_correct_23 : decode cX2_correct 23 = .ok (.aload_n 0, 1) := by decide +kernel
theorem dX2_correct_24 : decode cX2_correct 24 = .ok (.iload_n 2, 1) := by decide +kernel
theorem dX2_correct_25 : decode cX2_correct 25 = .ok (.invokevirtual 83, 3) := by decide +kernel
theorem dX2_correct_28 : decode cX2_correct 28 = .ok (.iastore, 1) := by decide +kernel
theorem dX2_correct_29 : decode cX2_correct 29 = .ok (.iinc 2 1, 3) := by decide +kernel
theorem dX2_correct_32 : decode cX2_correct 32 = .ok (.goto (-30), 3) := by decide +kernel
theorem dX2_correct_35 : decode cX2_correct 35 = .ok (.iconst 1, 1) := by decide +kernel
theorem dX2_correct_36 : decode cX2_correct 36 = .ok (.istore_n 2, 1) := by decide +kernel
theorem dX2_correct_37 : decode cX2_correct 37 = .ok (.iload_n 2, 1) := by decide +kernel
theorem dX2_correct_38 : decode cX2_correct 38 = .ok (.aload_n 0, 1) := by decide +kernel
theorem dX2_correct_39 : decode cX2_correct 39 = .ok (.getfield 7, 3) := by decide +kernel
theorem dX2_correct_42 : decode cX2_correct 42 = .ok (.if_icmp .gt 39, 3) := by decide +kernel
theorem dX2_correct_45 : decode cX2_correct 45 = .ok (.aload_n 0, 1) := by decide +kernel
theorem dX2_correct_46 : decode cX2_correct 46 = .ok (.iload_n 2, 1) := by decide +kernel
theorem dX2_correct_47 : decode cX2_correct 47 = .ok (.invokevirtual 48, 3) := by decide +kernel
theorem dX2_correct_50 : decode cX2_correct 50 = .ok (.ifCond .eq 18, 3) := by decide +kernel
theorem dX2_correct_53 : decode cX2_correct 53 = .ok (.aload_n 0, 1) := by decide +kernel
theorem dX2_correct_54 : decode cX2_correct 54 = .ok (.iload_n 2, 1) := by decide +kernel
theorem dX2_correct_55 : decode cX2_correct 55 = .ok (.aload_n 0, 1) := by decide +kernel
theorem dX2_correct_56 : decode cX2_correct 56 = .ok (.getfield 36, 3) := by decide +kernel
theorem dX2_correct_59 : decode cX2_correct 59 = .ok (.iload_n 2, 1) := by decide +kernel
theorem dX2_correct_60 : decode cX2_correct 60 = .ok (.iaload, 1) := by decide +kernel
theorem dX2_correct_61 : decode cX2_correct 61 = .ok (.iload_n 1, 1) := by decide +kernel
theorem dX2_correct_62 : decode cX2_correct 62 = .ok (.invokevirtual 87, 3) := by decide +kernel
theorem dX2_correct_65 : decode cX2_correct 65 = .ok (.goto 10, 3) := by decide +kernel
theorem dX2_correct_68 : decode cX2_correct 68 = .ok (.aload_n 0, 1) := by decide +kernel
theorem dX2_correct_69 : decode cX2_correct 69 = .ok (.getfield 42, 3) := by decide +kernel
theorem dX2_correct_72 : decode cX2_correct 72 = .ok (.iload_n 2, 1) := by decide +kernel
theorem dX2_correct_73 : decode cX2_correct 73 = .ok (.iconst 0, 1) := by decide +kernel
theorem dX2_correct_74 : decode cX2_correct 74 = .ok (.bastore, 1) := by decide +kernel
theorem dX2_correct_75 : decode cX2_correct 75 = .ok (.iinc 2 1, 3) := by decide +kernel
theorem dX2_correct_78 : decode cX2_correct 78 = .ok (.goto (-41), 3) := by decide +kernel
theorem dX2_correct_81 : decode cX2_correct 81 = .ok (.return_, 1) := by decide +kernel
theorem dX2_findMidpoint_0 : decode cX2_findMidpoint 0 = .ok (.aload_n 0, 1) := by decide +kernel
theorem dX2_findMidpoint_1 : decode cX2_findMidpoint 1 = .ok (.getfield 45, 3) := by decide +kernel
theorem dX2_findMidpoint_4 : decode cX2_findMidpoint 4 = .ok (.iconst 0, 1) := by decide +kernel
theorem dX2_findMidpoint_5 : decode cX2_findMidpoint 5 = .ok (.iconst 0, 1) := by decide +kernel
theorem dX2_findMidpoint_6 : decode cX2_findMidpoint 6 = .ok (.iastore, 1) := by decide +kernel
theorem dX2_findMidpoint_7 : decode cX2_findMidpoint 7 = .ok (.iconst 1, 1) := by decide +kernel
theorem dX2_findMidpoint_8 : decode cX2_findMidpoint 8 = .ok (.istore_n 2, 1) := by decide +kernel
theorem dX2_findMidpoint_9 : decode cX2_findMidpoint 9 = .ok (.iconst 1, 1) := by decide +kernel
theorem dX2_findMidpoint_10 : decode cX2_findMidpoint 10 = .ok (.istore_n 3, 1) := by decide +kernel
theorem dX2_findMidpoint_11 : decode cX2_findMidpoint 11 = .ok (.iload_n 3, 1) := by decide +kernel
theorem dX2_findMidpoint_12 : decode cX2_findMidpoint 12 = .ok (.aload_n 0, 1) := by decide +kernel
theorem dX2_findMidpoint_13 : decode cX2_findMidpoint 13 = .ok (.getfield 7, 3) := by decide +kernel
theorem dX2_findMidpoint_16 : decode cX2_findMidpoint 16 = .ok (.if_icmp .gt 52, 3) := by decide +kernel
theorem dX2_findMidpoint_19 : decode cX2_findMidpoint 19 = .ok (.iload_n 3, 1) := by decide +kernel
theorem dX2_findMidpoint_20 : decode cX2_findMidpoint 20 = .ok (.iload_n 1, 1) := by decide +kernel
theorem dX2_findMidpoint_21 : decode cX2_findMidpoint 21 = .ok (.if_icmp .eq 41, 3) := by decide +kernel
theorem dX2_findMidpoint_24 : decode cX2_findMidpoint 24 = .ok (.aload_n 0, 1) := by decide +kernel
theorem dX2_findMidpoint_25 : decode cX2_findMidpoint 25 = .ok (.iload_n 3, 1) := by decide +kernel
theorem dX2_findMidpoint_26 : decode cX2_findMidpoint 26 = .ok (.invokevirtual 48, 3) := by decide +kernel
theorem dX2_findMidpoint_29 : decode cX2_findMidpoint 29 = .ok (.ifCond .eq 33, 3) := by decide +kernel
theorem dX2_findMidpoint_32 : decode cX2_findMidpoint 32 = .ok (.aload_n 0, 1) := by decide +kernel
theorem dX2_findMidpoint_33 : decode cX2_findMidpoint 33 = .ok (.getfield 33, 3) := by decide +kernel
theorem dX2_findMidpoint_36 : decode cX2_findMidpoint 36 = .ok (.iload_n 3, 1) := by decide +kernel
theorem dX2_findMidpoint_37 : decode cX2_findMidpoint 37 = .ok (.baload, 1) := by decide +kernel
theorem dX2_findMidpoint_38 : decode cX2_findMidpoint 38 = .ok (.ifCond .eq 24, 3) := by decide +kernel
theorem dX2_findMidpoint_41 : decode cX2_findMidpoint 41 = .ok (.aload_n 0, 1) := by decide +kernel
theorem dX2_findMidpoint_42 : decode cX2_findMidpoint 42 = .ok (.iload_n 2, 1) := by decide +kernel
theorem dX2_findMidpoint_43 : decode cX2_findMidpoint 43 = .ok (.aload_n 0, 1) := by decide +kernel
theorem dX2_findMidpoint_44 : decode cX2_findMidpoint 44 = .ok (.getfield 17, 3) := by decide +kernel
theorem dX2_findMidpoint_47 : decode cX2_findMidpoint 47 = .ok (.iload_n 3, 1) := by decide +kernel
theorem dX2_findMidpoint_48 : decode cX2_findMidpoint 48 = .ok (.iaload, 1) := by decide +kernel
theorem dX2_findMidpoint_49 : decode cX2_findMidpoint 49 = .ok (.aload_n 0, 1) := by decide +kernel
theorem dX2_findMidpoint_50 : decode cX2_findMidpoint 50 = .ok (.getfield 17, 3) := by decide +kernel
theorem dX2_findMidpoint_53 : decode cX2_findMidpoint 53 = .ok (.iload_n 1, 1) := by decide +kernel
theorem dX2_findMidpoint_54 : decode cX2_findMidpoint 54 = .ok (.iaload, 1) := by decide +kernel
theorem dX2_findMidpoint_55 : decode cX2_findMidpoint 55 = .ok (.isub, 1) := by decide +kernel
theorem dX2_findMidpoint_56 : decode cX2_findMidpoint 56 = .ok (.invokevirtual 91, 3) := by decide +kernel
theorem dX2_findMidpoint_59 : decode cX2_findMidpoint 59 = .ok (.iinc 2 1, 3) := by decide +kernel
theorem dX2_findMidpoint_62 : decode cX2_findMidpoint 62 = .ok (.iinc 3 1, 3) := by decide +kernel
theorem dX2_findMidpoint_65 : decode cX2_findMidpoint 65 = .ok (.goto (-54), 3) := by decide +kernel
theorem dX2_findMidpoint_68 : decode cX2_findMidpoint 68 = .ok (.iload_n 2, 1) := by decide +kernel
theorem dX2_findMidpoint_69 : decode cX2_findMidpoint 69 = .ok (.iconst 3, 1) := by decide +kernel
theorem dX2_findMidpoint_70 : decode cX2_findMidpoint 70 = .ok (.if_icmp .ge 7, 3) := by decide +kernel
theorem dX2_findMidpoint_73 : decode cX2_findMidpoint 73 = .ok (.iconst 0, 1) := by decide +kernel
theorem dX2_findMidpoint_74 : decode cX2_findMidpoint 74 = .ok (.goto 14, 3) := by decide +kernel
theorem dX2_findMidpoint_77 : decode cX2_findMidpoint 77 = .ok (.iload_n 2, 1) := by decide +kernel
theorem dX2_findMidpoint_78 : decode cX2_findMidpoint 78 = .ok (.bipush 8, 2) := by decide +kernel
theorem dX2_findMidpoint_80 : decode cX2_findMidpoint 80 = .ok (.if_icmp .ge 7, 3) := by decide +kernel
theorem dX2_findMidpoint_83 : decode cX2_findMidpoint 83 = .ok (.iconst 1, 1) := by decide +kernel
theorem dX2_findMidpoint_84 : decode cX2_findMidpoint 84 = .ok (.goto 4, 3) := by decide +kernel
theorem dX2_findMidpoint_87 : decode cX2_findMidpoint 87 = .ok (.iconst 2, 1) := by decide +kernel
theorem dX2_findMidpoint_88 : decode cX2_findMidpoint 88 = .ok (.istore_n 3, 1) := by decide +kernel
theorem dX2_findMidpoint_89 : decode cX2_findMidpoint 89 = .ok (.aload_n 0, 1) := by decide +kernel
theorem dX2_findMidpoint_90 : decode cX2_findMidpoint 90 = .ok (.getfield 45, 3) := by decide +kernel
theorem dX2_findMidpoint_93 : decode cX2_findMidpoint 93 = .ok (.iload_n 3, 1) := by decide +kernel
theorem dX2_findMidpoint_94 : decode cX2_findMidpoint 94 = .ok (.iaload, 1) := by decide +kernel
theorem dX2_findMidpoint_95 : decode cX2_findMidpoint 95 = .ok (.aload_n 0, 1) := by decide +kernel
theorem dX2_findMidpoint_96 : decode cX2_findMidpoint 96 = .ok (.getfield 45, 3) := by decide +kernel
theorem dX2_findMidpoint_99 : decode cX2_findMidpoint 99 = .ok (.iload_n 2, 1) := by decide +kernel
theorem dX2_findMidpoint_100 : decode cX2_findMidpoint 100 = .ok (.iconst 1, 1) := by decide +kernel
theorem dX2_findMidpoint_101 : decode cX2_findMidpoint 101 = .ok (.isub, 1) := by decide +kernel
theorem dX2_findMidpoint_102 : decode cX2_findMidpoint 102 = .ok (.iload_n 3, 1) := by decide +kernel
theorem dX2_findMidpoint_103 : decode cX2_findMidpoint 103 = .ok (.isub, 1) := by decide +kernel
theorem dX2_findMidpoint_104 : decode cX2_findMidpoint 104 = .ok (.iaload, 1) := by decide +kernel
theorem dX2_findMidpoint_105 : decode cX2_findMidpoint 105 = .ok (.iadd, 1) := by decide +kernel
theorem dX2_findMidpoint_106 : decode cX2_findMidpoint 106 = .ok (.iconst 2, 1) := by decide +kernel
theorem dX2_findMidpoint_107 : decode cX2_findMidpoint 107 = .ok (.idiv, 1) := by decide +kernel
theorem dX2_findMidpoint_108 : decode cX2_findMidpoint 108 = .ok (.ireturn, 1) := by decide +kernel
theorem dX2_insertDeviation_0 : decode cX2_insertDeviation 0 = .ok (.iload_n 1, 1) := by decide +kernel
theorem dX2_insertDeviation_1 : decode cX2_insertDeviation 1 = .ok (.istore_n 3, 1) := by decide +kernel
theorem dX2_insertDeviation_2 : decode cX2_insertDeviation 2 = .ok (.iload_n 3, 1) := by decide +kernel
theorem dX2_insertDeviation_3 : decode cX2_insertDeviation 3 = .ok (.ifCond .le 35, 3) := by decide +kernel
theorem dX2_insertDeviation_6 : decode cX2_insertDeviation 6 = .ok (.aload_n 0, 1) := by decide +kernel
theorem dX2_insertDeviation_7 : decode cX2_insertDeviation 7 = .ok (.getfield 45, 3) := by decide +kernel
theorem dX2_insertDeviation_10 : decode cX2_insertDeviation 10 = .ok (.iload_n 3, 1) := by decide +kernel
theorem dX2_insertDeviation_11 : decode cX2_insertDeviation 11 = .ok (.iconst 1, 1) := by decide +kernel
theorem dX2_insertDeviation_12 : decode cX2_insertDeviation 12 = .ok (.isub, 1) := by decide +kernel
theorem dX2_insertDeviation_13 : decode cX2_insertDeviation 13 = .ok (.iaload, 1) := by decide +kernel
theorem dX2_insertDeviation_14 : decode cX2_insertDeviation 14 = .ok (.iload_n 2, 1) := by decide +kernel
theorem dX2_insertDeviation_15 : decode cX2_insertDeviation 15 = .ok (.if_icmp .le 23, 3) := by decide +kernel
theorem dX2_insertDeviation_18 : decode cX2_insertDeviation 18 = .ok (.aload_n 0, 1) := by decide +kernel
theorem dX2_insertDeviation_19 : decode cX2_insertDeviation 19 = .ok (.getfield 45, 3) := by decide +kernel
theorem dX2_insertDeviation_22 : decode cX2_insertDeviation 22 = .ok (.iload_n 3, 1) := by decide +kernel
theorem dX2_insertDeviation_23 : decode cX2_insertDeviation 23 = .ok (.aload_n 0, 1) := by decide +kernel
theorem dX2_insertDeviation_24 : decode cX2_insertDeviation 24 = .ok (.getfield 45, 3) := by decide +kernel
theorem dX2_insertDeviation_27 : decode cX2_insertDeviation 27 = .ok (.iload_n 3, 1) := by decide +kernel
theorem dX2_insertDeviation_28 : decode cX2_insertDeviation 28 = .ok (.iconst 1, 1) := by decide +kernel
theorem dX2_insertDeviation_29 : decode cX2_insertDeviation 29 = .ok (.isub, 1) := by decide +kernel
theorem dX2_insertDeviation_30 : decode cX2_insertDeviation 30 = .ok (.iaload, 1) := by decide +kernel
theorem dX2_insertDeviation_31 : decode cX2_insertDeviation 31 = .ok (.iastore, 1) := by decide +kernel
theorem dX2_insertDeviation_32 : decode cX2_insertDeviation 32 = .ok (.iinc 3 (-1), 3) := by decide +kernel
theorem dX2_insertDeviation_35 : decode cX2_insertDeviation 35 = .ok (.goto (-33), 3) := by decide +kernel
theorem dX2_insertDeviation_38 : decode cX2_insertDeviation 38 = .ok (.aload_n 0, 1) := by decide +kernel
theorem dX2_insertDeviation_39 : decode cX2_insertDeviation 39 = .ok (.getfield 45, 3) := by decide +kernel
theorem dX2_insertDeviation_42 : decode cX2_insertDeviation 42 = .ok (.iload_n 3, 1) := by decide +kernel
theorem dX2_insertDeviation_43 : decode cX2_insertDeviation 43 = .ok (.iload_n 2, 1) := by decide +kernel
theorem dX2_insertDeviation_44 : decode cX2_insertDeviation 44 = .ok (.iastore, 1) := by decide +kernel
theorem dX2_insertDeviation_45 : decode cX2_insertDeviation 45 = .ok (.return_, 1) := by decide +kernel
theorem dX2_apply_0 : decode cX2_apply 0 = .ok (.iload_n 2, 1) := by decide +kernel
theorem dX2_apply_1 : decode cX2_apply 1 = .ok (.aload_n 0, 1) := by decide +kernel
theorem dX2_apply_2 : decode cX2_apply 2 = .ok (.getfield 42, 3) := by decide +kernel
theorem dX2_apply_5 : decode cX2_apply 5 = .ok (.iload_n 1, 1) := by decide +kernel
theorem dX2_apply_6 : decode cX2_apply 6 = .ok (.baload, 1) := by decide +kernel
theorem dX2_apply_7 : decode cX2_apply 7 = .ok (.ifCond .eq 12, 3) := by decide +kernel
theorem dX2_apply_10 : decode cX2_apply 10 = .ok (.aload_n 0, 1) := by decide +kernel
theorem dX2_apply_11 : decode cX2_apply 11 = .ok (.getfield 39, 3) := by decide +kernel
theorem dX2_apply_14 : decode cX2_apply 14 = .ok (.iload_n 1, 1) := by decide +kernel
theorem dX2_apply_15 : decode cX2_apply 15 = .ok (.iaload, 1) := by decide +kernel
theorem dX2_apply_16 : decode cX2_apply 16 = .ok (.goto 4, 3) := by decide +kernel
theorem dX2_apply_19 : decode cX2_apply 19 = .ok (.iconst 0, 1) := by decide +kernel
theorem dX2_apply_20 : decode cX2_apply 20 = .ok (.iadd, 1) := by decide +kernel
theorem dX2_apply_21 : decode cX2_apply 21 = .ok (.istore 4, 2) := by decide +kernel
theorem dX2_apply_23 : decode cX2_apply 23 = .ok (.aload_n 0, 1) := by decide +kernel
theorem dX2_apply_24 : decode cX2_apply 24 = .ok (.getfield 39, 3) := by decide +kernel
theorem dX2_apply_27 : decode cX2_apply 27 = .ok (.iload_n 1, 1) := by decide +kernel
theorem dX2_apply_28 : decode cX2_apply 28 = .ok (.iload_n 2, 1) := by decide +kernel
theorem dX2_apply_29 : decode cX2_apply 29 = .ok (.iastore, 1) := by decide +kernel
theorem dX2_apply_30 : decode cX2_apply 30 = .ok (.aload_n 0, 1) := by decide +kernel
theorem dX2_apply_31 : decode cX2_apply 31 = .ok (.getfield 42, 3) := by decide +kernel
theorem dX2_apply_34 : decode cX2_apply 34 = .ok (.iload_n 1, 1) := by decide +kernel
theorem dX2_apply_35 : decode cX2_apply 35 = .ok (.iconst 1, 1) := by decide +kernel
theorem dX2_apply_36 : decode cX2_apply 36 = .ok (.bastore, 1) := by decide +kernel
theorem dX2_apply_37 : decode cX2_apply 37 = .ok (.iload_n 2, 1) := by decide +kernel
theorem dX2_apply_38 : decode cX2_apply 38 = .ok (.sipush 500, 3) := by decide +kernel
theorem dX2_apply_41 : decode cX2_apply 41 = .ok (.if_icmp .gt 10, 3) := by decide +kernel
theorem dX2_apply_44 : decode cX2_apply 44 = .ok (.iload_n 2, 1) := by decide +kernel
theorem dX2_apply_45 : decode cX2_apply 45 = .ok (.sipush (-500), 3) := by decide +kernel
theorem dX2_apply_48 : decode cX2_apply 48 = .ok (.if_icmp .ge 11, 3) := by decide +kernel
theorem dX2_apply_51 : decode cX2_apply 51 = .ok (.aload_n 0, 1) := by decide +kernel
theorem dX2_apply_52 : decode cX2_apply 52 = .ok (.getfield 13, 3) := by decide +kernel
theorem dX2_apply_55 : decode cX2_apply 55 = .ok (.iload_n 1, 1) := by decide +kernel
theorem dX2_apply_56 : decode cX2_apply 56 = .ok (.iconst 4, 1) := by decide +kernel
theorem dX2_apply_57 : decode cX2_apply 57 = .ok (.iastore, 1) := by decide +kernel
theorem dX2_apply_58 : decode cX2_apply 58 = .ok (.return_, 1) := by decide +kernel
theorem dX2_apply_59 : decode cX2_apply 59 = .ok (.aload_n 0, 1) := by decide +kernel
theorem dX2_apply_60 : decode cX2_apply 60 = .ok (.getfield 17, 3) := by decide +kernel
theorem dX2_apply_63 : decode cX2_apply 63 = .ok (.iload_n 1, 1) := by decide +kernel
theorem dX2_apply_64 : decode cX2_apply 64 = .ok (.dup2, 1) := by decide +kernel
theorem dX2_apply_65 : decode cX2_apply 65 = .ok (.iaload, 1) := by decide +kernel
theorem dX2_apply_66 : decode cX2_apply 66 = .ok (.iload_n 2, 1) := by decide +kernel
theorem dX2_apply_67 : decode cX2_apply 67 = .ok (.iadd, 1) := by decide +kernel
theorem dX2_apply_68 : decode cX2_apply 68 = .ok (.iastore, 1) := by decide +kernel
theorem dX2_apply_69 : decode cX2_apply 69 = .ok (.iload_n 3, 1) := by decide +kernel
theorem dX2_apply_70 : decode cX2_apply 70 = .ok (.ifCond .eq 12, 3) := by decide +kernel
theorem dX2_apply_73 : decode cX2_apply 73 = .ok (.aload_n 0, 1) := by decide +kernel
theorem dX2_apply_74 : decode cX2_apply 74 = .ok (.iload_n 1, 1) := by decide +kernel
theorem dX2_apply_75 : decode cX2_apply 75 = .ok (.iload 4, 2) := by decide +kernel
theorem dX2_apply_77 : decode cX2_apply 77 = .ok (.iconst 4, 1) := by decide +kernel
theorem dX2_apply_78 : decode cX2_apply 78 = .ok (.idiv, 1) := by decide +kernel
theorem dX2_apply_79 : decode cX2_apply 79 = .ok (.invokevirtual 94, 3) := by decide +kernel
theorem dX2_apply_82 : decode cX2_apply 82 = .ok (.return_, 1) := by decide +kernel
theorem dX2_changeRate_0 : decode cX2_changeRate 0 = .ok (.aload_n 0, 1) := by decide +kernel
theorem dX2_changeRate_1 : decode cX2_changeRate 1 = .ok (.getfield 23, 3) := by decide +kernel
theorem dX2_changeRate_4 : decode cX2_changeRate 4 = .ok (.iload_n 1, 1) := by decide +kernel
theorem dX2_changeRate_5 : decode cX2_changeRate 5 = .ok (.iaload, 1) := by decide +kernel
theorem dX2_changeRate_6 : decode cX2_changeRate 6 = .ok (.iload_n 2, 1) := by decide +kernel
theorem dX2_changeRate_7 : decode cX2_changeRate 7 = .ok (.iadd, 1) := by decide +kernel
theorem dX2_changeRate_8 : decode cX2_changeRate 8 = .ok (.istore_n 3, 1) := by decide +kernel
theorem dX2_changeRate_9 : decode cX2_changeRate 9 = .ok (.aload_n 0, 1) := by decide +kernel
theorem dX2_changeRate_10 : decode cX2_changeRate 10 = .ok (.getfield 23, 3) := by decide +kernel
theorem dX2_changeRate_13 : decode cX2_changeRate 13 = .ok (.iload_n 1, 1) := by decide +kernel
theorem dX2_changeRate_14 : decode cX2_changeRate 14 = .ok (.bipush (-100), 2) := by decide +kernel
theorem dX2_changeRate_16 : decode cX2_changeRate 16 = .ok (.bipush 100, 2) := by decide +kernel
theorem dX2_changeRate_18 : decode cX2_changeRate 18 = .ok (.iload_n 3, 1) := by decide +kernel
theorem dX2_changeRate_19 : decode cX2_changeRate 19 = .ok (.invokestatic 97, 3) := by decide +kernel
theorem dX2_changeRate_22 : decode cX2_changeRate 22 = .ok (.invokestatic 101, 3) := by decide +kernel
theorem dX2_changeRate_25 : decode cX2_changeRate 25 = .ok (.iastore, 1) := by decide +kernel
theorem dX2_changeRate_26 : decode cX2_changeRate 26 = .ok (.aload_n 0, 1) := by decide +kernel
theorem dX2_changeRate_27 : decode cX2_changeRate 27 = .ok (.getfield 23, 3) := by decide +kernel
theorem dX2_changeRate_30 : decode cX2_changeRate 30 = .ok (.iload_n 1, 1) := by decide +kernel
theorem dX2_changeRate_31 : decode cX2_changeRate 31 = .ok (.iaload, 1) := by decide +kernel
theorem dX2_changeRate_32 : decode cX2_changeRate 32 = .ok (.iload_n 3, 1) := by decide +kernel
theorem dX2_changeRate_33 : decode cX2_changeRate 33 = .ok (.if_icmp .eq 10, 3) := by decide +kernel
theorem dX2_changeRate_36 : decode cX2_changeRate 36 = .ok (.aload_n 0, 1) := by decide +kernel
theorem dX2_changeRate_37 : decode cX2_changeRate 37 = .ok (.getfield 13, 3) := by decide +kernel
theorem dX2_changeRate_40 : decode cX2_changeRate 40 = .ok (.iload_n 1, 1) := by decide +kernel
theorem dX2_changeRate_41 : decode cX2_changeRate 41 = .ok (.iconst 3, 1) := by decide +kernel
theorem dX2_changeRate_42 : decode cX2_changeRate 42 = .ok (.iastore, 1) := by decide +kernel
theorem dX2_changeRate_43 : decode cX2_changeRate 43 = .ok (.return_, 1) := by decide +kernel
theorem dX2_passTime_0 : decode cX2_passTime 0 = .ok (.iconst 1, 1) := by decide +kernel
theorem dX2_passTime_1 : decode cX2_passTime 1 = .ok (.istore_n 1, 1) := by decide +kernel
theorem dX2_passTime_2 : decode cX2_passTime 2 = .ok (.iload_n 1, 1) := by decide +kernel
theorem dX2_passTime_3 : decode cX2_passTime 3 = .ok (.aload_n 0, 1) := by decide +kernel
theorem dX2_passTime_4 : decode cX2_passTime 4 = .ok (.getfield 7, 3) := by decide +kernel
theorem dX2_passTime_7 : decode cX2_passTime 7 = .ok (.if_icmp .gt 41, 3) := by decide +kernel
theorem dX2_passTime_10 : decode cX2_passTime 10 = .ok (.aload_n 0, 1) := by decide +kernel
theorem dX2_passTime_11 : decode cX2_passTime 11 = .ok (.getfield 13, 3) := by decide +kernel
theorem dX2_passTime_14 : decode cX2_passTime 14 = .ok (.iload_n 1, 1) := by decide +kernel
theorem dX2_passTime_15 : decode cX2_passTime 15 = .ok (.iaload, 1) := by decide +kernel
theorem dX2_passTime_16 : decode cX2_passTime 16 = .ok (.iconst 4, 1) := by decide +kernel
theorem dX2_passTime_17 : decode cX2_passTime 17 = .ok (.if_icmp .eq 25, 3) := by decide +kernel
theorem dX2_passTime_20 : decode cX2_passTime 20 = .ok (.aload_n 0, 1) := by decide +kernel
theorem dX2_passTime_21 : decode cX2_passTime 21 = .ok (.getfield 17, 3) := by decide +kernel
theorem dX2_passTime_24 : decode cX2_passTime 24 = .ok (.iload_n 1, 1) := by decide +kernel
theorem dX2_passTime_25 : decode cX2_passTime 25 = .ok (.dup2, 1) := by decide +kernel
theorem dX2_passTime_26 : decode cX2_passTime 26 = .ok (.iaload, 1) := by decide +kernel
theorem dX2_passTime_27 : decode cX2_passTime 27 = .ok (.aload_n 0, 1) := by decide +kernel
theorem dX2_passTime_28 : decode cX2_passTime 28 = .ok (.getfield 20, 3) := by decide +kernel
theorem dX2_passTime_31 : decode cX2_passTime 31 = .ok (.iload_n 1, 1) := by decide +kernel
theorem dX2_passTime_32 : decode cX2_passTime 32 = .ok (.iaload, 1) := by decide +kernel
theorem dX2_passTime_33 : decode cX2_passTime 33 = .ok (.aload_n 0, 1) := by decide +kernel
theorem dX2_passTime_34 : decode cX2_passTime 34 = .ok (.getfield 23, 3) := by decide +kernel
theorem dX2_passTime_37 : decode cX2_passTime 37 = .ok (.iload_n 1, 1) := by decide +kernel
theorem dX2_passTime_38 : decode cX2_passTime 38 = .ok (.iaload, 1) := by decide +kernel
theorem dX2_passTime_39 : decode cX2_passTime 39 = .ok (.iadd, 1) := by decide +kernel
theorem dX2_passTime_40 : decode cX2_passTime 40 = .ok (.iadd, 1) := by decide +kernel
theorem dX2_passTime_41 : decode cX2_passTime 41 = .ok (.iastore, 1) := by decide +kernel
theorem dX2_passTime_42 : decode cX2_passTime 42 = .ok (.iinc 1 1, 3) := by decide +kernel
theorem dX2_passTime_45 : decode cX2_passTime 45 = .ok (.goto (-43), 3) := by decide +kernel
theorem dX2_passTime_48 : decode cX2_passTime 48 = .ok (.return_, 1) := by decide +kernel
theorem dX3_init_0 : decode cX3_init 0 = .ok (.aload_n 0, 1) := by decide +kernel
theorem dX3_init_1 : decode cX3_init 1 = .ok (.invokespecial 1, 3) := by decide +kernel
theorem dX3_init_4 : decode cX3_init 4 = .ok (.aload_n 0, 1) := by decide +kernel
theorem dX3_init_5 : decode cX3_init 5 = .ok (.bipush 100, 2) := by decide +kernel
theorem dX3_init_7 : decode cX3_init 7 = .ok (.newarray .int, 2) := by decide +kernel
theorem dX3_init_9 : decode cX3_init 9 = .ok (.putfield 9, 3) := by decide +kernel
theorem dX3_init_12 : decode cX3_init 12 = .ok (.aload_n 0, 1) := by decide +kernel
theorem dX3_init_13 : decode cX3_init 13 = .ok (.bipush 100, 2) := by decide +kernel
theorem dX3_init_15 : decode cX3_init 15 = .ok (.newarray .int, 2) := by decide +kernel
theorem dX3_init_17 : decode cX3_init 17 = .ok (.putfield 13, 3) := by decide +kernel
theorem dX3_init_20 : decode cX3_init 20 = .ok (.aload_n 0, 1) := by decide +kernel
theorem dX3_init_21 : decode cX3_init 21 = .ok (.bipush 100, 2) := by decide +kernel
theorem dX3_init_23 : decode cX3_init 23 = .ok (.newarray .int, 2) := by decide +kernel
theorem dX3_init_25 : decode cX3_init 25 = .ok (.putfield 16, 3) := by decide +kernel
theorem dX3_init_28 : decode cX3_init 28 = .ok (.aload_n 0, 1) := by decide +kernel
theorem dX3_init_29 : decode cX3_init 29 = .ok (.bipush 100, 2) := by decide +kernel
theorem dX3_init_31 : decode cX3_init 31 = .ok (.newarray .int, 2) := by decide +kernel
theorem dX3_init_33 : decode cX3_init 33 = .ok (.putfield 19, 3) := by decide +kernel
theorem dX3_init_36 : decode cX3_init 36 = .ok (.aload_n 0, 1) := by decide +kernel
theorem dX3_init_37 : decode cX3_init 37 = .ok (.bipush 100, 2) := by decide +kernel
theorem dX3_init_39 : decode cX3_init 39 = .ok (.newarray .int, 2) := by decide +kernel
theorem dX3_init_41 : decode cX3_init 41 = .ok (.putfield 22, 3) := by decide +kernel
theorem dX3_init_44 : decode cX3_init 44 = .ok (.aload_n 0, 1) := by decide +kernel
theorem dX3_init_45 : decode cX3_init 45 = .ok (.iconst 0, 1) := by decide +kernel
theorem dX3_init_46 : decode cX3_init 46 = .ok (.putfield 25, 3) := by decide +kernel
theorem dX3_init_49 : decode cX3_init 49 = .ok (.return_, 1) := by decide +kernel
theorem dX3_isEvery_0 : decode cX3_isEvery 0 = .ok (.iload_n 0, 1) := by decide +kernel
theorem dX3_isEvery_1 : decode cX3_isEvery 1 = .ok (.iconst 1, 1) := by decide +kernel
theorem dX3_isEvery_2 : decode cX3_isEvery 2 = .ok (.if_icmp .lt 21, 3) := by decide +kernel
theorem dX3_isEvery_5 : decode cX3_isEvery 5 = .ok (.iload_n 0, 1) := by decide +kernel
theorem dX3_isEvery_6 : decode cX3_isEvery 6 = .ok (.bipush 64, 2) := by decide +kernel
theorem dX3_isEvery_8 : decode cX3_isEvery 8 = .ok (.if_icmp .gt 15, 3) := by decide +kernel
theorem dX3_isEvery_11 : decode cX3_isEvery 11 = .ok (.iload_n 0, 1) := by decide +kernel
theorem dX3_isEvery_12 : decode cX3_isEvery 12 = .ok (.invokestatic 29, 3) := by decide +kernel
theorem dX3_isEvery_15 : decode cX3_isEvery 15 = .ok (.iconst 1, 1) := by decide +kernel
theorem dX3_isEvery_16 : decode cX3_isEvery 16 = .ok (.if_icmp .ne 7, 3) := by decide +kernel
theorem dX3_isEvery_19 : decode cX3_isEvery 19 = .ok (.iconst 1, 1) := by decide +kernel
theorem dX3_isEvery_20 : decode cX3_isEvery 20 = .ok (.goto 4, 3) := by decide +kernel
theorem dX3_isEvery_23 : decode cX3_isEvery 23 = .ok (.iconst 0, 1) := by decide +kernel
theorem dX3_isEvery_24 : decode cX3_isEvery 24 = .ok (.ireturn, 1) := by decide +kernel
theorem dX3_isFull_0 : decode cX3_isFull 0 = .ok (.aload_n 0, 1) := by decide +kernel
theorem dX3_isFull_1 : decode cX3_isFull 1 = .ok (.getfield 25, 3) := by decide +kernel
theorem dX3_isFull_4 : decode cX3_isFull 4 = .ok (.bipush 100, 2) := by decide +kernel
theorem dX3_isFull_6 : decode cX3_isFull 6 = .ok (.if_icmp .lt 7, 3) := by decide +kernel
theorem dX3_isFull_9 : decode cX3_isFull 9 = .ok (.iconst 1, 1) := by decide +kernel
theorem dX3_isFull_10 : decode cX3_isFull 10 = .ok (.goto 4, 3) := by decide +kernel
theorem dX3_isFull_13 : decode cX3_isFull 13 = .ok (.iconst 0, 1) := by decide +kernel
theorem dX3_isFull_14 : decode cX3_isFull 14 = .ok (.ireturn, 1) := by decide +kernel
theorem dX3_clashes_0 : decode cX3_clashes 0 = .ok (.iconst 0, 1) := by decide +kernel
theorem dX3_clashes_1 : decode cX3_clashes 1 = .ok (.istore 5, 2) := by decide +kernel
theorem dX3_clashes_3 : decode cX3_clashes 3 = .ok (.iload 5, 2) := by decide +kernel
theorem dX3_clashes_5 : decode cX3_clashes 5 = .ok (.aload_n 0, 1) := by decide +kernel
theorem dX3_clashes_6 : decode cX3_clashes 6 = .ok (.getfield 25, 3) := by decide +kernel
theorem dX3_clashes_9 : decode cX3_clashes 9 = .ok (.if_icmp .ge 57, 3) := by decide +kernel
theorem dX3_clashes_12 : decode cX3_clashes 12 = .ok (.iload 4, 2) := by decide +kernel
theorem dX3_clashes_14 : decode cX3_clashes 14 = .ok (.aload_n 0, 1) := by decide +kernel
theorem dX3_clashes_15 : decode cX3_clashes 15 = .ok (.getfield 22, 3) := by decide +kernel
theorem dX3_clashes_18 : decode cX3_clashes 18 = .ok (.iload 5, 2) := by decide +kernel
theorem dX3_clashes_20 : decode cX3_clashes 20 = .ok (.iaload, 1) := by decide +kernel
theorem dX3_clashes_21 : decode cX3_clashes 21 = .ok (.invokestatic 35, 3) := by decide +kernel
theorem dX3_clashes_24 : decode cX3_clashes 24 = .ok (.istore 6, 2) := by decide +kernel
theorem dX3_clashes_26 : decode cX3_clashes 26 = .ok (.aload_n 0, 1) := by decide +kernel
theorem dX3_clashes_27 : decode cX3_clashes 27 = .ok (.iload 5, 2) := by decide +kernel
theorem dX3_clashes_29 : decode cX3_clashes 29 = .ok (.iload_n 1, 1) := by decide +kernel
theorem dX3_clashes_30 : decode cX3_clashes 30 = .ok (.iload_n 2, 1) := by decide +kernel
theorem dX3_clashes_31 : decode cX3_clashes 31 = .ok (.invokevirtual 41, 3) := by decide +kernel
theorem dX3_clashes_34 : decode cX3_clashes 34 = .ok (.ifCond .eq 26, 3) := by decide +kernel
theorem dX3_clashes_37 : decode cX3_clashes 37 = .ok (.iload_n 3, 1) := by decide +kernel
theorem dX3_clashes_38 : decode cX3_clashes 38 = .ok (.iload 6, 2) := by decide +kernel
theorem dX3_clashes_40 : decode cX3_clashes 40 = .ok (.invokestatic 45, 3) := by decide +kernel
theorem dX3_clashes_43 : decode cX3_clashes 43 = .ok (.aload_n 0, 1) := by decide +kernel
theorem dX3_clashes_44 : decode cX3_clashes 44 = .ok (.getfield 19, 3) := by decide +kernel
theorem dX3_clashes_47 : decode cX3_clashes 47 = .ok (.iload 5, 2) := by decide +kernel
theorem dX3_clashes_49 : decode cX3_clashes 49 = .ok (.iaload, 1) := by decide +kernel
theorem dX3_clashes_50 : decode cX3_clashes 50 = .ok (.iload 6, 2) := by decide +kernel
theorem dX3_clashes_52 : decode cX3_clashes 52 = .ok (.invokestatic 45, 3) := by decide +kernel
theorem dX3_clashes_55 : decode cX3_clashes 55 = .ok (.if_icmp .ne 5, 3) := by decide +kernel
theorem dX3_clashes_58 : decode cX3_clashes 58 = .ok (.iconst 1, 1) := by decide +kernel
theorem dX3_clashes_59 : decode cX3_clashes 59 = .ok (.ireturn, 1) := by decide +kernel
theorem dX3_clashes_60 : decode cX3_clashes 60 = .ok (.iinc 5 1, 3) := by decide +kernel
theorem dX3_clashes_63 : decode cX3_clashes 63 = .ok (.goto (-60), 3) := by decide +kernel
theorem dX3_clashes_66 : decode cX3_clashes 66 = .ok (.iconst 0, 1) := by decide +kernel
theorem dX3_clashes_67 : decode cX3_clashes 67 = .ok (.ireturn, 1) := by decide +kernel
theorem dX3_add_0 : decode cX3_add 0 = .ok (.aload_n 0, 1) := by decide +kernel
theorem dX3_add_1 : decode cX3_add 1 = .ok (.getfield 9, 3) := by decide +kernel
theorem dX3_add_4 : decode cX3_add 4 = .ok (.aload_n 0, 1) := by decide +kernel
theorem dX3_add_5 : decode cX3_add 5 = .ok (.getfield 25, 3) := by decide +kernel
theorem dX3_add_8 : decode cX3_add 8 = .ok (.iload_n 1, 1) := by decide +kernel
theorem dX3_add_9 : decode cX3_add 9 = .ok (.iastore, 1) := by decide +kernel
theorem dX3_add_10 : decode cX3_add 10 = .ok (.aload_n 0, 1) := by decide +kernel
theorem dX3_add_11 : decode cX3_add 11 = .ok (.getfield 13, 3) := by decide +kernel
theorem dX3_add_14 : decode cX3_add 14 = .ok (.aload_n 0, 1) := by decide +kernel
theorem dX3_add_15 : decode cX3_add 15 = .ok (.getfield 25, 3) := by decide +kernel
theorem dX3_add_18 : decode cX3_add 18 = .ok (.iload_n 2, 1) := by decide +kernel
theorem dX3_add_19 : decode cX3_add 19 = .ok (.iastore, 1) := by decide +kernel
theorem dX3_add_20 : decode cX3_add 20 = .ok (.aload_n 0, 1) := by decide +kernel
theorem dX3_add_21 : decode cX3_add 21 = .ok (.getfield 16, 3) := by decide +kernel
theorem dX3_add_24 : decode cX3_add 24 = .ok (.aload_n 0, 1) := by decide +kernel
theorem dX3_add_25 : decode cX3_add 25 = .ok (.getfield 25, 3) := by decide +kernel
theorem dX3_add_28 : decode cX3_add 28 = .ok (.iload_n 3, 1) := by decide +kernel
theorem dX3_add_29 : decode cX3_add 29 = .ok (.iastore, 1) := by decide +kernel
theorem dX3_add_30 : decode cX3_add 30 = .ok (.aload_n 0, 1) := by decide +kernel
theorem dX3_add_31 : decode cX3_add 31 = .ok (.getfield 19, 3) := by decide +kernel
theorem dX3_add_34 : decode cX3_add 34 = .ok (.aload_n 0, 1) := by decide +kernel
theorem dX3_add_35 : decode cX3_add 35 = .ok (.getfield 25, 3) := by decide +kernel
theorem dX3_add_38 : decode cX3_add 38 = .ok (.iload 4, 2) := by decide +kernel
theorem dX3_add_40 : decode cX3_add 40 = .ok (.iastore, 1) := by decide +kernel
theorem dX3_add_41 : decode cX3_add 41 = .ok (.aload_n 0, 1) := by decide +kernel
theorem dX3_add_42 : decode cX3_add 42 = .ok (.getfield 22, 3) := by decide +kernel
theorem dX3_add_45 : decode cX3_add 45 = .ok (.aload_n 0, 1) := by decide +kernel
theorem dX3_add_46 : decode cX3_add 46 = .ok (.getfield 25, 3) := by decide +kernel
theorem dX3_add_49 : decode cX3_add 49 = .ok (.iload 5, 2) := by decide +kernel
theorem dX3_add_51 : decode cX3_add 51 = .ok (.iastore, 1) := by decide +kernel
theorem dX3_add_52 : decode cX3_add 52 = .ok (.aload_n 0, 1) := by decide +kernel
theorem dX3_add_53 : decode cX3_add 53 = .ok (.dup, 1) := by decide +kernel
theorem dX3_add_54 : decode cX3_add 54 = .ok (.getfield 25, 3) := by decide +kernel
theorem dX3_add_57 : decode cX3_add 57 = .ok (.iconst 1, 1) := by decide +kernel
theorem dX3_add_58 : decode cX3_add 58 = .ok (.iadd, 1) := by decide +kernel
theorem dX3_add_59 : decode cX3_add 59 = .ok (.putfield 25, 3) := by decide +kernel
theorem dX3_add_62 : decode cX3_add 62 = .ok (.aload_n 0, 1) := by decide +kernel
theorem dX3_add_63 : decode cX3_add 63 = .ok (.getfield 25, 3) := by decide +kernel
theorem dX3_add_66 : decode cX3_add 66 = .ok (.ireturn, 1) := by decide +kernel
theorem dX3_nodeAt_0 : decode cX3_nodeAt 0 = .ok (.iconst 0, 1) := by decide +kernel
theorem dX3_nodeAt_1 : decode cX3_nodeAt 1 = .ok (.istore 4, 2) := by decide +kernel
theorem dX3_nodeAt_3 : decode cX3_nodeAt 3 = .ok (.iload 4, 2) := by decide +kernel
theorem dX3_nodeAt_5 : decode cX3_nodeAt 5 = .ok (.aload_n 0, 1) := by decide +kernel
theorem dX3_nodeAt_6 : decode cX3_nodeAt 6 = .ok (.getfield 25, 3) := by decide +kernel
theorem dX3_nodeAt_9 : decode cX3_nodeAt 9 = .ok (.if_icmp .ge 38, 3) := by decide +kernel
theorem dX3_nodeAt_12 : decode cX3_nodeAt 12 = .ok (.aload_n 0, 1) := by decide +kernel
theorem dX3_nodeAt_13 : decode cX3_nodeAt 13 = .ok (.iload 4, 2) := by decide +kernel
theorem dX3_nodeAt_15 : decode cX3_nodeAt 15 = .ok (.iload_n 1, 1) := by decide +kernel
theorem dX3_nodeAt_16 : decode cX3_nodeAt 16 = .ok (.iload_n 2, 1) := by decide +kernel
theorem dX3_nodeAt_17 : decode cX3_nodeAt 17 = .ok (.invokevirtual 41, 3) := by decide +kernel
theorem dX3_nodeAt_20 : decode cX3_nodeAt 20 = .ok (.ifCond .eq 21, 3) := by decide +kernel
theorem dX3_nodeAt_23 : decode cX3_nodeAt 23 = .ok (.aload_n 0, 1) := by decide +kernel
theorem dX3_nodeAt_24 : decode cX3_nodeAt 24 = .ok (.iload 4, 2) := by decide +kernel
theorem dX3_nodeAt_26 : decode cX3_nodeAt 26 = .ok (.iload_n 3, 1) := by decide +kernel
theorem dX3_nodeAt_27 : decode cX3_nodeAt 27 = .ok (.invokevirtual 48, 3) := by decide +kernel
theorem dX3_nodeAt_30 : decode cX3_nodeAt 30 = .ok (.ifCond .eq 11, 3) := by decide +kernel
theorem dX3_nodeAt_33 : decode cX3_nodeAt 33 = .ok (.aload_n 0, 1) := by decide +kernel
theorem dX3_nodeAt_34 : decode cX3_nodeAt 34 = .ok (.getfield 9, 3) := by decide +kernel
theorem dX3_nodeAt_37 : decode cX3_nodeAt 37 = .ok (.iload 4, 2) := by decide +kernel
theorem dX3_nodeAt_39 : decode cX3_nodeAt 39 = .ok (.iaload, 1) := by decide +kernel
theorem dX3_nodeAt_40 : decode cX3_nodeAt 40 = .ok (.ireturn, 1) := by decide +kernel
theorem dX3_nodeAt_41 : decode cX3_nodeAt 41 = .ok (.iinc 4 1, 3) := by decide +kernel
theorem dX3_nodeAt_44 : decode cX3_nodeAt 44 = .ok (.goto (-41), 3) := by decide +kernel
theorem dX3_nodeAt_47 : decode cX3_nodeAt 47 = .ok (.iconst 0, 1) := by decide +kernel
theorem dX3_nodeAt_48 : decode cX3_nodeAt 48 = .ok (.ireturn, 1) := by decide +kernel
theorem dX3_send_0 : decode cX3_send 0 = .ok (.aload_n 2, 1) := by decide +kernel
theorem dX3_send_1 : decode cX3_send 1 = .ok (.invokevirtual 52, 3) := by decide +kernel
theorem dX3_send_4 : decode cX3_send 4 = .ok (.iconst 0, 1) := by decide +kernel
theorem dX3_send_5 : decode cX3_send 5 = .ok (.istore 4, 2) := by decide +kernel
theorem dX3_send_7 : decode cX3_send 7 = .ok (.iconst 0, 1) := by decide +kernel
theorem dX3_send_8 : decode cX3_send 8 = .ok (.istore 5, 2) := by decide +kernel
theorem dX3_send_10 : decode cX3_send 10 = .ok (.iload 5, 2) := by decide +kernel
theorem dX3_send_12 : decode cX3_send 12 = .ok (.aload_n 0, 1) := by decide +kernel
theorem dX3_send_13 : decode cX3_send 13 = .ok (.getfield 25, 3) := by decide +kernel
theorem dX3_send_16 : decode cX3_send 16 = .ok (.if_icmp .ge 82, 3) := by decide +kernel
theorem dX3_send_19 : decode cX3_send 19 = .ok (.aload_n 2, 1) := by decide +kernel
theorem dX3_send_20 : decode cX3_send 20 = .ok (.aload_n 0, 1) := by decide +kernel
theorem dX3_send_21 : decode cX3_send 21 = .ok (.getfield 9, 3) := by decide +kernel
theorem dX3_send_24 : decode cX3_send 24 = .ok (.iload 5, 2) := by decide +kernel
theorem dX3_send_26 : decode cX3_send 26 = .ok (.iaload, 1) := by decide +kernel
theorem dX3_send_27 : decode cX3_send 27 = .ok (.invokevirtual 57, 3) := by decide +kernel
theorem dX3_send_30 : decode cX3_send 30 = .ok (.ifCond .eq 17, 3) := by decide +kernel
theorem dX3_send_33 : decode cX3_send 33 = .ok (.aload_n 0, 1) := by decide +kernel
theorem dX3_send_34 : decode cX3_send 34 = .ok (.iload 5, 2) := by decide +kernel
theorem dX3_send_36 : decode cX3_send 36 = .ok (.iload_n 1, 1) := by decide +kernel
theorem dX3_send_37 : decode cX3_send 37 = .ok (.invokevirtual 48, 3) := by decide +kernel
theorem dX3_send_40 : decode cX3_send 40 = .ok (.ifCond .eq 7, 3) := by decide +kernel
theorem dX3_send_43 : decode cX3_send 43 = .ok (.iconst 1, 1) := by decide +kernel
theorem dX3_send_44 : decode cX3_send 44 = .ok (.goto 4, 3) := by decide +kernel
theorem dX3_send_47 : decode cX3_send 47 = .ok (.iconst 0, 1) := by decide +kernel
theorem dX3_send_48 : decode cX3_send 48 = .ok (.istore 6, 2) := by decide +kernel
theorem dX3_send_50 : decode cX3_send 50 = .ok (.iload 6, 2) := by decide +kernel
theorem dX3_send_52 : decode cX3_send 52 = .ok (.ifCond .eq 40, 3) := by decide +kernel
theorem dX3_send_55 : decode cX3_send 55 = .ok (.aload_n 3, 1) := by decide +kernel
theorem dX3_send_56 : decode cX3_send 56 = .ok (.aload_n 0, 1) := by decide +kernel
theorem dX3_send_57 : decode cX3_send 57 = .ok (.getfield 16, 3) := by decide +kernel
theorem dX3_send_60 : decode cX3_send 60 = .ok (.iload 5, 2) := by decide +kernel
theorem dX3_send_62 : decode cX3_send 62 = .ok (.iaload, 1) := by decide +kernel
theorem dX3_send_63 : decode cX3_send 63 = .ok (.aload_n 0, 1) := by decide +kernel
theorem dX3_send_64 : decode cX3_send 64 = .ok (.getfield 13, 3) := by decide +kernel
theorem dX3_send_67 : decode cX3_send 67 = .ok (.iload 5, 2) := by decide +kernel
theorem dX3_send_69 : decode cX3_send 69 = .ok (.iaload, 1) := by decide +kernel
theorem dX3_send_70 : decode cX3_send 70 = .ok (.invokevirtual 61, 3) := by decide +kernel
theorem dX3_send_73 : decode cX3_send 73 = .ok (.ifCond .eq 19, 3) := by decide +kernel
theorem dX3_send_76 : decode cX3_send 76 = .ok (.aload_n 2, 1) := by decide +kernel
theorem dX3_send_77 : decode cX3_send 77 = .ok (.getfield 66, 3) := by decide +kernel
theorem dX3_send_80 : decode cX3_send 80 = .ok (.aload_n 0, 1) := by decide +kernel
theorem dX3_send_81 : decode cX3_send 81 = .ok (.getfield 9, 3) := by decide +kernel
theorem dX3_send_84 : decode cX3_send 84 = .ok (.iload 5, 2) := by decide +kernel
theorem dX3_send_86 : decode cX3_send 86 = .ok (.iaload, 1) := by decide +kernel
theorem dX3_send_87 : decode cX3_send 87 = .ok (.iconst 1, 1) := by decide +kernel
theorem dX3_send_88 : decode cX3_send 88 = .ok (.bastore, 1) := by decide +kernel
theorem dX3_send_89 : decode cX3_send 89 = .ok (.iinc 4 1, 3) := by decide +kernel
theorem dX3_send_92 : decode cX3_send 92 = .ok (.iinc 5 1, 3) := by decide +kernel
theorem dX3_send_95 : decode cX3_send 95 = .ok (.goto (-85), 3) := by decide +kernel
theorem dX3_send_98 : decode cX3_send 98 = .ok (.iload 4, 2) := by decide +kernel
theorem dX3_send_100 : decode cX3_send 100 = .ok (.ireturn, 1) := by decide +kernel
theorem dX3_isOn_0 : decode cX3_isOn 0 = .ok (.aload_n 0, 1) := by decide +kernel
theorem dX3_isOn_1 : decode cX3_isOn 1 = .ok (.getfield 13, 3) := by decide +kernel
theorem dX3_isOn_4 : decode cX3_isOn 4 = .ok (.iload_n 1, 1) := by decide +kernel
theorem dX3_isOn_5 : decode cX3_isOn 5 = .ok (.iaload, 1) := by decide +kernel
theorem dX3_isOn_6 : decode cX3_isOn 6 = .ok (.iload_n 2, 1) := by decide +kernel
theorem dX3_isOn_7 : decode cX3_isOn 7 = .ok (.if_icmp .ne 18, 3) := by decide +kernel
theorem dX3_isOn_10 : decode cX3_isOn 10 = .ok (.aload_n 0, 1) := by decide +kernel
theorem dX3_isOn_11 : decode cX3_isOn 11 = .ok (.getfield 16, 3) := by decide +kernel
theorem dX3_isOn_14 : decode cX3_isOn 14 = .ok (.iload_n 1, 1) := by decide +kernel
theorem dX3_isOn_15 : decode cX3_isOn 15 = .ok (.iaload, 1) := by decide +kernel
theorem dX3_isOn_16 : decode cX3_isOn 16 = .ok (.iload_n 3, 1) := by decide +kernel
theorem dX3_isOn_17 : decode cX3_isOn 17 = .ok (.iand, 1) := by decide +kernel
theorem dX3_isOn_18 : decode cX3_isOn 18 = .ok (.ifCond .eq 7, 3) := by decide +kernel
theorem dX3_isOn_21 : decode cX3_isOn 21 = .ok (.iconst 1, 1) := by decide +kernel
theorem dX3_isOn_22 : decode cX3_isOn 22 = .ok (.goto 4, 3) := by decide +kernel
theorem dX3_isOn_25 : decode cX3_isOn 25 = .ok (.iconst 0, 1) := by decide +kernel
theorem dX3_isOn_26 : decode cX3_isOn 26 = .ok (.ireturn, 1) := by decide +kernel
theorem dX3_isIn_0 : decode cX3_isIn 0 = .ok (.iload_n 2, 1) := by decide +kernel
theorem dX3_isIn_1 : decode cX3_isIn 1 = .ok (.aload_n 0, 1) := by decide +kernel
theorem dX3_isIn_2 : decode cX3_isIn 2 = .ok (.getfield 22, 3) := by decide +kernel
theorem dX3_isIn_5 : decode cX3_isIn 5 = .ok (.iload_n 1, 1) := by decide +kernel
theorem dX3_isIn_6 : decode cX3_isIn 6 = .ok (.iaload, 1) := by decide +kernel
theorem dX3_isIn_7 : decode cX3_isIn 7 = .ok (.invokestatic 45, 3) := by decide +kernel
theorem dX3_isIn_10 : decode cX3_isIn 10 = .ok (.aload_n 0, 1) := by decide +kernel
theorem dX3_isIn_11 : decode cX3_isIn 11 = .ok (.getfield 19, 3) := by decide +kernel
theorem dX3_isIn_14 : decode cX3_isIn 14 = .ok (.iload_n 1, 1) := by decide +kernel
theorem dX3_isIn_15 : decode cX3_isIn 15 = .ok (.iaload, 1) := by decide +kernel
theorem dX3_isIn_16 : decode cX3_isIn 16 = .ok (.if_icmp .ne 7, 3) := by decide +kernel
theorem dX3_isIn_19 : decode cX3_isIn 19 = .ok (.iconst 1, 1) := by decide +kernel
theorem dX3_isIn_20 : decode cX3_isIn 20 = .ok (.goto 4, 3) := by decide +kernel
theorem dX3_isIn_23 : decode cX3_isIn 23 = .ok (.iconst 0, 1) := by decide +kernel
theorem dX3_isIn_24 : decode cX3_isIn 24 = .ok (.ireturn, 1) := by decide +kernel
theorem dX3_remainder_0 : decode cX3_remainder 0 = .ok (.iload_n 0, 1) := by decide +kernel
theorem dX3_remainder_1 : decode cX3_remainder 1 = .ok (.iload_n 1, 1) := by decide +kernel
theorem dX3_remainder_2 : decode cX3_remainder 2 = .ok (.iconst 1, 1) := by decide +kernel
theorem dX3_remainder_3 : decode cX3_remainder 3 = .ok (.isub, 1) := by decide +kernel
theorem dX3_remainder_4 : decode cX3_remainder 4 = .ok (.iand, 1) := by decide +kernel
theorem dX3_remainder_5 : decode cX3_remainder 5 = .ok (.ireturn, 1) := by decide +kernel
theorem dX4_init_0 : decode cX4_init 0 = .ok (.aload_n 0, 1) := by decide +kernel
theorem dX4_init_1 : decode cX4_init 1 = .ok (.invokespecial 1, 3) := by decide +kernel
theorem dX4_init_4 : decode cX4_init 4 = .ok (.aload_n 0, 1) := by decide +kernel
theorem dX4_init_5 : decode cX4_init 5 = .ok (.iload_n 2, 1) := by decide +kernel
theorem dX4_init_6 : decode cX4_init 6 = .ok (.iconst 1, 1) := by decide +kernel
theorem dX4_init_7 : decode cX4_init 7 = .ok (.bipush 60, 2) := by decide +kernel
theorem dX4_init_9 : decode cX4_init 9 = .ok (.invokestatic 7, 3) := by decide +kernel
theorem dX4_init_12 : decode cX4_init 12 = .ok (.ifCond .eq 7, 3) := by decide +kernel
theorem dX4_init_15 : decode cX4_init 15 = .ok (.iload_n 2, 1) := by decide +kernel
theorem dX4_init_16 : decode cX4_init 16 = .ok (.goto 5, 3) := by decide +kernel
theorem dX4_init_19 : decode cX4_init 19 = .ok (.bipush 10, 2) := by decide +kernel
theorem dX4_init_21 : decode cX4_init 21 = .ok (.putfield 13, 3) := by decide +kernel
theorem dX4_init_24 : decode cX4_init 24 = .ok (.aload_n 0, 1) := by decide +kernel
theorem dX4_init_25 : decode cX4_init 25 = .ok (.iload_n 3, 1) := by decide +kernel
theorem dX4_init_26 : decode cX4_init 26 = .ok (.iconst 0, 1) := by decide +kernel
theorem dX4_init_27 : decode cX4_init 27 = .ok (.bipush 60, 2) := by decide +kernel
theorem dX4_init_29 : decode cX4_init 29 = .ok (.invokestatic 7, 3) := by decide +kernel
theorem dX4_init_32 : decode cX4_init 32 = .ok (.ifCond .eq 7, 3) := by decide +kernel
end
section
theorem dX4_init_35 : decode cX4_init 35 = .ok (.iload_n 3, 1) := by decide +kernel
theorem dX4_init_36 : decode cX4_init 36 = .ok (.goto 5, 3) := by decide +kernel
theorem dX4_init_39 : decode cX4_init 39 = .ok (.bipush 20, 2) := by decide +kernel
theorem dX4_init_41 : decode cX4_init 41 = .ok (.putfield 17, 3) := by decide +kernel
theorem dX4_init_44 : decode cX4_init 44 = .ok (.aload_n 0, 1) := by decide +kernel
theorem dX4_init_45 : decode cX4_init 45 = .ok (.new 20, 3) := by decide +kernel
theorem dX4_init_48 : decode cX4_init 48 = .ok (.dup, 1) := by decide +kernel
theorem dX4_init_49 : decode cX4_init 49 = .ok (.iload_n 1, 1) := by decide +kernel
theorem dX4_init_50 : decode cX4_init 50 = .ok (.iconst 1, 1) := by decide +kernel
theorem dX4_init_51 : decode cX4_init 51 = .ok (.bipush 16, 2) := by decide +kernel
theorem dX4_init_53 : decode cX4_init 53 = .ok (.invokestatic 7, 3) := by decide +kernel
theorem dX4_init_56 : decode cX4_init 56 = .ok (.ifCond .eq 7, 3) := by decide +kernel
theorem dX4_init_59 : decode cX4_init 59 = .ok (.iload_n 1, 1) := by decide +kernel
theorem dX4_init_60 : decode cX4_init 60 = .ok (.goto 4, 3) := by decide +kernel
theorem dX4_init_63 : decode cX4_init 63 = .ok (.iconst 4, 1) := by decide +kernel
theorem dX4_init_64 : decode cX4_init 64 = .ok (.invokespecial 22, 3) := by decide +kernel
theorem dX4_init_67 : decode cX4_init 67 = .ok (.putfield 25, 3) := by decide +kernel
theorem dX4_init_70 : decode cX4_init 70 = .ok (.aload_n 0, 1) := by decide +kernel
theorem dX4_init_71 : decode cX4_init 71 = .ok (.new 29, 3) := by decide +kernel
theorem dX4_init_74 : decode cX4_init 74 = .ok (.dup, 1) := by decide +kernel
theorem dX4_init_75 : decode cX4_init 75 = .ok (.invokespecial 31, 3) := by decide +kernel
theorem dX4_init_78 : decode cX4_init 78 = .ok (.putfield 32, 3) := by decide +kernel
theorem dX4_init_81 : decode cX4_init 81 = .ok (.aload_n 0, 1) := by decide +kernel
theorem dX4_init_82 : decode cX4_init 82 = .ok (.new 36, 3) := by decide +kernel
theorem dX4_init_85 : decode cX4_init 85 = .ok (.dup, 1) := by decide +kernel
theorem dX4_init_86 : decode cX4_init 86 = .ok (.invokespecial 38, 3) := by decide +kernel
theorem dX4_init_89 : decode cX4_init 89 = .ok (.putfield 39, 3) := by decide +kernel
theorem dX4_init_92 : decode cX4_init 92 = .ok (.aload_n 0, 1) := by decide +kernel
theorem dX4_init_93 : decode cX4_init 93 = .ok (.new 43, 3) := by decide +kernel
theorem dX4_init_96 : decode cX4_init 96 = .ok (.dup, 1) := by decide +kernel
theorem dX4_init_97 : decode cX4_init 97 = .ok (.aload_n 0, 1) := by decide +kernel
theorem dX4_init_98 : decode cX4_init 98 = .ok (.getfield 13, 3) := by decide +kernel
theorem dX4_init_101 : decode cX4_init 101 = .ok (.invokespecial 45, 3) := by decide +kernel
theorem dX4_init_104 : decode cX4_init 104 = .ok (.putfield 46, 3) := by decide +kernel
theorem dX4_init_107 : decode cX4_init 107 = .ok (.aload_n 0, 1) := by decide +kernel
theorem dX4_init_108 : decode cX4_init 108 = .ok (.iconst 0, 1) := by decide +kernel
theorem dX4_init_109 : decode cX4_init 109 = .ok (.putfield 50, 3) := by decide +kernel
theorem dX4_init_112 : decode cX4_init 112 = .ok (.return_, 1) := by decide +kernel
theorem dX4_frame_0 : decode cX4_frame 0 = .ok (.aload_n 0, 1) := by decide +kernel
theorem dX4_frame_1 : decode cX4_frame 1 = .ok (.getfield 25, 3) := by decide +kernel
theorem dX4_frame_4 : decode cX4_frame 4 = .ok (.iload_n 1, 1) := by decide +kernel
theorem dX4_frame_5 : decode cX4_frame 5 = .ok (.invokevirtual 53, 3) := by decide +kernel
theorem dX4_frame_8 : decode cX4_frame 8 = .ok (.ifCond .eq 11, 3) := by decide +kernel
theorem dX4_frame_11 : decode cX4_frame 11 = .ok (.aload_n 0, 1) := by decide +kernel
theorem dX4_frame_12 : decode cX4_frame 12 = .ok (.iload_n 2, 1) := by decide +kernel
theorem dX4_frame_13 : decode cX4_frame 13 = .ok (.invokevirtual 57, 3) := by decide +kernel
theorem dX4_frame_16 : decode cX4_frame 16 = .ok (.ifCond .ne 5, 3) := by decide +kernel
theorem dX4_frame_19 : decode cX4_frame 19 = .ok (.iconst (-1), 1) := by decide +kernel
theorem dX4_frame_20 : decode cX4_frame 20 = .ok (.ireturn, 1) := by decide +kernel
theorem dX4_frame_21 : decode cX4_frame 21 = .ok (.iload_n 3, 1) := by decide +kernel
theorem dX4_frame_22 : decode cX4_frame 22 = .ok (.iconst 1, 1) := by decide +kernel
theorem dX4_frame_23 : decode cX4_frame 23 = .ok (.iconst 3, 1) := by decide +kernel
theorem dX4_frame_24 : decode cX4_frame 24 = .ok (.invokestatic 7, 3) := by decide +kernel
theorem dX4_frame_27 : decode cX4_frame 27 = .ok (.ifCond .eq 24, 3) := by decide +kernel
theorem dX4_frame_30 : decode cX4_frame 30 = .ok (.iload 5, 2) := by decide +kernel
theorem dX4_frame_32 : decode cX4_frame 32 = .ok (.invokestatic 60, 3) := by decide +kernel
theorem dX4_frame_35 : decode cX4_frame 35 = .ok (.ifCond .eq 16, 3) := by decide +kernel
theorem dX4_frame_38 : decode cX4_frame 38 = .ok (.iload 4, 2) := by decide +kernel
theorem dX4_frame_40 : decode cX4_frame 40 = .ok (.iconst 0, 1) := by decide +kernel
theorem dX4_frame_41 : decode cX4_frame 41 = .ok (.iload 5, 2) := by decide +kernel
theorem dX4_frame_43 : decode cX4_frame 43 = .ok (.iconst 1, 1) := by decide +kernel
theorem dX4_frame_44 : decode cX4_frame 44 = .ok (.isub, 1) := by decide +kernel
theorem dX4_frame_45 : decode cX4_frame 45 = .ok (.invokestatic 7, 3) := by decide +kernel
theorem dX4_frame_48 : decode cX4_frame 48 = .ok (.ifCond .ne 6, 3) := by decide +kernel
theorem dX4_frame_51 : decode cX4_frame 51 = .ok (.bipush (-2), 2) := by decide +kernel
theorem dX4_frame_53 : decode cX4_frame 53 = .ok (.ireturn, 1) := by decide +kernel
theorem dX4_frame_54 : decode cX4_frame 54 = .ok (.aload_n 0, 1) := by decide +kernel
theorem dX4_frame_55 : decode cX4_frame 55 = .ok (.getfield 32, 3) := by decide +kernel
theorem dX4_frame_58 : decode cX4_frame 58 = .ok (.iload_n 2, 1) := by decide +kernel
theorem dX4_frame_59 : decode cX4_frame 59 = .ok (.iload_n 3, 1) := by decide +kernel
theorem dX4_frame_60 : decode cX4_frame 60 = .ok (.iload 4, 2) := by decide +kernel
theorem dX4_frame_62 : decode cX4_frame 62 = .ok (.iload 5, 2) := by decide +kernel
theorem dX4_frame_64 : decode cX4_frame 64 = .ok (.invokevirtual 63, 3) := by decide +kernel
theorem dX4_frame_67 : decode cX4_frame 67 = .ok (.ifCond .eq 6, 3) := by decide +kernel
theorem dX4_frame_70 : decode cX4_frame 70 = .ok (.bipush (-3), 2) := by decide +kernel
theorem dX4_frame_72 : decode cX4_frame 72 = .ok (.ireturn, 1) := by decide +kernel
theorem dX4_frame_73 : decode cX4_frame 73 = .ok (.aload_n 0, 1) := by decide +kernel
theorem dX4_frame_74 : decode cX4_frame 74 = .ok (.getfield 32, 3) := by decide +kernel
theorem dX4_frame_77 : decode cX4_frame 77 = .ok (.invokevirtual 67, 3) := by decide +kernel
theorem dX4_frame_80 : decode cX4_frame 80 = .ok (.ifCond .eq 6, 3) := by decide +kernel
theorem dX4_frame_83 : decode cX4_frame 83 = .ok (.bipush (-4), 2) := by decide +kernel
theorem dX4_frame_85 : decode cX4_frame 85 = .ok (.ireturn, 1) := by decide +kernel
theorem dX4_frame_86 : decode cX4_frame 86 = .ok (.aload_n 0, 1) := by decide +kernel
theorem dX4_frame_87 : decode cX4_frame 87 = .ok (.getfield 32, 3) := by decide +kernel
theorem dX4_frame_90 : decode cX4_frame 90 = .ok (.iload_n 1, 1) := by decide +kernel
theorem dX4_frame_91 : decode cX4_frame 91 = .ok (.iload_n 2, 1) := by decide +kernel
theorem dX4_frame_92 : decode cX4_frame 92 = .ok (.iload_n 3, 1) := by decide +kernel
theorem dX4_frame_93 : decode cX4_frame 93 = .ok (.iload 4, 2) := by decide +kernel
theorem dX4_frame_95 : decode cX4_frame 95 = .ok (.iload 5, 2) := by decide +kernel
theorem dX4_frame_97 : decode cX4_frame 97 = .ok (.invokevirtual 71, 3) := by decide +kernel
theorem dX4_frame_100 : decode cX4_frame 100 = .ok (.ireturn, 1) := by decide +kernel
theorem dX4_dynamic_0 : decode cX4_dynamic 0 = .ok (.aload_n 0, 1) := by decide +kernel
theorem dX4_dynamic_1 : decode cX4_dynamic 1 = .ok (.getfield 25, 3) := by decide +kernel
theorem dX4_dynamic_4 : decode cX4_dynamic 4 = .ok (.iload_n 1, 1) := by decide +kernel
theorem dX4_dynamic_5 : decode cX4_dynamic 5 = .ok (.invokevirtual 53, 3) := by decide +kernel
theorem dX4_dynamic_8 : decode cX4_dynamic 8 = .ok (.ifCond .ne 5, 3) := by decide +kernel
theorem dX4_dynamic_11 : decode cX4_dynamic 11 = .ok (.iconst (-1), 1) := by decide +kernel
theorem dX4_dynamic_12 : decode cX4_dynamic 12 = .ok (.ireturn, 1) := by decide +kernel
theorem dX4_dynamic_13 : decode cX4_dynamic 13 = .ok (.iload_n 2, 1) := by decide +kernel
theorem dX4_dynamic_14 : decode cX4_dynamic 14 = .ok (.iconst 1, 1) := by decide +kernel
theorem dX4_dynamic_15 : decode cX4_dynamic 15 = .ok (.bipush 60, 2) := by decide +kernel
theorem dX4_dynamic_17 : decode cX4_dynamic 17 = .ok (.invokestatic 7, 3) := by decide +kernel
theorem dX4_dynamic_20 : decode cX4_dynamic 20 = .ok (.ifCond .eq 13, 3) := by decide +kernel
theorem dX4_dynamic_23 : decode cX4_dynamic 23 = .ok (.iload_n 3, 1) := by decide +kernel
theorem dX4_dynamic_24 : decode cX4_dynamic 24 = .ok (.iconst 1, 1) := by decide +kernel
theorem dX4_dynamic_25 : decode cX4_dynamic 25 = .ok (.bipush 60, 2) := by decide +kernel
theorem dX4_dynamic_27 : decode cX4_dynamic 27 = .ok (.invokestatic 7, 3) := by decide +kernel
theorem dX4_dynamic_30 : decode cX4_dynamic 30 = .ok (.ifCond .ne 6, 3) := by decide +kernel
theorem dX4_dynamic_33 : decode cX4_dynamic 33 = .ok (.bipush (-2), 2) := by decide +kernel
theorem dX4_dynamic_35 : decode cX4_dynamic 35 = .ok (.ireturn, 1) := by decide +kernel
theorem dX4_dynamic_36 : decode cX4_dynamic 36 = .ok (.aload_n 0, 1) := by decide +kernel
theorem dX4_dynamic_37 : decode cX4_dynamic 37 = .ok (.getfield 39, 3) := by decide +kernel
theorem dX4_dynamic_40 : decode cX4_dynamic 40 = .ok (.invokevirtual 75, 3) := by decide +kernel
theorem dX4_dynamic_43 : decode cX4_dynamic 43 = .ok (.ifCond .eq 6, 3) := by decide +kernel
theorem dX4_dynamic_46 : decode cX4_dynamic 46 = .ok (.bipush (-4), 2) := by decide +kernel
theorem dX4_dynamic_48 : decode cX4_dynamic 48 = .ok (.ireturn, 1) := by decide +kernel
theorem dX4_dynamic_49 : decode cX4_dynamic 49 = .ok (.aload_n 0, 1) := by decide +kernel
theorem dX4_dynamic_50 : decode cX4_dynamic 50 = .ok (.getfield 39, 3) := by decide +kernel
theorem dX4_dynamic_53 : decode cX4_dynamic 53 = .ok (.iload_n 1, 1) := by decide +kernel
theorem dX4_dynamic_54 : decode cX4_dynamic 54 = .ok (.iload_n 2, 1) := by decide +kernel
theorem dX4_dynamic_55 : decode cX4_dynamic 55 = .ok (.iload_n 3, 1) := by decide +kernel
theorem dX4_dynamic_56 : decode cX4_dynamic 56 = .ok (.invokevirtual 76, 3) := by decide +kernel
theorem dX4_dynamic_59 : decode cX4_dynamic 59 = .ok (.ireturn, 1) := by decide +kernel
theorem dX4_drift_0 : decode cX4_drift 0 = .ok (.aload_n 0, 1) := by decide +kernel
theorem dX4_drift_1 : decode cX4_drift 1 = .ok (.getfield 25, 3) := by decide +kernel
theorem dX4_drift_4 : decode cX4_drift 4 = .ok (.iload_n 1, 1) := by decide +kernel
theorem dX4_drift_5 : decode cX4_drift 5 = .ok (.invokevirtual 53, 3) := by decide +kernel
theorem dX4_drift_8 : decode cX4_drift 8 = .ok (.ifCond .ne 5, 3) := by decide +kernel
theorem dX4_drift_11 : decode cX4_drift 11 = .ok (.iconst (-1), 1) := by decide +kernel
theorem dX4_drift_12 : decode cX4_drift 12 = .ok (.ireturn, 1) := by decide +kernel
theorem dX4_drift_13 : decode cX4_drift 13 = .ok (.iload_n 2, 1) := by decide +kernel
theorem dX4_drift_14 : decode cX4_drift 14 = .ok (.sipush (-200), 3) := by decide +kernel
theorem dX4_drift_17 : decode cX4_drift 17 = .ok (.sipush 200, 3) := by decide +kernel
theorem dX4_drift_20 : decode cX4_drift 20 = .ok (.invokestatic 7, 3) := by decide +kernel
theorem dX4_drift_23 : decode cX4_drift 23 = .ok (.ifCond .ne 6, 3) := by decide +kernel
theorem dX4_drift_26 : decode cX4_drift 26 = .ok (.bipush (-2), 2) := by decide +kernel
theorem dX4_drift_28 : decode cX4_drift 28 = .ok (.ireturn, 1) := by decide +kernel
theorem dX4_drift_29 : decode cX4_drift 29 = .ok (.aload_n 0, 1) := by decide +kernel
theorem dX4_drift_30 : decode cX4_drift 30 = .ok (.getfield 25, 3) := by decide +kernel
theorem dX4_drift_33 : decode cX4_drift 33 = .ok (.getfield 79, 3) := by decide +kernel
theorem dX4_drift_36 : decode cX4_drift 36 = .ok (.iload_n 1, 1) := by decide +kernel
theorem dX4_drift_37 : decode cX4_drift 37 = .ok (.iload_n 2, 1) := by decide +kernel
theorem dX4_drift_38 : decode cX4_drift 38 = .ok (.iastore, 1) := by decide +kernel
theorem dX4_drift_39 : decode cX4_drift 39 = .ok (.iconst 1, 1) := by decide +kernel
theorem dX4_drift_40 : decode cX4_drift 40 = .ok (.ireturn, 1) := by decide +kernel
theorem dX4_run_0 : decode cX4_run 0 = .ok (.iload_n 1, 1) := by decide +kernel
theorem dX4_run_1 : decode cX4_run 1 = .ok (.iconst 0, 1) := by decide +kernel
theorem dX4_run_2 : decode cX4_run 2 = .ok (.sipush 500, 3) := by decide +kernel
theorem dX4_run_5 : decode cX4_run 5 = .ok (.invokestatic 7, 3) := by decide +kernel
theorem dX4_run_8 : decode cX4_run 8 = .ok (.ifCond .ne 6, 3) := by decide +kernel
theorem dX4_run_11 : decode cX4_run 11 = .ok (.bipush (-2), 2) := by decide +kernel
theorem dX4_run_13 : decode cX4_run 13 = .ok (.ireturn, 1) := by decide +kernel
theorem dX4_run_14 : decode cX4_run 14 = .ok (.iconst 0, 1) := by decide +kernel
theorem dX4_run_15 : decode cX4_run 15 = .ok (.istore_n 2, 1) := by decide +kernel
theorem dX4_run_16 : decode cX4_run 16 = .ok (.iconst 0, 1) := by decide +kernel
theorem dX4_run_17 : decode cX4_run 17 = .ok (.istore_n 3, 1) := by decide +kernel
theorem dX4_run_18 : decode cX4_run 18 = .ok (.iload_n 3, 1) := by decide +kernel
theorem dX4_run_19 : decode cX4_run 19 = .ok (.iload_n 1, 1) := by decide +kernel
theorem dX4_run_20 : decode cX4_run 20 = .ok (.if_icmp .ge 16, 3) := by decide +kernel
theorem dX4_run_23 : decode cX4_run 23 = .ok (.iload_n 2, 1) := by decide +kernel
theorem dX4_run_24 : decode cX4_run 24 = .ok (.aload_n 0, 1) := by decide +kernel
theorem dX4_run_25 : decode cX4_run 25 = .ok (.invokevirtual 83, 3) := by decide +kernel
theorem dX4_run_28 : decode cX4_run 28 = .ok (.iadd, 1) := by decide +kernel
theorem dX4_run_29 : decode cX4_run 29 = .ok (.istore_n 2, 1) := by decide +kernel
theorem dX4_run_30 : decode cX4_run 30 = .ok (.iinc 3 1, 3) := by decide +kernel
theorem dX4_run_33 : decode cX4_run 33 = .ok (.goto (-15), 3) := by decide +kernel
theorem dX4_run_36 : decode cX4_run 36 = .ok (.iload_n 2, 1) := by decide +kernel
theorem dX4_run_37 : decode cX4_run 37 = .ok (.ireturn, 1) := by decide +kernel
theorem dX4_state_0 : decode cX4_state 0 = .ok (.aload_n 0, 1) := by decide +kernel
theorem dX4_state_1 : decode cX4_state 1 = .ok (.getfield 25, 3) := by decide +kernel
theorem dX4_state_4 : decode cX4_state 4 = .ok (.iload_n 1, 1) := by decide +kernel
theorem dX4_state_5 : decode cX4_state 5 = .ok (.invokevirtual 53, 3) := by decide +kernel
theorem dX4_state_8 : decode cX4_state 8 = .ok (.ifCond .eq 15, 3) := by decide +kernel
theorem dX4_state_11 : decode cX4_state 11 = .ok (.aload_n 0, 1) := by decide +kernel
theorem dX4_state_12 : decode cX4_state 12 = .ok (.getfield 25, 3) := by decide +kernel
theorem dX4_state_15 : decode cX4_state 15 = .ok (.getfield 87, 3) := by decide +kernel
theorem dX4_state_18 : decode cX4_state 18 = .ok (.iload_n 1, 1) := by decide +kernel
theorem dX4_state_19 : decode cX4_state 19 = .ok (.iaload, 1) := by decide +kernel
theorem dX4_state_20 : decode cX4_state 20 = .ok (.goto 4, 3) := by decide +kernel
theorem dX4_state_23 : decode cX4_state 23 = .ok (.iconst (-1), 1) := by decide +kernel
theorem dX4_state_24 : decode cX4_state 24 = .ok (.ireturn, 1) := by decide +kernel
theorem dX4_offset_0 : decode cX4_offset 0 = .ok (.aload_n 0, 1) := by decide +kernel
theorem dX4_offset_1 : decode cX4_offset 1 = .ok (.getfield 25, 3) := by decide +kernel
theorem dX4_offset_4 : decode cX4_offset 4 = .ok (.iload_n 1, 1) := by decide +kernel
theorem dX4_offset_5 : decode cX4_offset 5 = .ok (.invokevirtual 53, 3) := by decide +kernel
theorem dX4_offset_8 : decode cX4_offset 8 = .ok (.ifCond .eq 15, 3) := by decide +kernel
theorem dX4_offset_11 : decode cX4_offset 11 = .ok (.aload_n 0, 1) := by decide +kernel
theorem dX4_offset_12 : decode cX4_offset 12 = .ok (.getfield 25, 3) := by decide +kernel
theorem dX4_offset_15 : decode cX4_offset 15 = .ok (.getfield 90, 3) := by decide +kernel
theorem dX4_offset_18 : decode cX4_offset 18 = .ok (.iload_n 1, 1) := by decide +kernel
theorem dX4_offset_19 : decode cX4_offset 19 = .ok (.iaload, 1) := by decide +kernel
theorem dX4_offset_20 : decode cX4_offset 20 = .ok (.goto 4, 3) := by decide +kernel
theorem dX4_offset_23 : decode cX4_offset 23 = .ok (.iconst 0, 1) := by decide +kernel
theorem dX4_offset_24 : decode cX4_offset 24 = .ok (.ireturn, 1) := by decide +kernel
theorem dX4_rate_0 : decode cX4_rate 0 = .ok (.aload_n 0, 1) := by decide +kernel
theorem dX4_rate_1 : decode cX4_rate 1 = .ok (.getfield 25, 3) := by decide +kernel
theorem dX4_rate_4 : decode cX4_rate 4 = .ok (.iload_n 1, 1) := by decide +kernel
theorem dX4_rate_5 : decode cX4_rate 5 = .ok (.invokevirtual 53, 3) := by decide +kernel
theorem dX4_rate_8 : decode cX4_rate 8 = .ok (.ifCond .eq 15, 3) := by decide +kernel
theorem dX4_rate_11 : decode cX4_rate 11 = .ok (.aload_n 0, 1) := by decide +kernel
theorem dX4_rate_12 : decode cX4_rate 12 = .ok (.getfield 25, 3) := by decide +kernel
theorem dX4_rate_15 : decode cX4_rate 15 = .ok (.getfield 93, 3) := by decide +kernel
theorem dX4_rate_18 : decode cX4_rate 18 = .ok (.iload_n 1, 1) := by decide +kernel
theorem dX4_rate_19 : decode cX4_rate 19 = .ok (.iaload, 1) := by decide +kernel
theorem dX4_rate_20 : decode cX4_rate 20 = .ok (.goto 4, 3) := by decide +kernel
theorem dX4_rate_23 : decode cX4_rate 23 = .ok (.iconst 0, 1) := by decide +kernel
theorem dX4_rate_24 : decode cX4_rate 24 = .ok (.ireturn, 1) := by decide +kernel
theorem dX4_place_0 : decode cX4_place 0 = .ok (.aload_n 0, 1) := by decide +kernel
theorem dX4_place_1 : decode cX4_place 1 = .ok (.iload_n 1, 1) := by decide +kernel
theorem dX4_place_2 : decode cX4_place 2 = .ok (.invokevirtual 57, 3) := by decide +kernel
theorem dX4_place_5 : decode cX4_place 5 = .ok (.ifCond .eq 13, 3) := by decide +kernel
theorem dX4_place_8 : decode cX4_place 8 = .ok (.iload_n 2, 1) := by decide +kernel
theorem dX4_place_9 : decode cX4_place 9 = .ok (.iconst 0, 1) := by decide +kernel
theorem dX4_place_10 : decode cX4_place 10 = .ok (.bipush 63, 2) := by decide +kernel
theorem dX4_place_12 : decode cX4_place 12 = .ok (.invokestatic 7, 3) := by decide +kernel
theorem dX4_place_15 : decode cX4_place 15 = .ok (.ifCond .ne 11, 3) := by decide +kernel
theorem dX4_place_18 : decode cX4_place 18 = .ok (.new 96, 3) := by decide +kernel
theorem dX4_place_21 : decode cX4_place 21 = .ok (.dup, 1) := by decide +kernel
theorem dX4_place_22 : decode cX4_place 22 = .ok (.invokespecial 98, 3) := by decide +kernel
theorem dX4_place_25 : decode cX4_place 25 = .ok (.athrow, 1) := by decide +kernel
theorem dX4_place_26 : decode cX4_place 26 = .ok (.aload_n 0, 1) := by decide +kernel
theorem dX4_place_27 : decode cX4_place 27 = .ok (.getfield 32, 3) := by decide +kernel
theorem dX4_place_30 : decode cX4_place 30 = .ok (.iload_n 1, 1) := by decide +kernel
theorem dX4_place_31 : decode cX4_place 31 = .ok (.iconst 1, 1) := by decide +kernel
theorem dX4_place_32 : decode cX4_place 32 = .ok (.iload_n 2, 1) := by decide +kernel
theorem dX4_place_33 : decode cX4_place 33 = .ok (.invokevirtual 99, 3) := by decide +kernel
theorem dX4_place_36 : decode cX4_place 36 = .ok (.istore_n 3, 1) := by decide +kernel
theorem dX4_place_37 : decode cX4_place 37 = .ok (.iload_n 3, 1) := by decide +kernel
theorem dX4_place_38 : decode cX4_place 38 = .ok (.ifCond .eq 7, 3) := by decide +kernel
theorem dX4_place_41 : decode cX4_place 41 = .ok (.iload_n 3, 1) := by decide +kernel
theorem dX4_place_42 : decode cX4_place 42 = .ok (.goto 13, 3) := by decide +kernel
theorem dX4_place_45 : decode cX4_place 45 = .ok (.aload_n 0, 1) := by decide +kernel
theorem dX4_place_46 : decode cX4_place 46 = .ok (.getfield 32, 3) := by decide +kernel
theorem dX4_place_49 : decode cX4_place 49 = .ok (.iload_n 1, 1) := by decide +kernel
theorem dX4_place_50 : decode cX4_place 50 = .ok (.iconst 2, 1) := by decide +kernel
theorem dX4_place_51 : decode cX4_place 51 = .ok (.iload_n 2, 1) := by decide +kernel
theorem dX4_place_52 : decode cX4_place 52 = .ok (.invokevirtual 99, 3) := by decide +kernel
theorem dX4_place_55 : decode cX4_place 55 = .ok (.ireturn, 1) := by decide +kernel
theorem dX4_cold_0 : decode cX4_cold 0 = .ok (.aload_n 0, 1) := by decide +kernel
theorem dX4_cold_1 : decode cX4_cold 1 = .ok (.getfield 25, 3) := by decide +kernel
theorem dX4_cold_4 : decode cX4_cold 4 = .ok (.iload_n 1, 1) := by decide +kernel
theorem dX4_cold_5 : decode cX4_cold 5 = .ok (.invokevirtual 53, 3) := by decide +kernel
theorem dX4_cold_8 : decode cX4_cold 8 = .ok (.ifCond .ne 5, 3) := by decide +kernel
theorem dX4_cold_11 : decode cX4_cold 11 = .ok (.iconst (-1), 1) := by decide +kernel
theorem dX4_cold_12 : decode cX4_cold 12 = .ok (.ireturn, 1) := by decide +kernel
theorem dX4_cold_13 : decode cX4_cold 13 = .ok (.aload_n 0, 1) := by decide +kernel
theorem dX4_cold_14 : decode cX4_cold 14 = .ok (.getfield 25, 3) := by decide +kernel
theorem dX4_cold_17 : decode cX4_cold 17 = .ok (.iload_n 1, 1) := by decide +kernel
theorem dX4_cold_18 : decode cX4_cold 18 = .ok (.iload_n 2, 1) := by decide +kernel
theorem dX4_cold_19 : decode cX4_cold 19 = .ok (.invokevirtual 102, 3) := by decide +kernel
theorem dX4_cold_22 : decode cX4_cold 22 = .ok (.aload_n 0, 1) := by decide +kernel
theorem dX4_cold_23 : decode cX4_cold 23 = .ok (.getfield 25, 3) := by decide +kernel
theorem dX4_cold_26 : decode cX4_cold 26 = .ok (.invokevirtual 106, 3) := by decide +kernel
theorem dX4_cold_29 : decode cX4_cold 29 = .ok (.ireturn, 1) := by decide +kernel
theorem dX4_flip_0 : decode cX4_flip 0 = .ok (.iload_n 1, 1) := by decide +kernel
theorem dX4_flip_1 : decode cX4_flip 1 = .ok (.iconst 1, 1) := by decide +kernel
theorem dX4_flip_2 : decode cX4_flip 2 = .ok (.iconst 2, 1) := by decide +kernel
theorem dX4_flip_3 : decode cX4_flip 3 = .ok (.invokestatic 7, 3) := by decide +kernel
theorem dX4_flip_6 : decode cX4_flip 6 = .ok (.ifCond .eq 11, 3) := by decide +kernel
theorem dX4_flip_9 : decode cX4_flip 9 = .ok (.aload_n 0, 1) := by decide +kernel
theorem dX4_flip_10 : decode cX4_flip 10 = .ok (.iload_n 2, 1) := by decide +kernel
theorem dX4_flip_11 : decode cX4_flip 11 = .ok (.invokevirtual 57, 3) := by decide +kernel
theorem dX4_flip_14 : decode cX4_flip 14 = .ok (.ifCond .ne 5, 3) := by decide +kernel
theorem dX4_flip_17 : decode cX4_flip 17 = .ok (.iconst (-1), 1) := by decide +kernel
theorem dX4_flip_18 : decode cX4_flip 18 = .ok (.ireturn, 1) := by decide +kernel
theorem dX4_flip_19 : decode cX4_flip 19 = .ok (.aload_n 0, 1) := by decide +kernel
theorem dX4_flip_20 : decode cX4_flip 20 = .ok (.getfield 46, 3) := by decide +kernel
theorem dX4_flip_23 : decode cX4_flip 23 = .ok (.iload_n 1, 1) := by decide +kernel
theorem dX4_flip_24 : decode cX4_flip 24 = .ok (.iload_n 2, 1) := by decide +kernel
theorem dX4_flip_25 : decode cX4_flip 25 = .ok (.invokevirtual 109, 3) := by decide +kernel
theorem dX4_flip_28 : decode cX4_flip 28 = .ok (.ifCond .eq 6, 3) := by decide +kernel
theorem dX4_flip_31 : decode cX4_flip 31 = .ok (.bipush (-3), 2) := by decide +kernel
theorem dX4_flip_33 : decode cX4_flip 33 = .ok (.ireturn, 1) := by decide +kernel
theorem dX4_flip_34 : decode cX4_flip 34 = .ok (.aload_n 0, 1) := by decide +kernel
theorem dX4_flip_35 : decode cX4_flip 35 = .ok (.getfield 46, 3) := by decide +kernel
theorem dX4_flip_38 : decode cX4_flip 38 = .ok (.iload_n 1, 1) := by decide +kernel
theorem dX4_flip_39 : decode cX4_flip 39 = .ok (.iload_n 2, 1) := by decide +kernel
theorem dX4_flip_40 : decode cX4_flip 40 = .ok (.invokevirtual 112, 3) := by decide +kernel
theorem dX4_flip_43 : decode cX4_flip 43 = .ok (.ireturn, 1) := by decide +kernel
theorem dX4_close_0 : decode cX4_close 0 = .ok (.aload_n 0, 1) := by decide +kernel
theorem dX4_close_1 : decode cX4_close 1 = .ok (.getfield 25, 3) := by decide +kernel
theorem dX4_close_4 : decode cX4_close 4 = .ok (.iload_n 1, 1) := by decide +kernel
theorem dX4_close_5 : decode cX4_close 5 = .ok (.invokevirtual 115, 3) := by decide +kernel
theorem dX4_close_8 : decode cX4_close 8 = .ok (.ireturn, 1) := by decide +kernel
theorem dX4_midpoint_0 : decode cX4_midpoint 0 = .ok (.aload_n 0, 1) := by decide +kernel
theorem dX4_midpoint_1 : decode cX4_midpoint 1 = .ok (.getfield 25, 3) := by decide +kernel
theorem dX4_midpoint_4 : decode cX4_midpoint 4 = .ok (.iload_n 1, 1) := by decide +kernel
theorem dX4_midpoint_5 : decode cX4_midpoint 5 = .ok (.invokevirtual 53, 3) := by decide +kernel
theorem dX4_midpoint_8 : decode cX4_midpoint 8 = .ok (.ifCond .eq 15, 3) := by decide +kernel
theorem dX4_midpoint_11 : decode cX4_midpoint 11 = .ok (.aload_n 0, 1) := by decide +kernel
theorem dX4_midpoint_12 : decode cX4_midpoint 12 = .ok (.getfield 25, 3) := by decide +kernel
theorem dX4_midpoint_15 : decode cX4_midpoint 15 = .ok (.getfield 118, 3) := by decide +kernel
theorem dX4_midpoint_18 : decode cX4_midpoint 18 = .ok (.iload_n 1, 1) := by decide +kernel
theorem dX4_midpoint_19 : decode cX4_midpoint 19 = .ok (.iaload, 1) := by decide +kernel
theorem dX4_midpoint_20 : decode cX4_midpoint 20 = .ok (.goto 4, 3) := by decide +kernel
theorem dX4_midpoint_23 : decode cX4_midpoint 23 = .ok (.iconst 0, 1) := by decide +kernel
theorem dX4_midpoint_24 : decode cX4_midpoint 24 = .ok (.ireturn, 1) := by decide +kernel
theorem dX4_within_0 : decode cX4_within 0 = .ok (.iload_n 0, 1) := by decide +kernel
theorem dX4_within_1 : decode cX4_within 1 = .ok (.iload_n 1, 1) := by decide +kernel
theorem dX4_within_2 : decode cX4_within 2 = .ok (.if_icmp .lt 12, 3) := by decide +kernel
theorem dX4_within_5 : decode cX4_within 5 = .ok (.iload_n 0, 1) := by decide +kernel
theorem dX4_within_6 : decode cX4_within 6 = .ok (.iload_n 2, 1) := by decide +kernel
theorem dX4_within_7 : decode cX4_within 7 = .ok (.if_icmp .gt 7, 3) := by decide +kernel
theorem dX4_within_10 : decode cX4_within 10 = .ok (.iconst 1, 1) := by decide +kernel
theorem dX4_within_11 : decode cX4_within 11 = .ok (.goto 4, 3) := by decide +kernel
theorem dX4_within_14 : decode cX4_within 14 = .ok (.iconst 0, 1) := by decide +kernel
theorem dX4_within_15 : decode cX4_within 15 = .ok (.ireturn, 1) := by decide +kernel
theorem dX4_hasSlot_0 : decode cX4_hasSlot 0 = .ok (.iload_n 1, 1) := by decide +kernel
theorem dX4_hasSlot_1 : decode cX4_hasSlot 1 = .ok (.iconst 0, 1) := by decide +kernel
theorem dX4_hasSlot_2 : decode cX4_hasSlot 2 = .ok (.aload_n 0, 1) := by decide +kernel
theorem dX4_hasSlot_3 : decode cX4_hasSlot 3 = .ok (.getfield 13, 3) := by decide +kernel
theorem dX4_hasSlot_6 : decode cX4_hasSlot 6 = .ok (.iconst 1, 1) := by decide +kernel
theorem dX4_hasSlot_7 : decode cX4_hasSlot 7 = .ok (.isub, 1) := by decide +kernel
theorem dX4_hasSlot_8 : decode cX4_hasSlot 8 = .ok (.invokestatic 7, 3) := by decide +kernel
theorem dX4_hasSlot_11 : decode cX4_hasSlot 11 = .ok (.ireturn, 1) := by decide +kernel
theorem dX4_runOne_0 : decode cX4_runOne 0 = .ok (.aload_n 0, 1) := by decide +kernel
theorem dX4_runOne_1 : decode cX4_runOne 1 = .ok (.getfield 25, 3) := by decide +kernel
theorem dX4_runOne_4 : decode cX4_runOne 4 = .ok (.invokevirtual 121, 3) := by decide +kernel
theorem dX4_runOne_7 : decode cX4_runOne 7 = .ok (.aload_n 0, 1) := by decide +kernel
theorem dX4_runOne_8 : decode cX4_runOne 8 = .ok (.getfield 32, 3) := by decide +kernel
theorem dX4_runOne_11 : decode cX4_runOne 11 = .ok (.aload_n 0, 1) := by decide +kernel
theorem dX4_runOne_12 : decode cX4_runOne 12 = .ok (.getfield 50, 3) := by decide +kernel
theorem dX4_runOne_15 : decode cX4_runOne 15 = .ok (.aload_n 0, 1) := by decide +kernel
theorem dX4_runOne_16 : decode cX4_runOne 16 = .ok (.getfield 25, 3) := by decide +kernel
theorem dX4_runOne_19 : decode cX4_runOne 19 = .ok (.aload_n 0, 1) := by decide +kernel
theorem dX4_runOne_20 : decode cX4_runOne 20 = .ok (.getfield 46, 3) := by decide +kernel
theorem dX4_runOne_23 : decode cX4_runOne 23 = .ok (.invokevirtual 124, 3) := by decide +kernel
theorem dX4_runOne_26 : decode cX4_runOne 26 = .ok (.aload_n 0, 1) := by decide +kernel
theorem dX4_runOne_27 : decode cX4_runOne 27 = .ok (.getfield 39, 3) := by decide +kernel
theorem dX4_runOne_30 : decode cX4_runOne 30 = .ok (.aload_n 0, 1) := by decide +kernel
theorem dX4_runOne_31 : decode cX4_runOne 31 = .ok (.getfield 17, 3) := by decide +kernel
theorem dX4_runOne_34 : decode cX4_runOne 34 = .ok (.aload_n 0, 1) := by decide +kernel
theorem dX4_runOne_35 : decode cX4_runOne 35 = .ok (.getfield 25, 3) := by decide +kernel
theorem dX4_runOne_38 : decode cX4_runOne 38 = .ok (.invokevirtual 128, 3) := by decide +kernel
theorem dX4_runOne_41 : decode cX4_runOne 41 = .ok (.iadd, 1) := by decide +kernel
theorem dX4_runOne_42 : decode cX4_runOne 42 = .ok (.istore_n 1, 1) := by decide +kernel
theorem dX4_runOne_43 : decode cX4_runOne 43 = .ok (.aload_n 0, 1) := by decide +kernel
theorem dX4_runOne_44 : decode cX4_runOne 44 = .ok (.getfield 25, 3) := by decide +kernel
theorem dX4_runOne_47 : decode cX4_runOne 47 = .ok (.aload_n 0, 1) := by decide +kernel
theorem dX4_runOne_48 : decode cX4_runOne 48 = .ok (.getfield 50, 3) := by decide +kernel
theorem dX4_runOne_51 : decode cX4_runOne 51 = .ok (.iconst 1, 1) := by decide +kernel
theorem dX4_runOne_52 : decode cX4_runOne 52 = .ok (.iand, 1) := by decide +kernel
theorem dX4_runOne_53 : decode cX4_runOne 53 = .ok (.iconst 1, 1) := by decide +kernel
theorem dX4_runOne_54 : decode cX4_runOne 54 = .ok (.if_icmp .ne 7, 3) := by decide +kernel
theorem dX4_runOne_57 : decode cX4_runOne 57 = .ok (.iconst 1, 1) := by decide +kernel
theorem dX4_runOne_58 : decode cX4_runOne 58 = .ok (.goto 4, 3) := by decide +kernel
theorem dX4_runOne_61 : decode cX4_runOne 61 = .ok (.iconst 0, 1) := by decide +kernel
theorem dX4_runOne_62 : decode cX4_runOne 62 = .ok (.invokevirtual 131, 3) := by decide +kernel
theorem dX4_runOne_65 : decode cX4_runOne 65 = .ok (.aload_n 0, 1) := by decide +kernel
theorem dX4_runOne_66 : decode cX4_runOne 66 = .ok (.getfield 25, 3) := by decide +kernel
theorem dX4_runOne_69 : decode cX4_runOne 69 = .ok (.invokevirtual 135, 3) := by decide +kernel
theorem dX4_runOne_72 : decode cX4_runOne 72 = .ok (.aload_n 0, 1) := by decide +kernel
theorem dX4_runOne_73 : decode cX4_runOne 73 = .ok (.getfield 46, 3) := by decide +kernel
theorem dX4_runOne_76 : decode cX4_runOne 76 = .ok (.invokevirtual 138, 3) := by decide +kernel
theorem dX4_runOne_79 : decode cX4_runOne 79 = .ok (.aload_n 0, 1) := by decide +kernel
theorem dX4_runOne_80 : decode cX4_runOne 80 = .ok (.dup, 1) := by decide +kernel
theorem dX4_runOne_81 : decode cX4_runOne 81 = .ok (.getfield 50, 3) := by decide +kernel
theorem dX4_runOne_84 : decode cX4_runOne 84 = .ok (.iconst 1, 1) := by decide +kernel
theorem dX4_runOne_85 : decode cX4_runOne 85 = .ok (.iadd, 1) := by decide +kernel
theorem dX4_runOne_86 : decode cX4_runOne 86 = .ok (.putfield 50, 3) := by decide +kernel
theorem dX4_runOne_89 : decode cX4_runOne 89 = .ok (.iload_n 1, 1) := by decide +kernel
theorem dX4_runOne_90 : decode cX4_runOne 90 = .ok (.ireturn, 1) := by decide +kernel
theorem dX5_init_0 : decode cX5_init 0 = .ok (.aload_n 0, 1) := by decide +kernel
theorem dX5_init_1 : decode cX5_init 1 = .ok (.invokespecial 1, 3) := by decide +kernel
theorem dX5_init_4 : decode cX5_init 4 = .ok (.aload_n 0, 1) := by decide +kernel
theorem dX5_init_5 : decode cX5_init 5 = .ok (.bipush 17, 2) := by decide +kernel
theorem dX5_init_7 : decode cX5_init 7 = .ok (.newarray .int, 2) := by decide +kernel
theorem dX5_init_9 : decode cX5_init 9 = .ok (.putfield 7, 3) := by decide +kernel
theorem dX5_init_12 : decode cX5_init 12 = .ok (.aload_n 0, 1) := by decide +kernel
theorem dX5_init_13 : decode cX5_init 13 = .ok (.bipush 17, 2) := by decide +kernel
theorem dX5_init_15 : decode cX5_init 15 = .ok (.newarray .boolean, 2) := by decide +kernel
theorem dX5_init_17 : decode cX5_init 17 = .ok (.putfield 13, 3) := by decide +kernel
theorem dX5_init_20 : decode cX5_init 20 = .ok (.aload_n 0, 1) := by decide +kernel
theorem dX5_init_21 : decode cX5_init 21 = .ok (.bipush 17, 2) := by decide +kernel
theorem dX5_init_23 : decode cX5_init 23 = .ok (.newarray .int, 2) := by decide +kernel
theorem dX5_init_25 : decode cX5_init 25 = .ok (.putfield 17, 3) := by decide +kernel
theorem dX5_init_28 : decode cX5_init 28 = .ok (.aload_n 0, 1) := by decide +kernel
theorem dX5_init_29 : decode cX5_init 29 = .ok (.bipush 17, 2) := by decide +kernel
theorem dX5_init_31 : decode cX5_init 31 = .ok (.newarray .int, 2) := by decide +kernel
theorem dX5_init_33 : decode cX5_init 33 = .ok (.putfield 20, 3) := by decide +kernel
theorem dX5_init_36 : decode cX5_init 36 = .ok (.aload_n 0, 1) := by decide +kernel
theorem dX5_init_37 : decode cX5_init 37 = .ok (.bipush 17, 2) := by decide +kernel
theorem dX5_init_39 : decode cX5_init 39 = .ok (.newarray .int, 2) := by decide +kernel
theorem dX5_init_41 : decode cX5_init 41 = .ok (.putfield 23, 3) := by decide +kernel
theorem dX5_init_44 : decode cX5_init 44 = .ok (.aload_n 0, 1) := by decide +kernel
theorem dX5_init_45 : decode cX5_init 45 = .ok (.bipush 17, 2) := by decide +kernel
theorem dX5_init_47 : decode cX5_init 47 = .ok (.newarray .int, 2) := by decide +kernel
theorem dX5_init_49 : decode cX5_init 49 = .ok (.putfield 26, 3) := by decide +kernel
theorem dX5_init_52 : decode cX5_init 52 = .ok (.aload_n 0, 1) := by decide +kernel
theorem dX5_init_53 : decode cX5_init 53 = .ok (.bipush 17, 2) := by decide +kernel
theorem dX5_init_55 : decode cX5_init 55 = .ok (.newarray .int, 2) := by decide +kernel
theorem dX5_init_57 : decode cX5_init 57 = .ok (.putfield 29, 3) := by decide +kernel
theorem dX5_init_60 : decode cX5_init 60 = .ok (.aload_n 0, 1) := by decide +kernel
theorem dX5_init_61 : decode cX5_init 61 = .ok (.bipush 17, 2) := by decide +kernel
theorem dX5_init_63 : decode cX5_init 63 = .ok (.newarray .int, 2) := by decide +kernel
theorem dX5_init_65 : decode cX5_init 65 = .ok (.putfield 32, 3) := by decide +kernel
theorem dX5_init_68 : decode cX5_init 68 = .ok (.aload_n 0, 1) := by decide +kernel
theorem dX5_init_69 : decode cX5_init 69 = .ok (.bipush 17, 2) := by decide +kernel
theorem dX5_init_71 : decode cX5_init 71 = .ok (.newarray .boolean, 2) := by decide +kernel
theorem dX5_init_73 : decode cX5_init 73 = .ok (.putfield 35, 3) := by decide +kernel
theorem dX5_init_76 : decode cX5_init 76 = .ok (.aload_n 0, 1) := by decide +kernel
theorem dX5_init_77 : decode cX5_init 77 = .ok (.bipush 17, 2) := by decide +kernel
theorem dX5_init_79 : decode cX5_init 79 = .ok (.newarray .int, 2) := by decide +kernel
theorem dX5_init_81 : decode cX5_init 81 = .ok (.putfield 38, 3) := by decide +kernel
theorem dX5_init_84 : decode cX5_init 84 = .ok (.aload_n 0, 1) := by decide +kernel
theorem dX5_init_85 : decode cX5_init 85 = .ok (.bipush 17, 2) := by decide +kernel
theorem dX5_init_87 : decode cX5_init 87 = .ok (.newarray .int, 2) := by decide +kernel
theorem dX5_init_89 : decode cX5_init 89 = .ok (.putfield 41, 3) := by decide +kernel
theorem dX5_init_92 : decode cX5_init 92 = .ok (.aload_n 0, 1) := by decide +kernel
theorem dX5_init_93 : decode cX5_init 93 = .ok (.bipush 100, 2) := by decide +kernel
theorem dX5_init_95 : decode cX5_init 95 = .ok (.newarray .int, 2) := by decide +kernel
theorem dX5_init_97 : decode cX5_init 97 = .ok (.putfield 44, 3) := by decide +kernel
theorem dX5_init_100 : decode cX5_init 100 = .ok (.aload_n 0, 1) := by decide +kernel
theorem dX5_init_101 : decode cX5_init 101 = .ok (.bipush 100, 2) := by decide +kernel
theorem dX5_init_103 : decode cX5_init 103 = .ok (.newarray .int, 2) := by decide +kernel
theorem dX5_init_105 : decode cX5_init 105 = .ok (.putfield 47, 3) := by decide +kernel
theorem dX5_init_108 : decode cX5_init 108 = .ok (.aload_n 0, 1) := by decide +kernel
theorem dX5_init_109 : decode cX5_init 109 = .ok (.bipush 100, 2) := by decide +kernel
theorem dX5_init_111 : decode cX5_init 111 = .ok (.newarray .int, 2) := by decide +kernel
theorem dX5_init_113 : decode cX5_init 113 = .ok (.putfield 50, 3) := by decide +kernel
theorem dX5_init_116 : decode cX5_init 116 = .ok (.aload_n 0, 1) := by decide +kernel
theorem dX5_init_117 : decode cX5_init 117 = .ok (.bipush 100, 2) := by decide +kernel
theorem dX5_init_119 : decode cX5_init 119 = .ok (.newarray .int, 2) := by decide +kernel
theorem dX5_init_121 : decode cX5_init 121 = .ok (.putfield 53, 3) := by decide +kernel
theorem dX5_init_124 : decode cX5_init 124 = .ok (.aload_n 0, 1) := by decide +kernel
theorem dX5_init_125 : decode cX5_init 125 = .ok (.bipush 100, 2) := by decide +kernel
theorem dX5_init_127 : decode cX5_init 127 = .ok (.newarray .int, 2) := by decide +kernel
theorem dX5_init_129 : decode cX5_init 129 = .ok (.putfield 56, 3) := by decide +kernel
theorem dX5_init_132 : decode cX5_init 132 = .ok (.aload_n 0, 1) := by decide +kernel
theorem dX5_init_133 : decode cX5_init 133 = .ok (.bipush 100, 2) := by decide +kernel
theorem dX5_init_135 : decode cX5_init 135 = .ok (.newarray .int, 2) := by decide +kernel
theorem dX5_init_137 : decode cX5_init 137 = .ok (.putfield 59, 3) := by decide +kernel
theorem dX5_init_140 : decode cX5_init 140 = .ok (.aload_n 0, 1) := by decide +kernel
theorem dX5_init_141 : decode cX5_init 141 = .ok (.bipush 100, 2) := by decide +kernel
theorem dX5_init_143 : decode cX5_init 143 = .ok (.newarray .int, 2) := by decide +kernel
theorem dX5_init_145 : decode cX5_init 145 = .ok (.putfield 62, 3) := by decide +kernel
theorem dX5_init_148 : decode cX5_init 148 = .ok (.aload_n 0, 1) := by decide +kernel
theorem dX5_init_149 : decode cX5_init 149 = .ok (.bipush 100, 2) := by decide +kernel
theorem dX5_init_151 : decode cX5_init 151 = .ok (.newarray .int, 2) := by decide +kernel
theorem dX5_init_153 : decode cX5_init 153 = .ok (.putfield 65, 3) := by decide +kernel
theorem dX5_init_156 : decode cX5_init 156 = .ok (.aload_n 0, 1) := by decide +kernel
theorem dX5_init_157 : decode cX5_init 157 = .ok (.bipush 60, 2) := by decide +kernel
theorem dX5_init_159 : decode cX5_init 159 = .ok (.newarray .int, 2) := by decide +kernel
theorem dX5_init_161 : decode cX5_init 161 = .ok (.putfield 68, 3) := by decide +kernel
theorem dX5_init_164 : decode cX5_init 164 = .ok (.aload_n 0, 1) := by decide +kernel
theorem dX5_init_165 : decode cX5_init 165 = .ok (.iload_n 1, 1) := by decide +kernel
theorem dX5_init_166 : decode cX5_init 166 = .ok (.iconst 1, 1) := by decide +kernel
theorem dX5_init_167 : decode cX5_init 167 = .ok (.if_icmp .lt 13, 3) := by decide +kernel
theorem dX5_init_170 : decode cX5_init 170 = .ok (.iload_n 1, 1) := by decide +kernel
theorem dX5_init_171 : decode cX5_init 171 = .ok (.bipush 16, 2) := by decide +kernel
theorem dX5_init_173 : decode cX5_init 173 = .ok (.if_icmp .gt 7, 3) := by decide +kernel
theorem dX5_init_176 : decode cX5_init 176 = .ok (.iload_n 1, 1) := by decide +kernel
theorem dX5_init_177 : decode cX5_init 177 = .ok (.goto 4, 3) := by decide +kernel
theorem dX5_init_180 : decode cX5_init 180 = .ok (.iconst 4, 1) := by decide +kernel
theorem dX5_init_181 : decode cX5_init 181 = .ok (.putfield 71, 3) := by decide +kernel
theorem dX5_init_184 : decode cX5_init 184 = .ok (.aload_n 0, 1) := by decide +kernel
theorem dX5_init_185 : decode cX5_init 185 = .ok (.iload_n 2, 1) := by decide +kernel
theorem dX5_init_186 : decode cX5_init 186 = .ok (.iconst 1, 1) := by decide +kernel
theorem dX5_init_187 : decode cX5_init 187 = .ok (.if_icmp .lt 13, 3) := by decide +kernel
theorem dX5_init_190 : decode cX5_init 190 = .ok (.iload_n 2, 1) := by decide +kernel
theorem dX5_init_191 : decode cX5_init 191 = .ok (.bipush 60, 2) := by decide +kernel
theorem dX5_init_193 : decode cX5_init 193 = .ok (.if_icmp .gt 7, 3) := by decide +kernel
theorem dX5_init_196 : decode cX5_init 196 = .ok (.iload_n 2, 1) := by decide +kernel
theorem dX5_init_197 : decode cX5_init 197 = .ok (.goto 5, 3) := by decide +kernel
theorem dX5_init_200 : decode cX5_init 200 = .ok (.bipush 10, 2) := by decide +kernel
theorem dX5_init_202 : decode cX5_init 202 = .ok (.putfield 75, 3) := by decide +kernel
theorem dX5_init_205 : decode cX5_init 205 = .ok (.aload_n 0, 1) := by decide +kernel
theorem dX5_init_206 : decode cX5_init 206 = .ok (.iload_n 3, 1) := by decide +kernel
theorem dX5_init_207 : decode cX5_init 207 = .ok (.ifCond .lt 13, 3) := by decide +kernel
theorem dX5_init_210 : decode cX5_init 210 = .ok (.iload_n 3, 1) := by decide +kernel
theorem dX5_init_211 : decode cX5_init 211 = .ok (.bipush 60, 2) := by decide +kernel
theorem dX5_init_213 : decode cX5_init 213 = .ok (.if_icmp .gt 7, 3) := by decide +kernel
theorem dX5_init_216 : decode cX5_init 216 = .ok (.iload_n 3, 1) := by decide +kernel
theorem dX5_init_217 : decode cX5_init 217 = .ok (.goto 5, 3) := by decide +kernel
theorem dX5_init_220 : decode cX5_init 220 = .ok (.bipush 20, 2) := by decide +kernel
theorem dX5_init_222 : decode cX5_init 222 = .ok (.putfield 78, 3) := by decide +kernel
theorem dX5_init_225 : decode cX5_init 225 = .ok (.iconst 0, 1) := by decide +kernel
theorem dX5_init_226 : decode cX5_init 226 = .ok (.istore 4, 2) := by decide +kernel
theorem dX5_init_228 : decode cX5_init 228 = .ok (.iload 4, 2) := by decide +kernel
theorem dX5_init_230 : decode cX5_init 230 = .ok (.bipush 17, 2) := by decide +kernel
theorem dX5_init_232 : decode cX5_init 232 = .ok (.if_icmp .ge 18, 3) := by decide +kernel
theorem dX5_init_235 : decode cX5_init 235 = .ok (.aload_n 0, 1) := by decide +kernel
theorem dX5_init_236 : decode cX5_init 236 = .ok (.getfield 29, 3) := by decide +kernel
theorem dX5_init_239 : decode cX5_init 239 = .ok (.iload 4, 2) := by decide +kernel
theorem dX5_init_241 : decode cX5_init 241 = .ok (.bipush (-2), 2) := by decide +kernel
theorem dX5_init_243 : decode cX5_init 243 = .ok (.iastore, 1) := by decide +kernel
theorem dX5_init_244 : decode cX5_init 244 = .ok (.iinc 4 1, 3) := by decide +kernel
theorem dX5_init_247 : decode cX5_init 247 = .ok (.goto (-19), 3) := by decide +kernel
theorem dX5_init_250 : decode cX5_init 250 = .ok (.return_, 1) := by decide +kernel
theorem dX5_thrown_0 : decode cX5_thrown 0 = .ok (.aload_n 0, 1) := by decide +kernel
theorem dX5_thrown_1 : decode cX5_thrown 1 = .ok (.getfield 81, 3) := by decide +kernel
theorem dX5_thrown_4 : decode cX5_thrown 4 = .ok (.ireturn, 1) := by decide +kernel
theorem dX5_isNode_0 : decode cX5_isNode 0 = .ok (.iload_n 1, 1) := by decide +kernel
theorem dX5_isNode_1 : decode cX5_isNode 1 = .ok (.iconst 1, 1) := by decide +kernel
theorem dX5_isNode_2 : decode cX5_isNode 2 = .ok (.if_icmp .lt 15, 3) := by decide +kernel
theorem dX5_isNode_5 : decode cX5_isNode 5 = .ok (.iload_n 1, 1) := by decide +kernel
theorem dX5_isNode_6 : decode cX5_isNode 6 = .ok (.aload_n 0, 1) := by decide +kernel
theorem dX5_isNode_7 : decode cX5_isNode 7 = .ok (.getfield 71, 3) := by decide +kernel
theorem dX5_isNode_10 : decode cX5_isNode 10 = .ok (.if_icmp .gt 7, 3) := by decide +kernel
theorem dX5_isNode_13 : decode cX5_isNode 13 = .ok (.iconst 1, 1) := by decide +kernel
theorem dX5_isNode_14 : decode cX5_isNode 14 = .ok (.goto 4, 3) := by decide +kernel
theorem dX5_isNode_17 : decode cX5_isNode 17 = .ok (.iconst 0, 1) := by decide +kernel
theorem dX5_isNode_18 : decode cX5_isNode 18 = .ok (.ireturn, 1) := by decide +kernel
theorem dX5_isSlot_0 : decode cX5_isSlot 0 = .ok (.iload_n 1, 1) := by decide +kernel
theorem dX5_isSlot_1 : decode cX5_isSlot 1 = .ok (.ifCond .lt 15, 3) := by decide +kernel
theorem dX5_isSlot_4 : decode cX5_isSlot 4 = .ok (.iload_n 1, 1) := by decide +kernel
theorem dX5_isSlot_5 : decode cX5_isSlot 5 = .ok (.aload_n 0, 1) := by decide +kernel
theorem dX5_isSlot_6 : decode cX5_isSlot 6 = .ok (.getfield 75, 3) := by decide +kernel
theorem dX5_isSlot_9 : decode cX5_isSlot 9 = .ok (.if_icmp .ge 7, 3) := by decide +kernel
theorem dX5_isSlot_12 : decode cX5_isSlot 12 = .ok (.iconst 1, 1) := by decide +kernel
theorem dX5_isSlot_13 : decode cX5_isSlot 13 = .ok (.goto 4, 3) := by decide +kernel
theorem dX5_isSlot_16 : decode cX5_isSlot 16 = .ok (.iconst 0, 1) := by decide +kernel
theorem dX5_isSlot_17 : decode cX5_isSlot 17 = .ok (.ireturn, 1) := by decide +kernel
theorem dX5_frame_0 : decode cX5_frame 0 = .ok (.aload_n 0, 1) := by decide +kernel
theorem dX5_frame_1 : decode cX5_frame 1 = .ok (.iconst 0, 1) := by decide +kernel
theorem dX5_frame_2 : decode cX5_frame 2 = .ok (.putfield 81, 3) := by decide +kernel
theorem dX5_frame_5 : decode cX5_frame 5 = .ok (.aload_n 0, 1) := by decide +kernel
theorem dX5_frame_6 : decode cX5_frame 6 = .ok (.iload_n 1, 1) := by decide +kernel
theorem dX5_frame_7 : decode cX5_frame 7 = .ok (.invokevirtual 84, 3) := by decide +kernel
theorem dX5_frame_10 : decode cX5_frame 10 = .ok (.ifCond .eq 11, 3) := by decide +kernel
theorem dX5_frame_13 : decode cX5_frame 13 = .ok (.aload_n 0, 1) := by decide +kernel
theorem dX5_frame_14 : decode cX5_frame 14 = .ok (.iload_n 2, 1) := by decide +kernel
theorem dX5_frame_15 : decode cX5_frame 15 = .ok (.invokevirtual 88, 3) := by decide +kernel
theorem dX5_frame_18 : decode cX5_frame 18 = .ok (.ifCond .ne 5, 3) := by decide +kernel
theorem dX5_frame_21 : decode cX5_frame 21 = .ok (.iconst (-1), 1) := by decide +kernel
theorem dX5_frame_22 : decode cX5_frame 22 = .ok (.ireturn, 1) := by decide +kernel
theorem dX5_frame_23 : decode cX5_frame 23 = .ok (.iload 5, 2) := by decide +kernel
theorem dX5_frame_25 : decode cX5_frame 25 = .ok (.iconst 1, 1) := by decide +kernel
theorem dX5_frame_26 : decode cX5_frame 26 = .ok (.if_icmp .eq 43, 3) := by decide +kernel
theorem dX5_frame_29 : decode cX5_frame 29 = .ok (.iload 5, 2) := by decide +kernel
theorem dX5_frame_31 : decode cX5_frame 31 = .ok (.iconst 2, 1) := by decide +kernel
theorem dX5_frame_32 : decode cX5_frame 32 = .ok (.if_icmp .eq 37, 3) := by decide +kernel
theorem dX5_frame_35 : decode cX5_frame 35 = .ok (.iload 5, 2) := by decide +kernel
theorem dX5_frame_37 : decode cX5_frame 37 = .ok (.iconst 4, 1) := by decide +kernel
theorem dX5_frame_38 : decode cX5_frame 38 = .ok (.if_icmp .eq 31, 3) := by decide +kernel
theorem dX5_frame_41 : decode cX5_frame 41 = .ok (.iload 5, 2) := by decide +kernel
theorem dX5_frame_43 : decode cX5_frame 43 = .ok (.bipush 8, 2) := by decide +kernel
theorem dX5_frame_45 : decode cX5_frame 45 = .ok (.if_icmp .eq 24, 3) := by decide +kernel
theorem dX5_frame_48 : decode cX5_frame 48 = .ok (.iload 5, 2) := by decide +kernel
theorem dX5_frame_50 : decode cX5_frame 50 = .ok (.bipush 16, 2) := by decide +kernel
theorem dX5_frame_52 : decode cX5_frame 52 = .ok (.if_icmp .eq 17, 3) := by decide +kernel
theorem dX5_frame_55 : decode cX5_frame 55 = .ok (.iload 5, 2) := by decide +kernel
theorem dX5_frame_57 : decode cX5_frame 57 = .ok (.bipush 32, 2) := by decide +kernel
theorem dX5_frame_59 : decode cX5_frame 59 = .ok (.if_icmp .eq 10, 3) := by decide +kernel
theorem dX5_frame_62 : decode cX5_frame 62 = .ok (.iload 5, 2) := by decide +kernel
theorem dX5_frame_64 : decode cX5_frame 64 = .ok (.bipush 64, 2) := by decide +kernel
theorem dX5_frame_66 : decode cX5_frame 66 = .ok (.if_icmp .ne 7, 3) := by decide +kernel
theorem dX5_frame_69 : decode cX5_frame 69 = .ok (.iconst 1, 1) := by decide +kernel
theorem dX5_frame_70 : decode cX5_frame 70 = .ok (.goto 4, 3) := by decide +kernel
theorem dX5_frame_73 : decode cX5_frame 73 = .ok (.iconst 0, 1) := by decide +kernel
theorem dX5_frame_74 : decode cX5_frame 74 = .ok (.istore 6, 2) := by decide +kernel
theorem dX5_frame_76 : decode cX5_frame 76 = .ok (.iload_n 3, 1) := by decide +kernel
theorem dX5_frame_77 : decode cX5_frame 77 = .ok (.iconst 1, 1) := by decide +kernel
theorem dX5_frame_78 : decode cX5_frame 78 = .ok (.if_icmp .lt 25, 3) := by decide +kernel
theorem dX5_frame_81 : decode cX5_frame 81 = .ok (.iload_n 3, 1) := by decide +kernel
theorem dX5_frame_82 : decode cX5_frame 82 = .ok (.iconst 3, 1) := by decide +kernel
theorem dX5_frame_83 : decode cX5_frame 83 = .ok (.if_icmp .gt 20, 3) := by decide +kernel
theorem dX5_frame_86 : decode cX5_frame 86 = .ok (.iload 6, 2) := by decide +kernel
theorem dX5_frame_88 : decode cX5_frame 88 = .ok (.ifCond .eq 15, 3) := by decide +kernel
theorem dX5_frame_91 : decode cX5_frame 91 = .ok (.iload 4, 2) := by decide +kernel
theorem dX5_frame_93 : decode cX5_frame 93 = .ok (.ifCond .lt 10, 3) := by decide +kernel
theorem dX5_frame_96 : decode cX5_frame 96 = .ok (.iload 4, 2) := by decide +kernel
theorem dX5_frame_98 : decode cX5_frame 98 = .ok (.iload 5, 2) := by decide +kernel
theorem dX5_frame_100 : decode cX5_frame 100 = .ok (.if_icmp .lt 6, 3) := by decide +kernel
theorem dX5_frame_103 : decode cX5_frame 103 = .ok (.bipush (-2), 2) := by decide +kernel
theorem dX5_frame_105 : decode cX5_frame 105 = .ok (.ireturn, 1) := by decide +kernel
theorem dX5_frame_106 : decode cX5_frame 106 = .ok (.iconst 0, 1) := by decide +kernel
theorem dX5_frame_107 : decode cX5_frame 107 = .ok (.istore 7, 2) := by decide +kernel
theorem dX5_frame_109 : decode cX5_frame 109 = .ok (.iload 7, 2) := by decide +kernel
theorem dX5_frame_111 : decode cX5_frame 111 = .ok (.aload_n 0, 1) := by decide +kernel
theorem dX5_frame_112 : decode cX5_frame 112 = .ok (.getfield 91, 3) := by decide +kernel
theorem dX5_frame_115 : decode cX5_frame 115 = .ok (.if_icmp .ge 79, 3) := by decide +kernel
theorem dX5_frame_118 : decode cX5_frame 118 = .ok (.iload 5, 2) := by decide +kernel
theorem dX5_frame_120 : decode cX5_frame 120 = .ok (.aload_n 0, 1) := by decide +kernel
theorem dX5_frame_121 : decode cX5_frame 121 = .ok (.getfield 56, 3) := by decide +kernel
theorem dX5_frame_124 : decode cX5_frame 124 = .ok (.iload 7, 2) := by decide +kernel
theorem dX5_frame_126 : decode cX5_frame 126 = .ok (.iaload, 1) := by decide +kernel
theorem dX5_frame_127 : decode cX5_frame 127 = .ok (.if_icmp .ge 8, 3) := by decide +kernel
theorem dX5_frame_130 : decode cX5_frame 130 = .ok (.iload 5, 2) := by decide +kernel
theorem dX5_frame_132 : decode cX5_frame 132 = .ok (.goto 10, 3) := by decide +kernel
theorem dX5_frame_135 : decode cX5_frame 135 = .ok (.aload_n 0, 1) := by decide +kernel
theorem dX5_frame_136 : decode cX5_frame 136 = .ok (.getfield 56, 3) := by decide +kernel
theorem dX5_frame_139 : decode cX5_frame 139 = .ok (.iload 7, 2) := by decide +kernel
theorem dX5_frame_141 : decode cX5_frame 141 = .ok (.iaload, 1) := by decide +kernel
theorem dX5_frame_142 : decode cX5_frame 142 = .ok (.istore 8, 2) := by decide +kernel
theorem dX5_frame_144 : decode cX5_frame 144 = .ok (.aload_n 0, 1) := by decide +kernel
theorem dX5_frame_145 : decode cX5_frame 145 = .ok (.getfield 47, 3) := by decide +kernel
theorem dX5_frame_148 : decode cX5_frame 148 = .ok (.iload 7, 2) := by decide +kernel
theorem dX5_frame_150 : decode cX5_frame 150 = .ok (.iaload, 1) := by decide +kernel
theorem dX5_frame_151 : decode cX5_frame 151 = .ok (.iload_n 2, 1) := by decide +kernel
theorem dX5_frame_152 : decode cX5_frame 152 = .ok (.if_icmp .ne 36, 3) := by decide +kernel
theorem dX5_frame_155 : decode cX5_frame 155 = .ok (.aload_n 0, 1) := by decide +kernel
theorem dX5_frame_156 : decode cX5_frame 156 = .ok (.getfield 50, 3) := by decide +kernel
theorem dX5_frame_159 : decode cX5_frame 159 = .ok (.iload 7, 2) := by decide +kernel
theorem dX5_frame_161 : decode cX5_frame 161 = .ok (.iaload, 1) := by decide +kernel
theorem dX5_frame_162 : decode cX5_frame 162 = .ok (.iload_n 3, 1) := by decide +kernel
theorem dX5_frame_163 : decode cX5_frame 163 = .ok (.iand, 1) := by decide +kernel
theorem dX5_frame_164 : decode cX5_frame 164 = .ok (.ifCond .eq 24, 3) := by decide +kernel
theorem dX5_frame_167 : decode cX5_frame 167 = .ok (.iload 4, 2) := by decide +kernel
theorem dX5_frame_169 : decode cX5_frame 169 = .ok (.iload 8, 2) := by decide +kernel
theorem dX5_frame_171 : decode cX5_frame 171 = .ok (.irem, 1) := by decide +kernel
theorem dX5_frame_172 : decode cX5_frame 172 = .ok (.aload_n 0, 1) := by decide +kernel
theorem dX5_frame_173 : decode cX5_frame 173 = .ok (.getfield 53, 3) := by decide +kernel
theorem dX5_frame_176 : decode cX5_frame 176 = .ok (.iload 7, 2) := by decide +kernel
theorem dX5_frame_178 : decode cX5_frame 178 = .ok (.iaload, 1) := by decide +kernel
theorem dX5_frame_179 : decode cX5_frame 179 = .ok (.iload 8, 2) := by decide +kernel
theorem dX5_frame_181 : decode cX5_frame 181 = .ok (.irem, 1) := by decide +kernel
theorem dX5_frame_182 : decode cX5_frame 182 = .ok (.if_icmp .ne 6, 3) := by decide +kernel
theorem dX5_frame_185 : decode cX5_frame 185 = .ok (.bipush (-3), 2) := by decide +kernel
theorem dX5_frame_187 : decode cX5_frame 187 = .ok (.ireturn, 1) := by decide +kernel
theorem dX5_frame_188 : decode cX5_frame 188 = .ok (.iinc 7 1, 3) := by decide +kernel
theorem dX5_frame_191 : decode cX5_frame 191 = .ok (.goto (-82), 3) := by decide +kernel
theorem dX5_frame_194 : decode cX5_frame 194 = .ok (.aload_n 0, 1) := by decide +kernel
theorem dX5_frame_195 : decode cX5_frame 195 = .ok (.getfield 91, 3) := by decide +kernel
theorem dX5_frame_198 : decode cX5_frame 198 = .ok (.bipush 100, 2) := by decide +kernel
theorem dX5_frame_200 : decode cX5_frame 200 = .ok (.if_icmp .ne 6, 3) := by decide +kernel
theorem dX5_frame_203 : decode cX5_frame 203 = .ok (.bipush (-4), 2) := by decide +kernel
theorem dX5_frame_205 : decode cX5_frame 205 = .ok (.ireturn, 1) := by decide +kernel
theorem dX5_frame_206 : decode cX5_frame 206 = .ok (.aload_n 0, 1) := by decide +kernel
theorem dX5_frame_207 : decode cX5_frame 207 = .ok (.getfield 44, 3) := by decide +kernel
theorem dX5_frame_210 : decode cX5_frame 210 = .ok (.aload_n 0, 1) := by decide +kernel
theorem dX5_frame_211 : decode cX5_frame 211 = .ok (.getfield 91, 3) := by decide +kernel
theorem dX5_frame_214 : decode cX5_frame 214 = .ok (.iload_n 1, 1) := by decide +kernel
theorem dX5_frame_215 : decode cX5_frame 215 = .ok (.iastore, 1) := by decide +kernel
theorem dX5_frame_216 : decode cX5_frame 216 = .ok (.aload_n 0, 1) := by decide +kernel
theorem dX5_frame_217 : decode cX5_frame 217 = .ok (.getfield 47, 3) := by decide +kernel
theorem dX5_frame_220 : decode cX5_frame 220 = .ok (.aload_n 0, 1) := by decide +kernel
theorem dX5_frame_221 : decode cX5_frame 221 = .ok (.getfield 91, 3) := by decide +kernel
theorem dX5_frame_224 : decode cX5_frame 224 = .ok (.iload_n 2, 1) := by decide +kernel
theorem dX5_frame_225 : decode cX5_frame 225 = .ok (.iastore, 1) := by decide +kernel
theorem dX5_frame_226 : decode cX5_frame 226 = .ok (.aload_n 0, 1) := by decide +kernel
theorem dX5_frame_227 : decode cX5_frame 227 = .ok (.getfield 50, 3) := by decide +kernel
theorem dX5_frame_230 : decode cX5_frame 230 = .ok (.aload_n 0, 1) := by decide +kernel
theorem dX5_frame_231 : decode cX5_frame 231 = .ok (.getfield 91, 3) := by decide +kernel
theorem dX5_frame_234 : decode cX5_frame 234 = .ok (.iload_n 3, 1) := by decide +kernel
theorem dX5_frame_235 : decode cX5_frame 235 = .ok (.iastore, 1) := by decide +kernel
theorem dX5_frame_236 : decode cX5_frame 236 = .ok (.aload_n 0, 1) := by decide +kernel
theorem dX5_frame_237 : decode cX5_frame 237 = .ok (.getfield 53, 3) := by decide +kernel
theorem dX5_frame_240 : decode cX5_frame 240 = .ok (.aload_n 0, 1) := by decide +kernel
theorem dX5_frame_241 : decode cX5_frame 241 = .ok (.getfield 91, 3) := by decide +kernel
theorem dX5_frame_244 : decode cX5_frame 244 = .ok (.iload 4, 2) := by decide +kernel
theorem dX5_frame_246 : decode cX5_frame 246 = .ok (.iastore, 1) := by decide +kernel
theorem dX5_frame_247 : decode cX5_frame 247 = .ok (.aload_n 0, 1) := by decide +kernel
theorem dX5_frame_248 : decode cX5_frame 248 = .ok (.getfield 56, 3) := by decide +kernel
theorem dX5_frame_251 : decode cX5_frame 251 = .ok (.aload_n 0, 1) := by decide +kernel
theorem dX5_frame_252 : decode cX5_frame 252 = .ok (.getfield 91, 3) := by decide +kernel
theorem dX5_frame_255 : decode cX5_frame 255 = .ok (.iload 5, 2) := by decide +kernel
theorem dX5_frame_257 : decode cX5_frame 257 = .ok (.iastore, 1) := by decide +kernel
theorem dX5_frame_258 : decode cX5_frame 258 = .ok (.aload_n 0, 1) := by decide +kernel
theorem dX5_frame_259 : decode cX5_frame 259 = .ok (.dup, 1) := by decide +kernel
theorem dX5_frame_260 : decode cX5_frame 260 = .ok (.getfield 91, 3) := by decide +kernel
theorem dX5_frame_263 : decode cX5_frame 263 = .ok (.iconst 1, 1) := by decide +kernel
theorem dX5_frame_264 : decode cX5_frame 264 = .ok (.iadd, 1) := by decide +kernel
theorem dX5_frame_265 : decode cX5_frame 265 = .ok (.putfield 91, 3) := by decide +kernel
theorem dX5_frame_268 : decode cX5_frame 268 = .ok (.aload_n 0, 1) := by decide +kernel
theorem dX5_frame_269 : decode cX5_frame 269 = .ok (.getfield 91, 3) := by decide +kernel
theorem dX5_frame_272 : decode cX5_frame 272 = .ok (.ireturn, 1) := by decide +kernel
theorem dX5_dynamic_0 : decode cX5_dynamic 0 = .ok (.aload_n 0, 1) := by decide +kernel
theorem dX5_dynamic_1 : decode cX5_dynamic 1 = .ok (.iconst 0, 1) := by decide +kernel
theorem dX5_dynamic_2 : decode cX5_dynamic 2 = .ok (.putfield 81, 3) := by decide +kernel
theorem dX5_dynamic_5 : decode cX5_dynamic 5 = .ok (.aload_n 0, 1) := by decide +kernel
theorem dX5_dynamic_6 : decode cX5_dynamic 6 = .ok (.iload_n 1, 1) := by decide +kernel
theorem dX5_dynamic_7 : decode cX5_dynamic 7 = .ok (.invokevirtual 84, 3) := by decide +kernel
theorem dX5_dynamic_10 : decode cX5_dynamic 10 = .ok (.ifCond .ne 5, 3) := by decide +kernel
theorem dX5_dynamic_13 : decode cX5_dynamic 13 = .ok (.iconst (-1), 1) := by decide +kernel
theorem dX5_dynamic_14 : decode cX5_dynamic 14 = .ok (.ireturn, 1) := by decide +kernel
theorem dX5_dynamic_15 : decode cX5_dynamic 15 = .ok (.iload_n 2, 1) := by decide +kernel
theorem dX5_dynamic_16 : decode cX5_dynamic 16 = .ok (.iconst 1, 1) := by decide +kernel
theorem dX5_dynamic_17 : decode cX5_dynamic 17 = .ok (.if_icmp .lt 20, 3) := by decide +kernel
theorem dX5_dynamic_20 : decode cX5_dynamic 20 = .ok (.iload_n 2, 1) := by decide +kernel
theorem dX5_dynamic_21 : decode cX5_dynamic 21 = .ok (.bipush 60, 2) := by decide +kernel
theorem dX5_dynamic_23 : decode cX5_dynamic 23 = .ok (.if_icmp .gt 14, 3) := by decide +kernel
theorem dX5_dynamic_26 : decode cX5_dynamic 26 = .ok (.iload_n 3, 1) := by decide +kernel
theorem dX5_dynamic_27 : decode cX5_dynamic 27 = .ok (.iconst 1, 1) := by decide +kernel
theorem dX5_dynamic_28 : decode cX5_dynamic 28 = .ok (.if_icmp .lt 9, 3) := by decide +kernel
theorem dX5_dynamic_31 : decode cX5_dynamic 31 = .ok (.iload_n 3, 1) := by decide +kernel
theorem dX5_dynamic_32 : decode cX5_dynamic 32 = .ok (.bipush 60, 2) := by decide +kernel
theorem dX5_dynamic_34 : decode cX5_dynamic 34 = .ok (.if_icmp .le 6, 3) := by decide +kernel
theorem dX5_dynamic_37 : decode cX5_dynamic 37 = .ok (.bipush (-2), 2) := by decide +kernel
theorem dX5_dynamic_39 : decode cX5_dynamic 39 = .ok (.ireturn, 1) := by decide +kernel
theorem dX5_dynamic_40 : decode cX5_dynamic 40 = .ok (.aload_n 0, 1) := by decide +kernel
theorem dX5_dynamic_41 : decode cX5_dynamic 41 = .ok (.getfield 94, 3) := by decide +kernel
theorem dX5_dynamic_44 : decode cX5_dynamic 44 = .ok (.bipush 100, 2) := by decide +kernel
theorem dX5_dynamic_46 : decode cX5_dynamic 46 = .ok (.if_icmp .ne 6, 3) := by decide +kernel
theorem dX5_dynamic_49 : decode cX5_dynamic 49 = .ok (.bipush (-4), 2) := by decide +kernel
theorem dX5_dynamic_51 : decode cX5_dynamic 51 = .ok (.ireturn, 1) := by decide +kernel
theorem dX5_dynamic_52 : decode cX5_dynamic 52 = .ok (.aload_n 0, 1) := by decide +kernel
theorem dX5_dynamic_53 : decode cX5_dynamic 53 = .ok (.getfield 59, 3) := by decide +kernel
theorem dX5_dynamic_56 : decode cX5_dynamic 56 = .ok (.aload_n 0, 1) := by decide +kernel
theorem dX5_dynamic_57 : decode cX5_dynamic 57 = .ok (.getfield 94, 3) := by decide +kernel
theorem dX5_dynamic_60 : decode cX5_dynamic 60 = .ok (.iload_n 1, 1) := by decide +kernel
theorem dX5_dynamic_61 : decode cX5_dynamic 61 = .ok (.iastore, 1) := by decide +kernel
theorem dX5_dynamic_62 : decode cX5_dynamic 62 = .ok (.aload_n 0, 1) := by decide +kernel
theorem dX5_dynamic_63 : decode cX5_dynamic 63 = .ok (.getfield 62, 3) := by decide +kernel
theorem dX5_dynamic_66 : decode cX5_dynamic 66 = .ok (.aload_n 0, 1) := by decide +kernel
theorem dX5_dynamic_67 : decode cX5_dynamic 67 = .ok (.getfield 94, 3) := by decide +kernel
theorem dX5_dynamic_70 : decode cX5_dynamic 70 = .ok (.iload_n 2, 1) := by decide +kernel
theorem dX5_dynamic_71 : decode cX5_dynamic 71 = .ok (.iastore, 1) := by decide +kernel
theorem dX5_dynamic_72 : decode cX5_dynamic 72 = .ok (.aload_n 0, 1) := by decide +kernel
theorem dX5_dynamic_73 : decode cX5_dynamic 73 = .ok (.getfield 65, 3) := by decide +kernel
theorem dX5_dynamic_76 : decode cX5_dynamic 76 = .ok (.aload_n 0, 1) := by decide +kernel
theorem dX5_dynamic_77 : decode cX5_dynamic 77 = .ok (.getfield 94, 3) := by decide +kernel
theorem dX5_dynamic_80 : decode cX5_dynamic 80 = .ok (.iload_n 3, 1) := by decide +kernel
theorem dX5_dynamic_81 : decode cX5_dynamic 81 = .ok (.iastore, 1) := by decide +kernel
theorem dX5_dynamic_82 : decode cX5_dynamic 82 = .ok (.aload_n 0, 1) := by decide +kernel
theorem dX5_dynamic_83 : decode cX5_dynamic 83 = .ok (.dup, 1) := by decide +kernel
theorem dX5_dynamic_84 : decode cX5_dynamic 84 = .ok (.getfield 94, 3) := by decide +kernel
theorem dX5_dynamic_87 : decode cX5_dynamic 87 = .ok (.iconst 1, 1) := by decide +kernel
theorem dX5_dynamic_88 : decode cX5_dynamic 88 = .ok (.iadd, 1) := by decide +kernel
theorem dX5_dynamic_89 : decode cX5_dynamic 89 = .ok (.putfield 94, 3) := by decide +kernel
theorem dX5_dynamic_92 : decode cX5_dynamic 92 = .ok (.aload_n 0, 1) := by decide +kernel
theorem dX5_dynamic_93 : decode cX5_dynamic 93 = .ok (.getfield 94, 3) := by decide +kernel
theorem dX5_dynamic_96 : decode cX5_dynamic 96 = .ok (.ireturn, 1) := by decide +kernel
theorem dX5_drift_0 : decode cX5_drift 0 = .ok (.aload_n 0, 1) := by decide +kernel
theorem dX5_drift_1 : decode cX5_drift 1 = .ok (.iconst 0, 1) := by decide +kernel
theorem dX5_drift_2 : decode cX5_drift 2 = .ok (.putfield 81, 3) := by decide +kernel
theorem dX5_drift_5 : decode cX5_drift 5 = .ok (.aload_n 0, 1) := by decide +kernel
theorem dX5_drift_6 : decode cX5_drift 6 = .ok (.iload_n 1, 1) := by decide +kernel
theorem dX5_drift_7 : decode cX5_drift 7 = .ok (.invokevirtual 84, 3) := by decide +kernel
theorem dX5_drift_10 : decode cX5_drift 10 = .ok (.ifCond .ne 5, 3) := by decide +kernel
theorem dX5_drift_13 : decode cX5_drift 13 = .ok (.iconst (-1), 1) := by decide +kernel
theorem dX5_drift_14 : decode cX5_drift 14 = .ok (.ireturn, 1) := by decide +kernel
theorem dX5_drift_15 : decode cX5_drift 15 = .ok (.iload_n 2, 1) := by decide +kernel
theorem dX5_drift_16 : decode cX5_drift 16 = .ok (.sipush (-200), 3) := by decide +kernel
theorem dX5_drift_19 : decode cX5_drift 19 = .ok (.if_icmp .lt 10, 3) := by decide +kernel
theorem dX5_drift_22 : decode cX5_drift 22 = .ok (.iload_n 2, 1) := by decide +kernel
theorem dX5_drift_23 : decode cX5_drift 23 = .ok (.sipush 200, 3) := by decide +kernel
theorem dX5_drift_26 : decode cX5_drift 26 = .ok (.if_icmp .le 6, 3) := by decide +kernel
theorem dX5_drift_29 : decode cX5_drift 29 = .ok (.bipush (-2), 2) := by decide +kernel
theorem dX5_drift_31 : decode cX5_drift 31 = .ok (.ireturn, 1) := by decide +kernel
theorem dX5_drift_32 : decode cX5_drift 32 = .ok (.aload_n 0, 1) := by decide +kernel
theorem dX5_drift_33 : decode cX5_drift 33 = .ok (.getfield 20, 3) := by decide +kernel
theorem dX5_drift_36 : decode cX5_drift 36 = .ok (.iload_n 1, 1) := by decide +kernel
theorem dX5_drift_37 : decode cX5_drift 37 = .ok (.iload_n 2, 1) := by decide +kernel
theorem dX5_drift_38 : decode cX5_drift 38 = .ok (.iastore, 1) := by decide +kernel
theorem dX5_drift_39 : decode cX5_drift 39 = .ok (.iconst 1, 1) := by decide +kernel
theorem dX5_drift_40 : decode cX5_drift 40 = .ok (.ireturn, 1) := by decide +kernel
theorem dX5_startUp_0 : decode cX5_startUp 0 = .ok (.iconst 0, 1) := by decide +kernel
theorem dX5_startUp_1 : decode cX5_startUp 1 = .ok (.istore_n 1, 1) := by decide +kernel
theorem dX5_startUp_2 : decode cX5_startUp 2 = .ok (.iconst 0, 1) := by decide +kernel
theorem dX5_startUp_3 : decode cX5_startUp 3 = .ok (.istore_n 2, 1) := by decide +kernel
theorem dX5_startUp_4 : decode cX5_startUp 4 = .ok (.aload_n 0, 1) := by decide +kernel
theorem dX5_startUp_5 : decode cX5_startUp 5 = .ok (.getfield 71, 3) := by decide +kernel
theorem dX5_startUp_8 : decode cX5_startUp 8 = .ok (.istore_n 3, 1) := by decide +kernel
theorem dX5_startUp_9 : decode cX5_startUp 9 = .ok (.iload_n 3, 1) := by decide +kernel
theorem dX5_startUp_10 : decode cX5_startUp 10 = .ok (.ifCond .le 52, 3) := by decide +kernel
theorem dX5_startUp_13 : decode cX5_startUp 13 = .ok (.aload_n 0, 1) := by decide +kernel
theorem dX5_startUp_14 : decode cX5_startUp 14 = .ok (.getfield 7, 3) := by decide +kernel
theorem dX5_startUp_17 : decode cX5_startUp 17 = .ok (.iload_n 3, 1) := by decide +kernel
theorem dX5_startUp_18 : decode cX5_startUp 18 = .ok (.iaload, 1) := by decide +kernel
theorem dX5_startUp_19 : decode cX5_startUp 19 = .ok (.iconst 2, 1) := by decide +kernel
theorem dX5_startUp_20 : decode cX5_startUp 20 = .ok (.if_icmp .ne 7, 3) := by decide +kernel
theorem dX5_startUp_23 : decode cX5_startUp 23 = .ok (.iload_n 3, 1) := by decide +kernel
theorem dX5_startUp_24 : decode cX5_startUp 24 = .ok (.goto 4, 3) := by decide +kernel
theorem dX5_startUp_27 : decode cX5_startUp 27 = .ok (.iload_n 1, 1) := by decide +kernel
theorem dX5_startUp_28 : decode cX5_startUp 28 = .ok (.istore_n 1, 1) := by decide +kernel
theorem dX5_startUp_29 : decode cX5_startUp 29 = .ok (.iload_n 2, 1) := by decide +kernel
theorem dX5_startUp_30 : decode cX5_startUp 30 = .ok (.aload_n 0, 1) := by decide +kernel
theorem dX5_startUp_31 : decode cX5_startUp 31 = .ok (.getfield 13, 3) := by decide +kernel
theorem dX5_startUp_34 : decode cX5_startUp 34 = .ok (.iload_n 3, 1) := by decide +kernel
theorem dX5_startUp_35 : decode cX5_startUp 35 = .ok (.baload, 1) := by decide +kernel
theorem dX5_startUp_36 : decode cX5_startUp 36 = .ok (.ifCond .eq 17, 3) := by decide +kernel
theorem dX5_startUp_39 : decode cX5_startUp 39 = .ok (.aload_n 0, 1) := by decide +kernel
theorem dX5_startUp_40 : decode cX5_startUp 40 = .ok (.getfield 7, 3) := by decide +kernel
theorem dX5_startUp_43 : decode cX5_startUp 43 = .ok (.iload_n 3, 1) := by decide +kernel
theorem dX5_startUp_44 : decode cX5_startUp 44 = .ok (.iaload, 1) := by decide +kernel
theorem dX5_startUp_45 : decode cX5_startUp 45 = .ok (.iconst 2, 1) := by decide +kernel
theorem dX5_startUp_46 : decode cX5_startUp 46 = .ok (.if_icmp .ge 7, 3) := by decide +kernel
theorem dX5_startUp_49 : decode cX5_startUp 49 = .ok (.iconst 1, 1) := by decide +kernel
theorem dX5_startUp_50 : decode cX5_startUp 50 = .ok (.goto 4, 3) := by decide +kernel
theorem dX5_startUp_53 : decode cX5_startUp 53 = .ok (.iconst 0, 1) := by decide +kernel
theorem dX5_startUp_54 : decode cX5_startUp 54 = .ok (.iadd, 1) := by decide +kernel
theorem dX5_startUp_55 : decode cX5_startUp 55 = .ok (.istore_n 2, 1) := by decide +kernel
theorem dX5_startUp_56 : decode cX5_startUp 56 = .ok (.iinc 3 (-1), 3) := by decide +kernel
theorem dX5_startUp_59 : decode cX5_startUp 59 = .ok (.goto (-50), 3) := by decide +kernel
theorem dX5_startUp_62 : decode cX5_startUp 62 = .ok (.aload_n 0, 1) := by decide +kernel
theorem dX5_startUp_63 : decode cX5_startUp 63 = .ok (.getfield 17, 3) := by decide +kernel
theorem dX5_startUp_66 : decode cX5_startUp 66 = .ok (.iload_n 1, 1) := by decide +kernel
theorem dX5_startUp_67 : decode cX5_startUp 67 = .ok (.iaload, 1) := by decide +kernel
theorem dX5_startUp_68 : decode cX5_startUp 68 = .ok (.istore_n 3, 1) := by decide +kernel
theorem dX5_startUp_69 : decode cX5_startUp 69 = .ok (.iconst 1, 1) := by decide +kernel
theorem dX5_startUp_70 : decode cX5_startUp 70 = .ok (.istore 4, 2) := by decide +kernel
theorem dX5_startUp_72 : decode cX5_startUp 72 = .ok (.iload 4, 2) := by decide +kernel
theorem dX5_startUp_74 : decode cX5_startUp 74 = .ok (.aload_n 0, 1) := by decide +kernel
theorem dX5_startUp_75 : decode cX5_startUp 75 = .ok (.getfield 71, 3) := by decide +kernel
theorem dX5_startUp_78 : decode cX5_startUp 78 = .ok (.if_icmp .gt 138, 3) := by decide +kernel
theorem dX5_startUp_81 : decode cX5_startUp 81 = .ok (.iload_n 1, 1) := by decide +kernel
theorem dX5_startUp_82 : decode cX5_startUp 82 = .ok (.ifCond .ne 50, 3) := by decide +kernel
theorem dX5_startUp_85 : decode cX5_startUp 85 = .ok (.aload_n 0, 1) := by decide +kernel
theorem dX5_startUp_86 : decode cX5_startUp 86 = .ok (.getfield 7, 3) := by decide +kernel
theorem dX5_startUp_89 : decode cX5_startUp 89 = .ok (.iload 4, 2) := by decide +kernel
theorem dX5_startUp_91 : decode cX5_startUp 91 = .ok (.iload_n 2, 1) := by decide +kernel
theorem dX5_startUp_92 : decode cX5_startUp 92 = .ok (.iconst 1, 1) := by decide +kernel
theorem dX5_startUp_93 : decode cX5_startUp 93 = .ok (.if_icmp .le 28, 3) := by decide +kernel
theorem dX5_startUp_96 : decode cX5_startUp 96 = .ok (.aload_n 0, 1) := by decide +kernel
theorem dX5_startUp_97 : decode cX5_startUp 97 = .ok (.getfield 13, 3) := by decide +kernel
theorem dX5_startUp_100 : decode cX5_startUp 100 = .ok (.iload 4, 2) := by decide +kernel
theorem dX5_startUp_102 : decode cX5_startUp 102 = .ok (.baload, 1) := by decide +kernel
theorem dX5_startUp_103 : decode cX5_startUp 103 = .ok (.ifCond .eq 18, 3) := by decide +kernel
theorem dX5_startUp_106 : decode cX5_startUp 106 = .ok (.aload_n 0, 1) := by decide +kernel
theorem dX5_startUp_107 : decode cX5_startUp 107 = .ok (.getfield 7, 3) := by decide +kernel
theorem dX5_startUp_110 : decode cX5_startUp 110 = .ok (.iload 4, 2) := by decide +kernel
theorem dX5_startUp_112 : decode cX5_startUp 112 = .ok (.iaload, 1) := by decide +kernel
theorem dX5_startUp_113 : decode cX5_startUp 113 = .ok (.iconst 2, 1) := by decide +kernel
theorem dX5_startUp_114 : decode cX5_startUp 114 = .ok (.if_icmp .ge 7, 3) := by decide +kernel
theorem dX5_startUp_117 : decode cX5_startUp 117 = .ok (.iconst 2, 1) := by decide +kernel
theorem dX5_startUp_118 : decode cX5_startUp 118 = .ok (.goto 10, 3) := by decide +kernel
theorem dX5_startUp_121 : decode cX5_startUp 121 = .ok (.aload_n 0, 1) := by decide +kernel
theorem dX5_startUp_122 : decode cX5_startUp 122 = .ok (.getfield 7, 3) := by decide +kernel
theorem dX5_startUp_125 : decode cX5_startUp 125 = .ok (.iload 4, 2) := by decide +kernel
theorem dX5_startUp_127 : decode cX5_startUp 127 = .ok (.iaload, 1) := by decide +kernel
theorem dX5_startUp_128 : decode cX5_startUp 128 = .ok (.iastore, 1) := by decide +kernel
theorem dX5_startUp_129 : decode cX5_startUp 129 = .ok (.goto 81, 3) := by decide +kernel
theorem dX5_startUp_132 : decode cX5_startUp 132 = .ok (.aload_n 0, 1) := by decide +kernel
theorem dX5_startUp_133 : decode cX5_startUp 133 = .ok (.getfield 7, 3) := by decide +kernel
theorem dX5_startUp_136 : decode cX5_startUp 136 = .ok (.iload 4, 2) := by decide +kernel
theorem dX5_startUp_138 : decode cX5_startUp 138 = .ok (.iaload, 1) := by decide +kernel
theorem dX5_startUp_139 : decode cX5_startUp 139 = .ok (.ifCond .ne 22, 3) := by decide +kernel
theorem dX5_startUp_142 : decode cX5_startUp 142 = .ok (.aload_n 0, 1) := by decide +kernel
theorem dX5_startUp_143 : decode cX5_startUp 143 = .ok (.getfield 7, 3) := by decide +kernel
theorem dX5_startUp_146 : decode cX5_startUp 146 = .ok (.iload 4, 2) := by decide +kernel
theorem dX5_startUp_148 : decode cX5_startUp 148 = .ok (.iconst 1, 1) := by decide +kernel
theorem dX5_startUp_149 : decode cX5_startUp 149 = .ok (.iastore, 1) := by decide +kernel
theorem dX5_startUp_150 : decode cX5_startUp 150 = .ok (.aload_n 0, 1) := by decide +kernel
theorem dX5_startUp_151 : decode cX5_startUp 151 = .ok (.getfield 32, 3) := by decide +kernel
theorem dX5_startUp_154 : decode cX5_startUp 154 = .ok (.iload 4, 2) := by decide +kernel
theorem dX5_startUp_156 : decode cX5_startUp 156 = .ok (.iconst 0, 1) := by decide +kernel
theorem dX5_startUp_157 : decode cX5_startUp 157 = .ok (.iastore, 1) := by decide +kernel
theorem dX5_startUp_158 : decode cX5_startUp 158 = .ok (.goto 52, 3) := by decide +kernel
theorem dX5_startUp_161 : decode cX5_startUp 161 = .ok (.aload_n 0, 1) := by decide +kernel
theorem dX5_startUp_162 : decode cX5_startUp 162 = .ok (.getfield 7, 3) := by decide +kernel
theorem dX5_startUp_165 : decode cX5_startUp 165 = .ok (.iload 4, 2) := by decide +kernel
theorem dX5_startUp_167 : decode cX5_startUp 167 = .ok (.iaload, 1) := by decide +kernel
theorem dX5_startUp_168 : decode cX5_startUp 168 = .ok (.iconst 1, 1) := by decide +kernel
theorem dX5_startUp_169 : decode cX5_startUp 169 = .ok (.if_icmp .ne 41, 3) := by decide +kernel
theorem dX5_startUp_172 : decode cX5_startUp 172 = .ok (.aload_n 0, 1) := by decide +kernel
theorem dX5_startUp_173 : decode cX5_startUp 173 = .ok (.getfield 32, 3) := by decide +kernel
theorem dX5_startUp_176 : decode cX5_startUp 176 = .ok (.iload 4, 2) := by decide +kernel
theorem dX5_startUp_178 : decode cX5_startUp 178 = .ok (.dup2, 1) := by decide +kernel
theorem dX5_startUp_179 : decode cX5_startUp 179 = .ok (.iaload, 1) := by decide +kernel
theorem dX5_startUp_180 : decode cX5_startUp 180 = .ok (.iconst 1, 1) := by decide +kernel
theorem dX5_startUp_181 : decode cX5_startUp 181 = .ok (.iadd, 1) := by decide +kernel
theorem dX5_startUp_182 : decode cX5_startUp 182 = .ok (.iastore, 1) := by decide +kernel
theorem dX5_startUp_183 : decode cX5_startUp 183 = .ok (.aload_n 0, 1) := by decide +kernel
theorem dX5_startUp_184 : decode cX5_startUp 184 = .ok (.getfield 32, 3) := by decide +kernel
theorem dX5_startUp_187 : decode cX5_startUp 187 = .ok (.iload 4, 2) := by decide +kernel
theorem dX5_startUp_189 : decode cX5_startUp 189 = .ok (.iaload, 1) := by decide +kernel
theorem dX5_startUp_190 : decode cX5_startUp 190 = .ok (.iconst 2, 1) := by decide +kernel
theorem dX5_startUp_191 : decode cX5_startUp 191 = .ok (.if_icmp .ne 19, 3) := by decide +kernel
theorem dX5_startUp_194 : decode cX5_startUp 194 = .ok (.aload_n 0, 1) := by decide +kernel
theorem dX5_startUp_195 : decode cX5_startUp 195 = .ok (.getfield 7, 3) := by decide +kernel
theorem dX5_startUp_198 : decode cX5_startUp 198 = .ok (.iload 4, 2) := by decide +kernel
theorem dX5_startUp_200 : decode cX5_startUp 200 = .ok (.iconst 2, 1) := by decide +kernel
theorem dX5_startUp_201 : decode cX5_startUp 201 = .ok (.iastore, 1) := by decide +kernel
theorem dX5_startUp_202 : decode cX5_startUp 202 = .ok (.aload_n 0, 1) := by decide +kernel
theorem dX5_startUp_203 : decode cX5_startUp 203 = .ok (.getfield 17, 3) := by decide +kernel
theorem dX5_startUp_206 : decode cX5_startUp 206 = .ok (.iload 4, 2) := by decide +kernel
theorem dX5_startUp_208 : decode cX5_startUp 208 = .ok (.iload_n 3, 1) := by decide +kernel
theorem dX5_startUp_209 : decode cX5_startUp 209 = .ok (.iastore, 1) := by decide +kernel
theorem dX5_startUp_210 : decode cX5_startUp 210 = .ok (.iinc 4 1, 3) := by decide +kernel
theorem dX5_startUp_213 : decode cX5_startUp 213 = .ok (.goto (-141), 3) := by decide +kernel
theorem dX5_startUp_216 : decode cX5_startUp 216 = .ok (.return_, 1) := by decide +kernel
theorem dX5_sendStatic_0 : decode cX5_sendStatic 0 = .ok (.iconst 0, 1) := by decide +kernel
theorem dX5_sendStatic_1 : decode cX5_sendStatic 1 = .ok (.istore_n 1, 1) := by decide +kernel
theorem dX5_sendStatic_2 : decode cX5_sendStatic 2 = .ok (.iconst 1, 1) := by decide +kernel
theorem dX5_sendStatic_3 : decode cX5_sendStatic 3 = .ok (.istore_n 2, 1) := by decide +kernel
theorem dX5_sendStatic_4 : decode cX5_sendStatic 4 = .ok (.iload_n 2, 1) := by decide +kernel
theorem dX5_sendStatic_5 : decode cX5_sendStatic 5 = .ok (.aload_n 0, 1) := by decide +kernel
theorem dX5_sendStatic_6 : decode cX5_sendStatic 6 = .ok (.getfield 71, 3) := by decide +kernel
theorem dX5_sendStatic_9 : decode cX5_sendStatic 9 = .ok (.if_icmp .gt 16, 3) := by decide +kernel
theorem dX5_sendStatic_12 : decode cX5_sendStatic 12 = .ok (.aload_n 0, 1) := by decide +kernel
theorem dX5_sendStatic_13 : decode cX5_sendStatic 13 = .ok (.getfield 35, 3) := by decide +kernel
theorem dX5_sendStatic_16 : decode cX5_sendStatic 16 = .ok (.iload_n 2, 1) := by decide +kernel
theorem dX5_sendStatic_17 : decode cX5_sendStatic 17 = .ok (.iconst 0, 1) := by decide +kernel
theorem dX5_sendStatic_18 : decode cX5_sendStatic 18 = .ok (.bastore, 1) := by decide +kernel
theorem dX5_sendStatic_19 : decode cX5_sendStatic 19 = .ok (.iinc 2 1, 3) := by decide +kernel
theorem dX5_sendStatic_22 : decode cX5_sendStatic 22 = .ok (.goto (-18), 3) := by decide +kernel
theorem dX5_sendStatic_25 : decode cX5_sendStatic 25 = .ok (.iconst 0, 1) := by decide +kernel
theorem dX5_sendStatic_26 : decode cX5_sendStatic 26 = .ok (.istore_n 2, 1) := by decide +kernel
theorem dX5_sendStatic_27 : decode cX5_sendStatic 27 = .ok (.iload_n 2, 1) := by decide +kernel
theorem dX5_sendStatic_28 : decode cX5_sendStatic 28 = .ok (.aload_n 0, 1) := by decide +kernel
theorem dX5_sendStatic_29 : decode cX5_sendStatic 29 = .ok (.getfield 91, 3) := by decide +kernel
theorem dX5_sendStatic_32 : decode cX5_sendStatic 32 = .ok (.if_icmp .ge 91, 3) := by decide +kernel
theorem dX5_sendStatic_35 : decode cX5_sendStatic 35 = .ok (.aload_n 0, 1) := by decide +kernel
theorem dX5_sendStatic_36 : decode cX5_sendStatic 36 = .ok (.getfield 44, 3) := by decide +kernel
theorem dX5_sendStatic_39 : decode cX5_sendStatic 39 = .ok (.iload_n 2, 1) := by decide +kernel
theorem dX5_sendStatic_40 : decode cX5_sendStatic 40 = .ok (.iaload, 1) := by decide +kernel
theorem dX5_sendStatic_41 : decode cX5_sendStatic 41 = .ok (.istore_n 3, 1) := by decide +kernel
theorem dX5_sendStatic_42 : decode cX5_sendStatic 42 = .ok (.aload_n 0, 1) := by decide +kernel
theorem dX5_sendStatic_43 : decode cX5_sendStatic 43 = .ok (.getfield 7, 3) := by decide +kernel
theorem dX5_sendStatic_46 : decode cX5_sendStatic 46 = .ok (.iload_n 3, 1) := by decide +kernel
theorem dX5_sendStatic_47 : decode cX5_sendStatic 47 = .ok (.iaload, 1) := by decide +kernel
theorem dX5_sendStatic_48 : decode cX5_sendStatic 48 = .ok (.iconst 2, 1) := by decide +kernel
theorem dX5_sendStatic_49 : decode cX5_sendStatic 49 = .ok (.if_icmp .ne 27, 3) := by decide +kernel
theorem dX5_sendStatic_52 : decode cX5_sendStatic 52 = .ok (.aload_n 0, 1) := by decide +kernel
theorem dX5_sendStatic_53 : decode cX5_sendStatic 53 = .ok (.getfield 97, 3) := by decide +kernel
theorem dX5_sendStatic_56 : decode cX5_sendStatic 56 = .ok (.aload_n 0, 1) := by decide +kernel
theorem dX5_sendStatic_57 : decode cX5_sendStatic 57 = .ok (.getfield 56, 3) := by decide +kernel
theorem dX5_sendStatic_60 : decode cX5_sendStatic 60 = .ok (.iload_n 2, 1) := by decide +kernel
theorem dX5_sendStatic_61 : decode cX5_sendStatic 61 = .ok (.iaload, 1) := by decide +kernel
theorem dX5_sendStatic_62 : decode cX5_sendStatic 62 = .ok (.irem, 1) := by decide +kernel
theorem dX5_sendStatic_63 : decode cX5_sendStatic 63 = .ok (.aload_n 0, 1) := by decide +kernel
theorem dX5_sendStatic_64 : decode cX5_sendStatic 64 = .ok (.getfield 53, 3) := by decide +kernel
theorem dX5_sendStatic_67 : decode cX5_sendStatic 67 = .ok (.iload_n 2, 1) := by decide +kernel
theorem dX5_sendStatic_68 : decode cX5_sendStatic 68 = .ok (.iaload, 1) := by decide +kernel
theorem dX5_sendStatic_69 : decode cX5_sendStatic 69 = .ok (.if_icmp .ne 7, 3) := by decide +kernel
theorem dX5_sendStatic_72 : decode cX5_sendStatic 72 = .ok (.iconst 1, 1) := by decide +kernel
theorem dX5_sendStatic_73 : decode cX5_sendStatic 73 = .ok (.goto 4, 3) := by decide +kernel
theorem dX5_sendStatic_76 : decode cX5_sendStatic 76 = .ok (.iconst 0, 1) := by decide +kernel
theorem dX5_sendStatic_77 : decode cX5_sendStatic 77 = .ok (.istore 4, 2) := by decide +kernel
theorem dX5_sendStatic_79 : decode cX5_sendStatic 79 = .ok (.iload 4, 2) := by decide +kernel
theorem dX5_sendStatic_81 : decode cX5_sendStatic 81 = .ok (.ifCond .eq 36, 3) := by decide +kernel
theorem dX5_sendStatic_84 : decode cX5_sendStatic 84 = .ok (.aload_n 0, 1) := by decide +kernel
theorem dX5_sendStatic_85 : decode cX5_sendStatic 85 = .ok (.getfield 50, 3) := by decide +kernel
theorem dX5_sendStatic_88 : decode cX5_sendStatic 88 = .ok (.iload_n 2, 1) := by decide +kernel
theorem dX5_sendStatic_89 : decode cX5_sendStatic 89 = .ok (.iaload, 1) := by decide +kernel
theorem dX5_sendStatic_90 : decode cX5_sendStatic 90 = .ok (.aload_n 0, 1) := by decide +kernel
theorem dX5_sendStatic_91 : decode cX5_sendStatic 91 = .ok (.getfield 68, 3) := by decide +kernel
theorem dX5_sendStatic_94 : decode cX5_sendStatic 94 = .ok (.aload_n 0, 1) := by decide +kernel
theorem dX5_sendStatic_95 : decode cX5_sendStatic 95 = .ok (.getfield 47, 3) := by decide +kernel
theorem dX5_sendStatic_98 : decode cX5_sendStatic 98 = .ok (.iload_n 2, 1) := by decide +kernel
theorem dX5_sendStatic_99 : decode cX5_sendStatic 99 = .ok (.iaload, 1) := by decide +kernel
theorem dX5_sendStatic_100 : decode cX5_sendStatic 100 = .ok (.iaload, 1) := by decide +kernel
theorem dX5_sendStatic_101 : decode cX5_sendStatic 101 = .ok (.iconst (-1), 1) := by decide +kernel
theorem dX5_sendStatic_102 : decode cX5_sendStatic 102 = .ok (.ixor, 1) := by decide +kernel
theorem dX5_sendStatic_103 : decode cX5_sendStatic 103 = .ok (.iand, 1) := by decide +kernel
theorem dX5_sendStatic_104 : decode cX5_sendStatic 104 = .ok (.ifCond .eq 13, 3) := by decide +kernel
theorem dX5_sendStatic_107 : decode cX5_sendStatic 107 = .ok (.aload_n 0, 1) := by decide +kernel
theorem dX5_sendStatic_108 : decode cX5_sendStatic 108 = .ok (.getfield 35, 3) := by decide +kernel
theorem dX5_sendStatic_111 : decode cX5_sendStatic 111 = .ok (.iload_n 3, 1) := by decide +kernel
theorem dX5_sendStatic_112 : decode cX5_sendStatic 112 = .ok (.iconst 1, 1) := by decide +kernel
theorem dX5_sendStatic_113 : decode cX5_sendStatic 113 = .ok (.bastore, 1) := by decide +kernel
theorem dX5_sendStatic_114 : decode cX5_sendStatic 114 = .ok (.iinc 1 1, 3) := by decide +kernel
theorem dX5_sendStatic_117 : decode cX5_sendStatic 117 = .ok (.iinc 2 1, 3) := by decide +kernel
theorem dX5_sendStatic_120 : decode cX5_sendStatic 120 = .ok (.goto (-93), 3) := by decide +kernel
theorem dX5_sendStatic_123 : decode cX5_sendStatic 123 = .ok (.iload_n 1, 1) := by decide +kernel
theorem dX5_sendStatic_124 : decode cX5_sendStatic 124 = .ok (.ireturn, 1) := by decide +kernel
theorem dX5_waitingOne_0 : decode cX5_waitingOne 0 = .ok (.iconst 0, 1) := by decide +kernel
theorem dX5_waitingOne_1 : decode cX5_waitingOne 1 = .ok (.istore_n 2, 1) := by decide +kernel
theorem dX5_waitingOne_2 : decode cX5_waitingOne 2 = .ok (.iload_n 2, 1) := by decide +kernel
theorem dX5_waitingOne_3 : decode cX5_waitingOne 3 = .ok (.aload_n 0, 1) := by decide +kernel
theorem dX5_waitingOne_4 : decode cX5_waitingOne 4 = .ok (.getfield 94, 3) := by decide +kernel
theorem dX5_waitingOne_7 : decode cX5_waitingOne 7 = .ok (.if_icmp .ge 34, 3) := by decide +kernel
theorem dX5_waitingOne_10 : decode cX5_waitingOne 10 = .ok (.aload_n 0, 1) := by decide +kernel
theorem dX5_waitingOne_11 : decode cX5_waitingOne 11 = .ok (.getfield 62, 3) := by decide +kernel
theorem dX5_waitingOne_14 : decode cX5_waitingOne 14 = .ok (.iload_n 2, 1) := by decide +kernel
theorem dX5_waitingOne_15 : decode cX5_waitingOne 15 = .ok (.iaload, 1) := by decide +kernel
theorem dX5_waitingOne_16 : decode cX5_waitingOne 16 = .ok (.iload_n 1, 1) := by decide +kernel
theorem dX5_waitingOne_17 : decode cX5_waitingOne 17 = .ok (.if_icmp .ne 18, 3) := by decide +kernel
theorem dX5_waitingOne_20 : decode cX5_waitingOne 20 = .ok (.aload_n 0, 1) := by decide +kernel
theorem dX5_waitingOne_21 : decode cX5_waitingOne 21 = .ok (.getfield 7, 3) := by decide +kernel
theorem dX5_waitingOne_24 : decode cX5_waitingOne 24 = .ok (.aload_n 0, 1) := by decide +kernel
theorem dX5_waitingOne_25 : decode cX5_waitingOne 25 = .ok (.getfield 59, 3) := by decide +kernel
theorem dX5_waitingOne_28 : decode cX5_waitingOne 28 = .ok (.iload_n 2, 1) := by decide +kernel
theorem dX5_waitingOne_29 : decode cX5_waitingOne 29 = .ok (.iaload, 1) := by decide +kernel
theorem dX5_waitingOne_30 : decode cX5_waitingOne 30 = .ok (.iaload, 1) := by decide +kernel
theorem dX5_waitingOne_31 : decode cX5_waitingOne 31 = .ok (.iconst 2, 1) := by decide +kernel
theorem dX5_waitingOne_32 : decode cX5_waitingOne 32 = .ok (.if_icmp .eq 9, 3) := by decide +kernel
theorem dX5_waitingOne_35 : decode cX5_waitingOne 35 = .ok (.iinc 2 1, 3) := by decide +kernel
theorem dX5_waitingOne_38 : decode cX5_waitingOne 38 = .ok (.goto (-36), 3) := by decide +kernel
theorem dX5_waitingOne_41 : decode cX5_waitingOne 41 = .ok (.iload_n 2, 1) := by decide +kernel
theorem dX5_waitingOne_42 : decode cX5_waitingOne 42 = .ok (.aload_n 0, 1) := by decide +kernel
theorem dX5_waitingOne_43 : decode cX5_waitingOne 43 = .ok (.getfield 94, 3) := by decide +kernel
theorem dX5_waitingOne_46 : decode cX5_waitingOne 46 = .ok (.if_icmp .ge 7, 3) := by decide +kernel
theorem dX5_waitingOne_49 : decode cX5_waitingOne 49 = .ok (.iload_n 2, 1) := by decide +kernel
theorem dX5_waitingOne_50 : decode cX5_waitingOne 50 = .ok (.goto 4, 3) := by decide +kernel
theorem dX5_waitingOne_53 : decode cX5_waitingOne 53 = .ok (.iconst (-1), 1) := by decide +kernel
theorem dX5_waitingOne_54 : decode cX5_waitingOne 54 = .ok (.ireturn, 1) := by decide +kernel
theorem dX5_sendDynamic_0 : decode cX5_sendDynamic 0 = .ok (.iconst 0, 1) := by decide +kernel
theorem dX5_sendDynamic_1 : decode cX5_sendDynamic 1 = .ok (.istore_n 1, 1) := by decide +kernel
theorem dX5_sendDynamic_2 : decode cX5_sendDynamic 2 = .ok (.iconst 1, 1) := by decide +kernel
theorem dX5_sendDynamic_3 : decode cX5_sendDynamic 3 = .ok (.istore_n 2, 1) := by decide +kernel
theorem dX5_sendDynamic_4 : decode cX5_sendDynamic 4 = .ok (.iconst 1, 1) := by decide +kernel
theorem dX5_sendDynamic_5 : decode cX5_sendDynamic 5 = .ok (.istore_n 3, 1) := by decide +kernel
theorem dX5_sendDynamic_6 : decode cX5_sendDynamic 6 = .ok (.iload_n 2, 1) := by decide +kernel
theorem dX5_sendDynamic_7 : decode cX5_sendDynamic 7 = .ok (.aload_n 0, 1) := by decide +kernel
theorem dX5_sendDynamic_8 : decode cX5_sendDynamic 8 = .ok (.getfield 78, 3) := by decide +kernel
theorem dX5_sendDynamic_11 : decode cX5_sendDynamic 11 = .ok (.if_icmp .gt 135, 3) := by decide +kernel
theorem dX5_sendDynamic_14 : decode cX5_sendDynamic 14 = .ok (.aload_n 0, 1) := by decide +kernel
theorem dX5_sendDynamic_15 : decode cX5_sendDynamic 15 = .ok (.iload_n 3, 1) := by decide +kernel
theorem dX5_sendDynamic_16 : decode cX5_sendDynamic 16 = .ok (.invokevirtual 100, 3) := by decide +kernel
theorem dX5_sendDynamic_19 : decode cX5_sendDynamic 19 = .ok (.istore 4, 2) := by decide +kernel
theorem dX5_sendDynamic_21 : decode cX5_sendDynamic 21 = .ok (.iload 4, 2) := by decide +kernel
theorem dX5_sendDynamic_23 : decode cX5_sendDynamic 23 = .ok (.ifCond .lt 114, 3) := by decide +kernel
theorem dX5_sendDynamic_26 : decode cX5_sendDynamic 26 = .ok (.iload_n 2, 1) := by decide +kernel
theorem dX5_sendDynamic_27 : decode cX5_sendDynamic 27 = .ok (.aload_n 0, 1) := by decide +kernel
theorem dX5_sendDynamic_28 : decode cX5_sendDynamic 28 = .ok (.getfield 65, 3) := by decide +kernel
theorem dX5_sendDynamic_31 : decode cX5_sendDynamic 31 = .ok (.iload 4, 2) := by decide +kernel
theorem dX5_sendDynamic_33 : decode cX5_sendDynamic 33 = .ok (.iaload, 1) := by decide +kernel
theorem dX5_sendDynamic_34 : decode cX5_sendDynamic 34 = .ok (.iadd, 1) := by decide +kernel
theorem dX5_sendDynamic_35 : decode cX5_sendDynamic 35 = .ok (.iconst 1, 1) := by decide +kernel
theorem dX5_sendDynamic_36 : decode cX5_sendDynamic 36 = .ok (.isub, 1) := by decide +kernel
theorem dX5_sendDynamic_37 : decode cX5_sendDynamic 37 = .ok (.aload_n 0, 1) := by decide +kernel
theorem dX5_sendDynamic_38 : decode cX5_sendDynamic 38 = .ok (.getfield 78, 3) := by decide +kernel
theorem dX5_sendDynamic_41 : decode cX5_sendDynamic 41 = .ok (.if_icmp .gt 96, 3) := by decide +kernel
theorem dX5_sendDynamic_44 : decode cX5_sendDynamic 44 = .ok (.iload_n 2, 1) := by decide +kernel
theorem dX5_sendDynamic_45 : decode cX5_sendDynamic 45 = .ok (.aload_n 0, 1) := by decide +kernel
theorem dX5_sendDynamic_46 : decode cX5_sendDynamic 46 = .ok (.getfield 65, 3) := by decide +kernel
theorem dX5_sendDynamic_49 : decode cX5_sendDynamic 49 = .ok (.iload 4, 2) := by decide +kernel
theorem dX5_sendDynamic_51 : decode cX5_sendDynamic 51 = .ok (.iaload, 1) := by decide +kernel
theorem dX5_sendDynamic_52 : decode cX5_sendDynamic 52 = .ok (.iadd, 1) := by decide +kernel
theorem dX5_sendDynamic_53 : decode cX5_sendDynamic 53 = .ok (.istore_n 2, 1) := by decide +kernel
theorem dX5_sendDynamic_54 : decode cX5_sendDynamic 54 = .ok (.iinc 1 1, 3) := by decide +kernel
theorem dX5_sendDynamic_57 : decode cX5_sendDynamic 57 = .ok (.aload_n 0, 1) := by decide +kernel
theorem dX5_sendDynamic_58 : decode cX5_sendDynamic 58 = .ok (.dup, 1) := by decide +kernel
theorem dX5_sendDynamic_59 : decode cX5_sendDynamic 59 = .ok (.getfield 94, 3) := by decide +kernel
theorem dX5_sendDynamic_62 : decode cX5_sendDynamic 62 = .ok (.iconst 1, 1) := by decide +kernel
theorem dX5_sendDynamic_63 : decode cX5_sendDynamic 63 = .ok (.isub, 1) := by decide +kernel
theorem dX5_sendDynamic_64 : decode cX5_sendDynamic 64 = .ok (.putfield 94, 3) := by decide +kernel
theorem dX5_sendDynamic_67 : decode cX5_sendDynamic 67 = .ok (.iload 4, 2) := by decide +kernel
theorem dX5_sendDynamic_69 : decode cX5_sendDynamic 69 = .ok (.istore 5, 2) := by decide +kernel
theorem dX5_sendDynamic_71 : decode cX5_sendDynamic 71 = .ok (.iload 5, 2) := by decide +kernel
theorem dX5_sendDynamic_73 : decode cX5_sendDynamic 73 = .ok (.aload_n 0, 1) := by decide +kernel
theorem dX5_sendDynamic_74 : decode cX5_sendDynamic 74 = .ok (.getfield 94, 3) := by decide +kernel
theorem dX5_sendDynamic_77 : decode cX5_sendDynamic 77 = .ok (.if_icmp .ge 57, 3) := by decide +kernel
theorem dX5_sendDynamic_80 : decode cX5_sendDynamic 80 = .ok (.aload_n 0, 1) := by decide +kernel
theorem dX5_sendDynamic_81 : decode cX5_sendDynamic 81 = .ok (.getfield 59, 3) := by decide +kernel
theorem dX5_sendDynamic_84 : decode cX5_sendDynamic 84 = .ok (.iload 5, 2) := by decide +kernel
theorem dX5_sendDynamic_86 : decode cX5_sendDynamic 86 = .ok (.aload_n 0, 1) := by decide +kernel
theorem dX5_sendDynamic_87 : decode cX5_sendDynamic 87 = .ok (.getfield 59, 3) := by decide +kernel
theorem dX5_sendDynamic_90 : decode cX5_sendDynamic 90 = .ok (.iload 5, 2) := by decide +kernel
theorem dX5_sendDynamic_92 : decode cX5_sendDynamic 92 = .ok (.iconst 1, 1) := by decide +kernel
theorem dX5_sendDynamic_93 : decode cX5_sendDynamic 93 = .ok (.iadd, 1) := by decide +kernel
theorem dX5_sendDynamic_94 : decode cX5_sendDynamic 94 = .ok (.iaload, 1) := by decide +kernel
theorem dX5_sendDynamic_95 : decode cX5_sendDynamic 95 = .ok (.iastore, 1) := by decide +kernel
theorem dX5_sendDynamic_96 : decode cX5_sendDynamic 96 = .ok (.aload_n 0, 1) := by decide +kernel
theorem dX5_sendDynamic_97 : decode cX5_sendDynamic 97 = .ok (.getfield 62, 3) := by decide +kernel
theorem dX5_sendDynamic_100 : decode cX5_sendDynamic 100 = .ok (.iload 5, 2) := by decide +kernel
theorem dX5_sendDynamic_102 : decode cX5_sendDynamic 102 = .ok (.aload_n 0, 1) := by decide +kernel
theorem dX5_sendDynamic_103 : decode cX5_sendDynamic 103 = .ok (.getfield 62, 3) := by decide +kernel
theorem dX5_sendDynamic_106 : decode cX5_sendDynamic 106 = .ok (.iload 5, 2) := by decide +kernel
theorem dX5_sendDynamic_108 : decode cX5_sendDynamic 108 = .ok (.iconst 1, 1) := by decide +kernel
theorem dX5_sendDynamic_109 : decode cX5_sendDynamic 109 = .ok (.iadd, 1) := by decide +kernel
theorem dX5_sendDynamic_110 : decode cX5_sendDynamic 110 = .ok (.iaload, 1) := by decide +kernel
theorem dX5_sendDynamic_111 : decode cX5_sendDynamic 111 = .ok (.iastore, 1) := by decide +kernel
theorem dX5_sendDynamic_112 : decode cX5_sendDynamic 112 = .ok (.aload_n 0, 1) := by decide +kernel
theorem dX5_sendDynamic_113 : decode cX5_sendDynamic 113 = .ok (.getfield 65, 3) := by decide +kernel
theorem dX5_sendDynamic_116 : decode cX5_sendDynamic 116 = .ok (.iload 5, 2) := by decide +kernel
theorem dX5_sendDynamic_118 : decode cX5_sendDynamic 118 = .ok (.aload_n 0, 1) := by decide +kernel
theorem dX5_sendDynamic_119 : decode cX5_sendDynamic 119 = .ok (.getfield 65, 3) := by decide +kernel
theorem dX5_sendDynamic_122 : decode cX5_sendDynamic 122 = .ok (.iload 5, 2) := by decide +kernel
theorem dX5_sendDynamic_124 : decode cX5_sendDynamic 124 = .ok (.iconst 1, 1) := by decide +kernel
theorem dX5_sendDynamic_125 : decode cX5_sendDynamic 125 = .ok (.iadd, 1) := by decide +kernel
theorem dX5_sendDynamic_126 : decode cX5_sendDynamic 126 = .ok (.iaload, 1) := by decide +kernel
theorem dX5_sendDynamic_127 : decode cX5_sendDynamic 127 = .ok (.iastore, 1) := by decide +kernel
theorem dX5_sendDynamic_128 : decode cX5_sendDynamic 128 = .ok (.iinc 5 1, 3) := by decide +kernel
theorem dX5_sendDynamic_131 : decode cX5_sendDynamic 131 = .ok (.goto (-60), 3) := by decide +kernel
theorem dX5_sendDynamic_134 : decode cX5_sendDynamic 134 = .ok (.goto 6, 3) := by decide +kernel
theorem dX5_sendDynamic_137 : decode cX5_sendDynamic 137 = .ok (.iinc 2 1, 3) := by decide +kernel
theorem dX5_sendDynamic_140 : decode cX5_sendDynamic 140 = .ok (.iinc 3 1, 3) := by decide +kernel
theorem dX5_sendDynamic_143 : decode cX5_sendDynamic 143 = .ok (.goto (-137), 3) := by decide +kernel
theorem dX5_sendDynamic_146 : decode cX5_sendDynamic 146 = .ok (.iload_n 1, 1) := by decide +kernel
theorem dX5_sendDynamic_147 : decode cX5_sendDynamic 147 = .ok (.ireturn, 1) := by decide +kernel
theorem dX5_midpointOf_0 : decode cX5_midpointOf 0 = .ok (.iconst 0, 1) := by decide +kernel
theorem dX5_midpointOf_1 : decode cX5_midpointOf 1 = .ok (.istore_n 2, 1) := by decide +kernel
theorem dX5_midpointOf_2 : decode cX5_midpointOf 2 = .ok (.aload_n 0, 1) := by decide +kernel
theorem dX5_midpointOf_3 : decode cX5_midpointOf 3 = .ok (.getfield 41, 3) := by decide +kernel
theorem dX5_midpointOf_6 : decode cX5_midpointOf 6 = .ok (.iload_n 2, 1) := by decide +kernel
theorem dX5_midpointOf_7 : decode cX5_midpointOf 7 = .ok (.iconst 0, 1) := by decide +kernel
theorem dX5_midpointOf_8 : decode cX5_midpointOf 8 = .ok (.iastore, 1) := by decide +kernel
theorem dX5_midpointOf_9 : decode cX5_midpointOf 9 = .ok (.iinc 2 1, 3) := by decide +kernel
theorem dX5_midpointOf_12 : decode cX5_midpointOf 12 = .ok (.iconst 1, 1) := by decide +kernel
theorem dX5_midpointOf_13 : decode cX5_midpointOf 13 = .ok (.istore_n 3, 1) := by decide +kernel
theorem dX5_midpointOf_14 : decode cX5_midpointOf 14 = .ok (.iload_n 3, 1) := by decide +kernel
theorem dX5_midpointOf_15 : decode cX5_midpointOf 15 = .ok (.aload_n 0, 1) := by decide +kernel
theorem dX5_midpointOf_16 : decode cX5_midpointOf 16 = .ok (.getfield 71, 3) := by decide +kernel
theorem dX5_midpointOf_19 : decode cX5_midpointOf 19 = .ok (.if_icmp .gt 55, 3) := by decide +kernel
theorem dX5_midpointOf_22 : decode cX5_midpointOf 22 = .ok (.iload_n 3, 1) := by decide +kernel
theorem dX5_midpointOf_23 : decode cX5_midpointOf 23 = .ok (.iload_n 1, 1) := by decide +kernel
theorem dX5_midpointOf_24 : decode cX5_midpointOf 24 = .ok (.if_icmp .eq 44, 3) := by decide +kernel
theorem dX5_midpointOf_27 : decode cX5_midpointOf 27 = .ok (.aload_n 0, 1) := by decide +kernel
theorem dX5_midpointOf_28 : decode cX5_midpointOf 28 = .ok (.getfield 7, 3) := by decide +kernel
theorem dX5_midpointOf_31 : decode cX5_midpointOf 31 = .ok (.iload_n 3, 1) := by decide +kernel
theorem dX5_midpointOf_32 : decode cX5_midpointOf 32 = .ok (.iaload, 1) := by decide +kernel
theorem dX5_midpointOf_33 : decode cX5_midpointOf 33 = .ok (.iconst 2, 1) := by decide +kernel
theorem dX5_midpointOf_34 : decode cX5_midpointOf 34 = .ok (.if_icmp .ne 34, 3) := by decide +kernel
theorem dX5_midpointOf_37 : decode cX5_midpointOf 37 = .ok (.aload_n 0, 1) := by decide +kernel
theorem dX5_midpointOf_38 : decode cX5_midpointOf 38 = .ok (.getfield 35, 3) := by decide +kernel
theorem dX5_midpointOf_41 : decode cX5_midpointOf 41 = .ok (.iload_n 3, 1) := by decide +kernel
theorem dX5_midpointOf_42 : decode cX5_midpointOf 42 = .ok (.baload, 1) := by decide +kernel
theorem dX5_midpointOf_43 : decode cX5_midpointOf 43 = .ok (.ifCond .eq 25, 3) := by decide +kernel
theorem dX5_midpointOf_46 : decode cX5_midpointOf 46 = .ok (.aload_n 0, 1) := by decide +kernel
theorem dX5_midpointOf_47 : decode cX5_midpointOf 47 = .ok (.getfield 41, 3) := by decide +kernel
theorem dX5_midpointOf_50 : decode cX5_midpointOf 50 = .ok (.iload_n 2, 1) := by decide +kernel
theorem dX5_midpointOf_51 : decode cX5_midpointOf 51 = .ok (.aload_n 0, 1) := by decide +kernel
theorem dX5_midpointOf_52 : decode cX5_midpointOf 52 = .ok (.getfield 17, 3) := by decide +kernel
theorem dX5_midpointOf_55 : decode cX5_midpointOf 55 = .ok (.iload_n 3, 1) := by decide +kernel
theorem dX5_midpointOf_56 : decode cX5_midpointOf 56 = .ok (.iaload, 1) := by decide +kernel
theorem dX5_midpointOf_57 : decode cX5_midpointOf 57 = .ok (.aload_n 0, 1) := by decide +kernel
theorem dX5_midpointOf_58 : decode cX5_midpointOf 58 = .ok (.getfield 17, 3) := by decide +kernel
theorem dX5_midpointOf_61 : decode cX5_midpointOf 61 = .ok (.iload_n 1, 1) := by decide +kernel
theorem dX5_midpointOf_62 : decode cX5_midpointOf 62 = .ok (.iaload, 1) := by decide +kernel
theorem dX5_midpointOf_63 : decode cX5_midpointOf 63 = .ok (.isub, 1) := by decide +kernel
theorem dX5_midpointOf_64 : decode cX5_midpointOf 64 = .ok (.iastore, 1) := by decide +kernel
theorem dX5_midpointOf_65 : decode cX5_midpointOf 65 = .ok (.iinc 2 1, 3) := by decide +kernel
theorem dX5_midpointOf_68 : decode cX5_midpointOf 68 = .ok (.iinc 3 1, 3) := by decide +kernel
theorem dX5_midpointOf_71 : decode cX5_midpointOf 71 = .ok (.goto (-57), 3) := by decide +kernel
theorem dX5_midpointOf_74 : decode cX5_midpointOf 74 = .ok (.iconst 1, 1) := by decide +kernel
theorem dX5_midpointOf_75 : decode cX5_midpointOf 75 = .ok (.istore_n 3, 1) := by decide +kernel
theorem dX5_midpointOf_76 : decode cX5_midpointOf 76 = .ok (.iload_n 3, 1) := by decide +kernel
theorem dX5_midpointOf_77 : decode cX5_midpointOf 77 = .ok (.iload_n 2, 1) := by decide +kernel
theorem dX5_midpointOf_78 : decode cX5_midpointOf 78 = .ok (.if_icmp .ge 78, 3) := by decide +kernel
theorem dX5_midpointOf_81 : decode cX5_midpointOf 81 = .ok (.iload_n 3, 1) := by decide +kernel
theorem dX5_midpointOf_82 : decode cX5_midpointOf 82 = .ok (.istore 4, 2) := by decide +kernel
theorem dX5_midpointOf_84 : decode cX5_midpointOf 84 = .ok (.iload 4, 2) := by decide +kernel
theorem dX5_midpointOf_86 : decode cX5_midpointOf 86 = .ok (.ifCond .le 64, 3) := by decide +kernel
theorem dX5_midpointOf_89 : decode cX5_midpointOf 89 = .ok (.aload_n 0, 1) := by decide +kernel
theorem dX5_midpointOf_90 : decode cX5_midpointOf 90 = .ok (.getfield 41, 3) := by decide +kernel
theorem dX5_midpointOf_93 : decode cX5_midpointOf 93 = .ok (.iload 4, 2) := by decide +kernel
theorem dX5_midpointOf_95 : decode cX5_midpointOf 95 = .ok (.iconst 1, 1) := by decide +kernel
end
section
theorem dX5_midpointOf_96 : decode cX5_midpointOf 96 = .ok (.isub, 1) := by decide +kernel
theorem dX5_midpointOf_97 : decode cX5_midpointOf 97 = .ok (.iaload, 1) := by decide +kernel
theorem dX5_midpointOf_98 : decode cX5_midpointOf 98 = .ok (.aload_n 0, 1) := by decide +kernel
theorem dX5_midpointOf_99 : decode cX5_midpointOf 99 = .ok (.getfield 41, 3) := by decide +kernel
theorem dX5_midpointOf_102 : decode cX5_midpointOf 102 = .ok (.iload 4, 2) := by decide +kernel
theorem dX5_midpointOf_104 : decode cX5_midpointOf 104 = .ok (.iaload, 1) := by decide +kernel
theorem dX5_midpointOf_105 : decode cX5_midpointOf 105 = .ok (.if_icmp .le 45, 3) := by decide +kernel
theorem dX5_midpointOf_108 : decode cX5_midpointOf 108 = .ok (.aload_n 0, 1) := by decide +kernel
theorem dX5_midpointOf_109 : decode cX5_midpointOf 109 = .ok (.getfield 41, 3) := by decide +kernel
theorem dX5_midpointOf_112 : decode cX5_midpointOf 112 = .ok (.iload 4, 2) := by decide +kernel
theorem dX5_midpointOf_114 : decode cX5_midpointOf 114 = .ok (.iaload, 1) := by decide +kernel
theorem dX5_midpointOf_115 : decode cX5_midpointOf 115 = .ok (.istore 5, 2) := by decide +kernel
theorem dX5_midpointOf_117 : decode cX5_midpointOf 117 = .ok (.aload_n 0, 1) := by decide +kernel
theorem dX5_midpointOf_118 : decode cX5_midpointOf 118 = .ok (.getfield 41, 3) := by decide +kernel
theorem dX5_midpointOf_121 : decode cX5_midpointOf 121 = .ok (.iload 4, 2) := by decide +kernel
theorem dX5_midpointOf_123 : decode cX5_midpointOf 123 = .ok (.aload_n 0, 1) := by decide +kernel
theorem dX5_midpointOf_124 : decode cX5_midpointOf 124 = .ok (.getfield 41, 3) := by decide +kernel
theorem dX5_midpointOf_127 : decode cX5_midpointOf 127 = .ok (.iload 4, 2) := by decide +kernel
theorem dX5_midpointOf_129 : decode cX5_midpointOf 129 = .ok (.iconst 1, 1) := by decide +kernel
theorem dX5_midpointOf_130 : decode cX5_midpointOf 130 = .ok (.isub, 1) := by decide +kernel
theorem dX5_midpointOf_131 : decode cX5_midpointOf 131 = .ok (.iaload, 1) := by decide +kernel
theorem dX5_midpointOf_132 : decode cX5_midpointOf 132 = .ok (.iastore, 1) := by decide +kernel
theorem dX5_midpointOf_133 : decode cX5_midpointOf 133 = .ok (.aload_n 0, 1) := by decide +kernel
theorem dX5_midpointOf_134 : decode cX5_midpointOf 134 = .ok (.getfield 41, 3) := by decide +kernel
theorem dX5_midpointOf_137 : decode cX5_midpointOf 137 = .ok (.iload 4, 2) := by decide +kernel
theorem dX5_midpointOf_139 : decode cX5_midpointOf 139 = .ok (.iconst 1, 1) := by decide +kernel
theorem dX5_midpointOf_140 : decode cX5_midpointOf 140 = .ok (.isub, 1) := by decide +kernel
theorem dX5_midpointOf_141 : decode cX5_midpointOf 141 = .ok (.iload 5, 2) := by decide +kernel
theorem dX5_midpointOf_143 : decode cX5_midpointOf 143 = .ok (.iastore, 1) := by decide +kernel
theorem dX5_midpointOf_144 : decode cX5_midpointOf 144 = .ok (.iinc 4 (-1), 3) := by decide +kernel
theorem dX5_midpointOf_147 : decode cX5_midpointOf 147 = .ok (.goto (-63), 3) := by decide +kernel
theorem dX5_midpointOf_150 : decode cX5_midpointOf 150 = .ok (.iinc 3 1, 3) := by decide +kernel
theorem dX5_midpointOf_153 : decode cX5_midpointOf 153 = .ok (.goto (-77), 3) := by decide +kernel
theorem dX5_midpointOf_156 : decode cX5_midpointOf 156 = .ok (.iload_n 2, 1) := by decide +kernel
theorem dX5_midpointOf_157 : decode cX5_midpointOf 157 = .ok (.iconst 3, 1) := by decide +kernel
theorem dX5_midpointOf_158 : decode cX5_midpointOf 158 = .ok (.if_icmp .ge 7, 3) := by decide +kernel
theorem dX5_midpointOf_161 : decode cX5_midpointOf 161 = .ok (.iconst 0, 1) := by decide +kernel
theorem dX5_midpointOf_162 : decode cX5_midpointOf 162 = .ok (.goto 14, 3) := by decide +kernel
theorem dX5_midpointOf_165 : decode cX5_midpointOf 165 = .ok (.iload_n 2, 1) := by decide +kernel
theorem dX5_midpointOf_166 : decode cX5_midpointOf 166 = .ok (.bipush 8, 2) := by decide +kernel
theorem dX5_midpointOf_168 : decode cX5_midpointOf 168 = .ok (.if_icmp .ge 7, 3) := by decide +kernel
theorem dX5_midpointOf_171 : decode cX5_midpointOf 171 = .ok (.iconst 1, 1) := by decide +kernel
theorem dX5_midpointOf_172 : decode cX5_midpointOf 172 = .ok (.goto 4, 3) := by decide +kernel
theorem dX5_midpointOf_175 : decode cX5_midpointOf 175 = .ok (.iconst 2, 1) := by decide +kernel
theorem dX5_midpointOf_176 : decode cX5_midpointOf 176 = .ok (.istore_n 3, 1) := by decide +kernel
theorem dX5_midpointOf_177 : decode cX5_midpointOf 177 = .ok (.aload_n 0, 1) := by decide +kernel
theorem dX5_midpointOf_178 : decode cX5_midpointOf 178 = .ok (.getfield 41, 3) := by decide +kernel
theorem dX5_midpointOf_181 : decode cX5_midpointOf 181 = .ok (.iload_n 3, 1) := by decide +kernel
theorem dX5_midpointOf_182 : decode cX5_midpointOf 182 = .ok (.iaload, 1) := by decide +kernel
theorem dX5_midpointOf_183 : decode cX5_midpointOf 183 = .ok (.aload_n 0, 1) := by decide +kernel
theorem dX5_midpointOf_184 : decode cX5_midpointOf 184 = .ok (.getfield 41, 3) := by decide +kernel
theorem dX5_midpointOf_187 : decode cX5_midpointOf 187 = .ok (.iload_n 2, 1) := by decide +kernel
theorem dX5_midpointOf_188 : decode cX5_midpointOf 188 = .ok (.iconst 1, 1) := by decide +kernel
theorem dX5_midpointOf_189 : decode cX5_midpointOf 189 = .ok (.isub, 1) := by decide +kernel
theorem dX5_midpointOf_190 : decode cX5_midpointOf 190 = .ok (.iload_n 3, 1) := by decide +kernel
theorem dX5_midpointOf_191 : decode cX5_midpointOf 191 = .ok (.isub, 1) := by decide +kernel
theorem dX5_midpointOf_192 : decode cX5_midpointOf 192 = .ok (.iaload, 1) := by decide +kernel
theorem dX5_midpointOf_193 : decode cX5_midpointOf 193 = .ok (.iadd, 1) := by decide +kernel
theorem dX5_midpointOf_194 : decode cX5_midpointOf 194 = .ok (.iconst 2, 1) := by decide +kernel
theorem dX5_midpointOf_195 : decode cX5_midpointOf 195 = .ok (.idiv, 1) := by decide +kernel
theorem dX5_midpointOf_196 : decode cX5_midpointOf 196 = .ok (.ireturn, 1) := by decide +kernel
theorem dX5_correct_0 : decode cX5_correct 0 = .ok (.iconst 1, 1) := by decide +kernel
theorem dX5_correct_1 : decode cX5_correct 1 = .ok (.istore_n 1, 1) := by decide +kernel
theorem dX5_correct_2 : decode cX5_correct 2 = .ok (.iload_n 1, 1) := by decide +kernel
theorem dX5_correct_3 : decode cX5_correct 3 = .ok (.aload_n 0, 1) := by decide +kernel
theorem dX5_correct_4 : decode cX5_correct 4 = .ok (.getfield 71, 3) := by decide +kernel
theorem dX5_correct_7 : decode cX5_correct 7 = .ok (.if_icmp .gt 34, 3) := by decide +kernel
theorem dX5_correct_10 : decode cX5_correct 10 = .ok (.aload_n 0, 1) := by decide +kernel
theorem dX5_correct_11 : decode cX5_correct 11 = .ok (.getfield 38, 3) := by decide +kernel
theorem dX5_correct_14 : decode cX5_correct 14 = .ok (.iload_n 1, 1) := by decide +kernel
theorem dX5_correct_15 : decode cX5_correct 15 = .ok (.aload_n 0, 1) := by decide +kernel
theorem dX5_correct_16 : decode cX5_correct 16 = .ok (.getfield 7, 3) := by decide +kernel
theorem dX5_correct_19 : decode cX5_correct 19 = .ok (.iload_n 1, 1) := by decide +kernel
theorem dX5_correct_20 : decode cX5_correct 20 = .ok (.iaload, 1) := by decide +kernel
theorem dX5_correct_21 : decode cX5_correct 21 = .ok (.iconst 2, 1) := by decide +kernel
theorem dX5_correct_22 : decode cX5_correct 22 = .ok (.if_icmp .ne 11, 3) := by decide +kernel
theorem dX5_correct_25 : decode cX5_correct 25 = .ok (.aload_n 0, 1) := by decide +kernel
theorem dX5_correct_26 : decode cX5_correct 26 = .ok (.iload_n 1, 1) := by decide +kernel
theorem dX5_correct_27 : decode cX5_correct 27 = .ok (.invokevirtual 104, 3) := by decide +kernel
theorem dX5_correct_30 : decode cX5_correct 30 = .ok (.goto 4, 3) := by decide +kernel
theorem dX5_correct_33 : decode cX5_correct 33 = .ok (.iconst 0, 1) := by decide +kernel
theorem dX5_correct_34 : decode cX5_correct 34 = .ok (.iastore, 1) := by decide +kernel
theorem dX5_correct_35 : decode cX5_correct 35 = .ok (.iinc 1 1, 3) := by decide +kernel
theorem dX5_correct_38 : decode cX5_correct 38 = .ok (.goto (-36), 3) := by decide +kernel
theorem dX5_correct_41 : decode cX5_correct 41 = .ok (.iconst 1, 1) := by decide +kernel
theorem dX5_correct_42 : decode cX5_correct 42 = .ok (.istore_n 1, 1) := by decide +kernel
theorem dX5_correct_43 : decode cX5_correct 43 = .ok (.iload_n 1, 1) := by decide +kernel
theorem dX5_correct_44 : decode cX5_correct 44 = .ok (.aload_n 0, 1) := by decide +kernel
theorem dX5_correct_45 : decode cX5_correct 45 = .ok (.getfield 71, 3) := by decide +kernel
theorem dX5_correct_48 : decode cX5_correct 48 = .ok (.if_icmp .gt 196, 3) := by decide +kernel
theorem dX5_correct_51 : decode cX5_correct 51 = .ok (.aload_n 0, 1) := by decide +kernel
theorem dX5_correct_52 : decode cX5_correct 52 = .ok (.getfield 7, 3) := by decide +kernel
theorem dX5_correct_55 : decode cX5_correct 55 = .ok (.iload_n 1, 1) := by decide +kernel
theorem dX5_correct_56 : decode cX5_correct 56 = .ok (.iaload, 1) := by decide +kernel
theorem dX5_correct_57 : decode cX5_correct 57 = .ok (.iconst 2, 1) := by decide +kernel
theorem dX5_correct_58 : decode cX5_correct 58 = .ok (.if_icmp .ne 180, 3) := by decide +kernel
theorem dX5_correct_61 : decode cX5_correct 61 = .ok (.aload_n 0, 1) := by decide +kernel
theorem dX5_correct_62 : decode cX5_correct 62 = .ok (.getfield 29, 3) := by decide +kernel
theorem dX5_correct_65 : decode cX5_correct 65 = .ok (.iload_n 1, 1) := by decide +kernel
theorem dX5_correct_66 : decode cX5_correct 66 = .ok (.iaload, 1) := by decide +kernel
theorem dX5_correct_67 : decode cX5_correct 67 = .ok (.aload_n 0, 1) := by decide +kernel
theorem dX5_correct_68 : decode cX5_correct 68 = .ok (.getfield 97, 3) := by decide +kernel
theorem dX5_correct_71 : decode cX5_correct 71 = .ok (.iconst 1, 1) := by decide +kernel
theorem dX5_correct_72 : decode cX5_correct 72 = .ok (.isub, 1) := by decide +kernel
theorem dX5_correct_73 : decode cX5_correct 73 = .ok (.if_icmp .ne 12, 3) := by decide +kernel
theorem dX5_correct_76 : decode cX5_correct 76 = .ok (.aload_n 0, 1) := by decide +kernel
theorem dX5_correct_77 : decode cX5_correct 77 = .ok (.getfield 26, 3) := by decide +kernel
theorem dX5_correct_80 : decode cX5_correct 80 = .ok (.iload_n 1, 1) := by decide +kernel
theorem dX5_correct_81 : decode cX5_correct 81 = .ok (.iaload, 1) := by decide +kernel
theorem dX5_correct_82 : decode cX5_correct 82 = .ok (.goto 4, 3) := by decide +kernel
theorem dX5_correct_85 : decode cX5_correct 85 = .ok (.iconst 0, 1) := by decide +kernel
theorem dX5_correct_86 : decode cX5_correct 86 = .ok (.istore_n 2, 1) := by decide +kernel
theorem dX5_correct_87 : decode cX5_correct 87 = .ok (.aload_n 0, 1) := by decide +kernel
theorem dX5_correct_88 : decode cX5_correct 88 = .ok (.getfield 26, 3) := by decide +kernel
theorem dX5_correct_91 : decode cX5_correct 91 = .ok (.iload_n 1, 1) := by decide +kernel
theorem dX5_correct_92 : decode cX5_correct 92 = .ok (.aload_n 0, 1) := by decide +kernel
theorem dX5_correct_93 : decode cX5_correct 93 = .ok (.getfield 38, 3) := by decide +kernel
theorem dX5_correct_96 : decode cX5_correct 96 = .ok (.iload_n 1, 1) := by decide +kernel
theorem dX5_correct_97 : decode cX5_correct 97 = .ok (.iaload, 1) := by decide +kernel
theorem dX5_correct_98 : decode cX5_correct 98 = .ok (.iastore, 1) := by decide +kernel
theorem dX5_correct_99 : decode cX5_correct 99 = .ok (.aload_n 0, 1) := by decide +kernel
theorem dX5_correct_100 : decode cX5_correct 100 = .ok (.getfield 29, 3) := by decide +kernel
theorem dX5_correct_103 : decode cX5_correct 103 = .ok (.iload_n 1, 1) := by decide +kernel
theorem dX5_correct_104 : decode cX5_correct 104 = .ok (.aload_n 0, 1) := by decide +kernel
theorem dX5_correct_105 : decode cX5_correct 105 = .ok (.getfield 97, 3) := by decide +kernel
theorem dX5_correct_108 : decode cX5_correct 108 = .ok (.iastore, 1) := by decide +kernel
theorem dX5_correct_109 : decode cX5_correct 109 = .ok (.aload_n 0, 1) := by decide +kernel
theorem dX5_correct_110 : decode cX5_correct 110 = .ok (.getfield 38, 3) := by decide +kernel
theorem dX5_correct_113 : decode cX5_correct 113 = .ok (.iload_n 1, 1) := by decide +kernel
theorem dX5_correct_114 : decode cX5_correct 114 = .ok (.iaload, 1) := by decide +kernel
theorem dX5_correct_115 : decode cX5_correct 115 = .ok (.sipush 500, 3) := by decide +kernel
theorem dX5_correct_118 : decode cX5_correct 118 = .ok (.if_icmp .gt 15, 3) := by decide +kernel
theorem dX5_correct_121 : decode cX5_correct 121 = .ok (.aload_n 0, 1) := by decide +kernel
theorem dX5_correct_122 : decode cX5_correct 122 = .ok (.getfield 38, 3) := by decide +kernel
theorem dX5_correct_125 : decode cX5_correct 125 = .ok (.iload_n 1, 1) := by decide +kernel
theorem dX5_correct_126 : decode cX5_correct 126 = .ok (.iaload, 1) := by decide +kernel
theorem dX5_correct_127 : decode cX5_correct 127 = .ok (.sipush (-500), 3) := by decide +kernel
theorem dX5_correct_130 : decode cX5_correct 130 = .ok (.if_icmp .ge 13, 3) := by decide +kernel
theorem dX5_correct_133 : decode cX5_correct 133 = .ok (.aload_n 0, 1) := by decide +kernel
theorem dX5_correct_134 : decode cX5_correct 134 = .ok (.getfield 7, 3) := by decide +kernel
theorem dX5_correct_137 : decode cX5_correct 137 = .ok (.iload_n 1, 1) := by decide +kernel
theorem dX5_correct_138 : decode cX5_correct 138 = .ok (.iconst 4, 1) := by decide +kernel
theorem dX5_correct_139 : decode cX5_correct 139 = .ok (.iastore, 1) := by decide +kernel
theorem dX5_correct_140 : decode cX5_correct 140 = .ok (.goto 98, 3) := by decide +kernel
theorem dX5_correct_143 : decode cX5_correct 143 = .ok (.aload_n 0, 1) := by decide +kernel
theorem dX5_correct_144 : decode cX5_correct 144 = .ok (.getfield 17, 3) := by decide +kernel
theorem dX5_correct_147 : decode cX5_correct 147 = .ok (.iload_n 1, 1) := by decide +kernel
theorem dX5_correct_148 : decode cX5_correct 148 = .ok (.dup2, 1) := by decide +kernel
theorem dX5_correct_149 : decode cX5_correct 149 = .ok (.iaload, 1) := by decide +kernel
theorem dX5_correct_150 : decode cX5_correct 150 = .ok (.aload_n 0, 1) := by decide +kernel
theorem dX5_correct_151 : decode cX5_correct 151 = .ok (.getfield 38, 3) := by decide +kernel
theorem dX5_correct_154 : decode cX5_correct 154 = .ok (.iload_n 1, 1) := by decide +kernel
theorem dX5_correct_155 : decode cX5_correct 155 = .ok (.iaload, 1) := by decide +kernel
theorem dX5_correct_156 : decode cX5_correct 156 = .ok (.iadd, 1) := by decide +kernel
theorem dX5_correct_157 : decode cX5_correct 157 = .ok (.iastore, 1) := by decide +kernel
theorem dX5_correct_158 : decode cX5_correct 158 = .ok (.aload_n 0, 1) := by decide +kernel
theorem dX5_correct_159 : decode cX5_correct 159 = .ok (.getfield 97, 3) := by decide +kernel
theorem dX5_correct_162 : decode cX5_correct 162 = .ok (.iconst 2, 1) := by decide +kernel
theorem dX5_correct_163 : decode cX5_correct 163 = .ok (.irem, 1) := by decide +kernel
theorem dX5_correct_164 : decode cX5_correct 164 = .ok (.iconst 1, 1) := by decide +kernel
theorem dX5_correct_165 : decode cX5_correct 165 = .ok (.if_icmp .ne 22, 3) := by decide +kernel
theorem dX5_correct_168 : decode cX5_correct 168 = .ok (.aload_n 0, 1) := by decide +kernel
theorem dX5_correct_169 : decode cX5_correct 169 = .ok (.getfield 23, 3) := by decide +kernel
theorem dX5_correct_172 : decode cX5_correct 172 = .ok (.iload_n 1, 1) := by decide +kernel
theorem dX5_correct_173 : decode cX5_correct 173 = .ok (.dup2, 1) := by decide +kernel
theorem dX5_correct_174 : decode cX5_correct 174 = .ok (.iaload, 1) := by decide +kernel
theorem dX5_correct_175 : decode cX5_correct 175 = .ok (.aload_n 0, 1) := by decide +kernel
theorem dX5_correct_176 : decode cX5_correct 176 = .ok (.getfield 38, 3) := by decide +kernel
theorem dX5_correct_179 : decode cX5_correct 179 = .ok (.iload_n 1, 1) := by decide +kernel
theorem dX5_correct_180 : decode cX5_correct 180 = .ok (.iaload, 1) := by decide +kernel
theorem dX5_correct_181 : decode cX5_correct 181 = .ok (.iload_n 2, 1) := by decide +kernel
theorem dX5_correct_182 : decode cX5_correct 182 = .ok (.iadd, 1) := by decide +kernel
theorem dX5_correct_183 : decode cX5_correct 183 = .ok (.iconst 4, 1) := by decide +kernel
theorem dX5_correct_184 : decode cX5_correct 184 = .ok (.idiv, 1) := by decide +kernel
theorem dX5_correct_185 : decode cX5_correct 185 = .ok (.iadd, 1) := by decide +kernel
theorem dX5_correct_186 : decode cX5_correct 186 = .ok (.iastore, 1) := by decide +kernel
theorem dX5_correct_187 : decode cX5_correct 187 = .ok (.aload_n 0, 1) := by decide +kernel
theorem dX5_correct_188 : decode cX5_correct 188 = .ok (.getfield 23, 3) := by decide +kernel
theorem dX5_correct_191 : decode cX5_correct 191 = .ok (.iload_n 1, 1) := by decide +kernel
theorem dX5_correct_192 : decode cX5_correct 192 = .ok (.iaload, 1) := by decide +kernel
theorem dX5_correct_193 : decode cX5_correct 193 = .ok (.bipush 100, 2) := by decide +kernel
theorem dX5_correct_195 : decode cX5_correct 195 = .ok (.if_icmp .gt 14, 3) := by decide +kernel
theorem dX5_correct_198 : decode cX5_correct 198 = .ok (.aload_n 0, 1) := by decide +kernel
theorem dX5_correct_199 : decode cX5_correct 199 = .ok (.getfield 23, 3) := by decide +kernel
theorem dX5_correct_202 : decode cX5_correct 202 = .ok (.iload_n 1, 1) := by decide +kernel
theorem dX5_correct_203 : decode cX5_correct 203 = .ok (.iaload, 1) := by decide +kernel
theorem dX5_correct_204 : decode cX5_correct 204 = .ok (.bipush (-100), 2) := by decide +kernel
theorem dX5_correct_206 : decode cX5_correct 206 = .ok (.if_icmp .ge 32, 3) := by decide +kernel
theorem dX5_correct_209 : decode cX5_correct 209 = .ok (.aload_n 0, 1) := by decide +kernel
theorem dX5_correct_210 : decode cX5_correct 210 = .ok (.getfield 23, 3) := by decide +kernel
theorem dX5_correct_213 : decode cX5_correct 213 = .ok (.iload_n 1, 1) := by decide +kernel
theorem dX5_correct_214 : decode cX5_correct 214 = .ok (.aload_n 0, 1) := by decide +kernel
theorem dX5_correct_215 : decode cX5_correct 215 = .ok (.getfield 23, 3) := by decide +kernel
theorem dX5_correct_218 : decode cX5_correct 218 = .ok (.iload_n 1, 1) := by decide +kernel
theorem dX5_correct_219 : decode cX5_correct 219 = .ok (.iaload, 1) := by decide +kernel
theorem dX5_correct_220 : decode cX5_correct 220 = .ok (.ifCond .le 8, 3) := by decide +kernel
theorem dX5_correct_223 : decode cX5_correct 223 = .ok (.bipush 100, 2) := by decide +kernel
theorem dX5_correct_225 : decode cX5_correct 225 = .ok (.goto 5, 3) := by decide +kernel
theorem dX5_correct_228 : decode cX5_correct 228 = .ok (.bipush (-100), 2) := by decide +kernel
theorem dX5_correct_230 : decode cX5_correct 230 = .ok (.iastore, 1) := by decide +kernel
theorem dX5_correct_231 : decode cX5_correct 231 = .ok (.aload_n 0, 1) := by decide +kernel
theorem dX5_correct_232 : decode cX5_correct 232 = .ok (.getfield 7, 3) := by decide +kernel
theorem dX5_correct_235 : decode cX5_correct 235 = .ok (.iload_n 1, 1) := by decide +kernel
theorem dX5_correct_236 : decode cX5_correct 236 = .ok (.iconst 3, 1) := by decide +kernel
theorem dX5_correct_237 : decode cX5_correct 237 = .ok (.iastore, 1) := by decide +kernel
theorem dX5_correct_238 : decode cX5_correct 238 = .ok (.iinc 1 1, 3) := by decide +kernel
theorem dX5_correct_241 : decode cX5_correct 241 = .ok (.goto (-198), 3) := by decide +kernel
theorem dX5_correct_244 : decode cX5_correct 244 = .ok (.return_, 1) := by decide +kernel
theorem dX5_run_0 : decode cX5_run 0 = .ok (.aload_n 0, 1) := by decide +kernel
theorem dX5_run_1 : decode cX5_run 1 = .ok (.iconst 0, 1) := by decide +kernel
theorem dX5_run_2 : decode cX5_run 2 = .ok (.putfield 81, 3) := by decide +kernel
theorem dX5_run_5 : decode cX5_run 5 = .ok (.iload_n 1, 1) := by decide +kernel
theorem dX5_run_6 : decode cX5_run 6 = .ok (.ifCond .lt 10, 3) := by decide +kernel
theorem dX5_run_9 : decode cX5_run 9 = .ok (.iload_n 1, 1) := by decide +kernel
theorem dX5_run_10 : decode cX5_run 10 = .ok (.sipush 500, 3) := by decide +kernel
theorem dX5_run_13 : decode cX5_run 13 = .ok (.if_icmp .le 6, 3) := by decide +kernel
theorem dX5_run_16 : decode cX5_run 16 = .ok (.bipush (-2), 2) := by decide +kernel
theorem dX5_run_18 : decode cX5_run 18 = .ok (.ireturn, 1) := by decide +kernel
theorem dX5_run_19 : decode cX5_run 19 = .ok (.iconst 0, 1) := by decide +kernel
theorem dX5_run_20 : decode cX5_run 20 = .ok (.istore_n 2, 1) := by decide +kernel
theorem dX5_run_21 : decode cX5_run 21 = .ok (.iconst 0, 1) := by decide +kernel
theorem dX5_run_22 : decode cX5_run 22 = .ok (.istore_n 3, 1) := by decide +kernel
theorem dX5_run_23 : decode cX5_run 23 = .ok (.iload_n 3, 1) := by decide +kernel
theorem dX5_run_24 : decode cX5_run 24 = .ok (.iload_n 1, 1) := by decide +kernel
theorem dX5_run_25 : decode cX5_run 25 = .ok (.if_icmp .ge 125, 3) := by decide +kernel
theorem dX5_run_28 : decode cX5_run 28 = .ok (.aload_n 0, 1) := by decide +kernel
theorem dX5_run_29 : decode cX5_run 29 = .ok (.invokevirtual 107, 3) := by decide +kernel
theorem dX5_run_32 : decode cX5_run 32 = .ok (.iload_n 2, 1) := by decide +kernel
theorem dX5_run_33 : decode cX5_run 33 = .ok (.aload_n 0, 1) := by decide +kernel
theorem dX5_run_34 : decode cX5_run 34 = .ok (.invokevirtual 110, 3) := by decide +kernel
theorem dX5_run_37 : decode cX5_run 37 = .ok (.iadd, 1) := by decide +kernel
theorem dX5_run_38 : decode cX5_run 38 = .ok (.istore_n 2, 1) := by decide +kernel
theorem dX5_run_39 : decode cX5_run 39 = .ok (.iload_n 2, 1) := by decide +kernel
theorem dX5_run_40 : decode cX5_run 40 = .ok (.aload_n 0, 1) := by decide +kernel
theorem dX5_run_41 : decode cX5_run 41 = .ok (.invokevirtual 114, 3) := by decide +kernel
theorem dX5_run_44 : decode cX5_run 44 = .ok (.iadd, 1) := by decide +kernel
theorem dX5_run_45 : decode cX5_run 45 = .ok (.istore_n 2, 1) := by decide +kernel
theorem dX5_run_46 : decode cX5_run 46 = .ok (.aload_n 0, 1) := by decide +kernel
theorem dX5_run_47 : decode cX5_run 47 = .ok (.invokevirtual 117, 3) := by decide +kernel
theorem dX5_run_50 : decode cX5_run 50 = .ok (.iconst 1, 1) := by decide +kernel
theorem dX5_run_51 : decode cX5_run 51 = .ok (.istore 4, 2) := by decide +kernel
theorem dX5_run_53 : decode cX5_run 53 = .ok (.iload 4, 2) := by decide +kernel
theorem dX5_run_55 : decode cX5_run 55 = .ok (.aload_n 0, 1) := by decide +kernel
theorem dX5_run_56 : decode cX5_run 56 = .ok (.getfield 71, 3) := by decide +kernel
theorem dX5_run_59 : decode cX5_run 59 = .ok (.if_icmp .gt 49, 3) := by decide +kernel
theorem dX5_run_62 : decode cX5_run 62 = .ok (.aload_n 0, 1) := by decide +kernel
theorem dX5_run_63 : decode cX5_run 63 = .ok (.getfield 17, 3) := by decide +kernel
theorem dX5_run_66 : decode cX5_run 66 = .ok (.iload 4, 2) := by decide +kernel
theorem dX5_run_68 : decode cX5_run 68 = .ok (.dup2, 1) := by decide +kernel
theorem dX5_run_69 : decode cX5_run 69 = .ok (.iaload, 1) := by decide +kernel
theorem dX5_run_70 : decode cX5_run 70 = .ok (.aload_n 0, 1) := by decide +kernel
theorem dX5_run_71 : decode cX5_run 71 = .ok (.getfield 7, 3) := by decide +kernel
theorem dX5_run_74 : decode cX5_run 74 = .ok (.iload 4, 2) := by decide +kernel
theorem dX5_run_76 : decode cX5_run 76 = .ok (.iaload, 1) := by decide +kernel
theorem dX5_run_77 : decode cX5_run 77 = .ok (.iconst 4, 1) := by decide +kernel
theorem dX5_run_78 : decode cX5_run 78 = .ok (.if_icmp .ne 7, 3) := by decide +kernel
theorem dX5_run_81 : decode cX5_run 81 = .ok (.iconst 0, 1) := by decide +kernel
theorem dX5_run_82 : decode cX5_run 82 = .ok (.goto 18, 3) := by decide +kernel
theorem dX5_run_85 : decode cX5_run 85 = .ok (.aload_n 0, 1) := by decide +kernel
theorem dX5_run_86 : decode cX5_run 86 = .ok (.getfield 20, 3) := by decide +kernel
theorem dX5_run_89 : decode cX5_run 89 = .ok (.iload 4, 2) := by decide +kernel
theorem dX5_run_91 : decode cX5_run 91 = .ok (.iaload, 1) := by decide +kernel
theorem dX5_run_92 : decode cX5_run 92 = .ok (.aload_n 0, 1) := by decide +kernel
theorem dX5_run_93 : decode cX5_run 93 = .ok (.getfield 23, 3) := by decide +kernel
theorem dX5_run_96 : decode cX5_run 96 = .ok (.iload 4, 2) := by decide +kernel
theorem dX5_run_98 : decode cX5_run 98 = .ok (.iaload, 1) := by decide +kernel
theorem dX5_run_99 : decode cX5_run 99 = .ok (.iadd, 1) := by decide +kernel
theorem dX5_run_100 : decode cX5_run 100 = .ok (.iadd, 1) := by decide +kernel
theorem dX5_run_101 : decode cX5_run 101 = .ok (.iastore, 1) := by decide +kernel
theorem dX5_run_102 : decode cX5_run 102 = .ok (.iinc 4 1, 3) := by decide +kernel
theorem dX5_run_105 : decode cX5_run 105 = .ok (.goto (-52), 3) := by decide +kernel
theorem dX5_run_108 : decode cX5_run 108 = .ok (.iconst 0, 1) := by decide +kernel
theorem dX5_run_109 : decode cX5_run 109 = .ok (.istore 4, 2) := by decide +kernel
theorem dX5_run_111 : decode cX5_run 111 = .ok (.iload 4, 2) := by decide +kernel
theorem dX5_run_113 : decode cX5_run 113 = .ok (.aload_n 0, 1) := by decide +kernel
theorem dX5_run_114 : decode cX5_run 114 = .ok (.getfield 75, 3) := by decide +kernel
theorem dX5_run_117 : decode cX5_run 117 = .ok (.if_icmp .ge 17, 3) := by decide +kernel
theorem dX5_run_120 : decode cX5_run 120 = .ok (.aload_n 0, 1) := by decide +kernel
theorem dX5_run_121 : decode cX5_run 121 = .ok (.getfield 68, 3) := by decide +kernel
theorem dX5_run_124 : decode cX5_run 124 = .ok (.iload 4, 2) := by decide +kernel
theorem dX5_run_126 : decode cX5_run 126 = .ok (.iconst 0, 1) := by decide +kernel
theorem dX5_run_127 : decode cX5_run 127 = .ok (.iastore, 1) := by decide +kernel
theorem dX5_run_128 : decode cX5_run 128 = .ok (.iinc 4 1, 3) := by decide +kernel
theorem dX5_run_131 : decode cX5_run 131 = .ok (.goto (-20), 3) := by decide +kernel
theorem dX5_run_134 : decode cX5_run 134 = .ok (.aload_n 0, 1) := by decide +kernel
theorem dX5_run_135 : decode cX5_run 135 = .ok (.dup, 1) := by decide +kernel
theorem dX5_run_136 : decode cX5_run 136 = .ok (.getfield 97, 3) := by decide +kernel
theorem dX5_run_139 : decode cX5_run 139 = .ok (.iconst 1, 1) := by decide +kernel
theorem dX5_run_140 : decode cX5_run 140 = .ok (.iadd, 1) := by decide +kernel
theorem dX5_run_141 : decode cX5_run 141 = .ok (.putfield 97, 3) := by decide +kernel
theorem dX5_run_144 : decode cX5_run 144 = .ok (.iinc 3 1, 3) := by decide +kernel
theorem dX5_run_147 : decode cX5_run 147 = .ok (.goto (-124), 3) := by decide +kernel
theorem dX5_run_150 : decode cX5_run 150 = .ok (.iload_n 2, 1) := by decide +kernel
theorem dX5_run_151 : decode cX5_run 151 = .ok (.ireturn, 1) := by decide +kernel
theorem dX5_state_0 : decode cX5_state 0 = .ok (.aload_n 0, 1) := by decide +kernel
theorem dX5_state_1 : decode cX5_state 1 = .ok (.iconst 0, 1) := by decide +kernel
theorem dX5_state_2 : decode cX5_state 2 = .ok (.putfield 81, 3) := by decide +kernel
theorem dX5_state_5 : decode cX5_state 5 = .ok (.aload_n 0, 1) := by decide +kernel
theorem dX5_state_6 : decode cX5_state 6 = .ok (.iload_n 1, 1) := by decide +kernel
theorem dX5_state_7 : decode cX5_state 7 = .ok (.invokevirtual 84, 3) := by decide +kernel
theorem dX5_state_10 : decode cX5_state 10 = .ok (.ifCond .eq 12, 3) := by decide +kernel
theorem dX5_state_13 : decode cX5_state 13 = .ok (.aload_n 0, 1) := by decide +kernel
theorem dX5_state_14 : decode cX5_state 14 = .ok (.getfield 7, 3) := by decide +kernel
theorem dX5_state_17 : decode cX5_state 17 = .ok (.iload_n 1, 1) := by decide +kernel
theorem dX5_state_18 : decode cX5_state 18 = .ok (.iaload, 1) := by decide +kernel
theorem dX5_state_19 : decode cX5_state 19 = .ok (.goto 4, 3) := by decide +kernel
theorem dX5_state_22 : decode cX5_state 22 = .ok (.iconst (-1), 1) := by decide +kernel
theorem dX5_state_23 : decode cX5_state 23 = .ok (.ireturn, 1) := by decide +kernel
theorem dX5_offset_0 : decode cX5_offset 0 = .ok (.aload_n 0, 1) := by decide +kernel
theorem dX5_offset_1 : decode cX5_offset 1 = .ok (.iconst 0, 1) := by decide +kernel
theorem dX5_offset_2 : decode cX5_offset 2 = .ok (.putfield 81, 3) := by decide +kernel
theorem dX5_offset_5 : decode cX5_offset 5 = .ok (.aload_n 0, 1) := by decide +kernel
theorem dX5_offset_6 : decode cX5_offset 6 = .ok (.iload_n 1, 1) := by decide +kernel
theorem dX5_offset_7 : decode cX5_offset 7 = .ok (.invokevirtual 84, 3) := by decide +kernel
theorem dX5_offset_10 : decode cX5_offset 10 = .ok (.ifCond .eq 12, 3) := by decide +kernel
theorem dX5_offset_13 : decode cX5_offset 13 = .ok (.aload_n 0, 1) := by decide +kernel
theorem dX5_offset_14 : decode cX5_offset 14 = .ok (.getfield 17, 3) := by decide +kernel
theorem dX5_offset_17 : decode cX5_offset 17 = .ok (.iload_n 1, 1) := by decide +kernel
theorem dX5_offset_18 : decode cX5_offset 18 = .ok (.iaload, 1) := by decide +kernel
theorem dX5_offset_19 : decode cX5_offset 19 = .ok (.goto 4, 3) := by decide +kernel
theorem dX5_offset_22 : decode cX5_offset 22 = .ok (.iconst 0, 1) := by decide +kernel
theorem dX5_offset_23 : decode cX5_offset 23 = .ok (.ireturn, 1) := by decide +kernel
theorem dX5_rate_0 : decode cX5_rate 0 = .ok (.aload_n 0, 1) := by decide +kernel
theorem dX5_rate_1 : decode cX5_rate 1 = .ok (.iconst 0, 1) := by decide +kernel
theorem dX5_rate_2 : decode cX5_rate 2 = .ok (.putfield 81, 3) := by decide +kernel
theorem dX5_rate_5 : decode cX5_rate 5 = .ok (.aload_n 0, 1) := by decide +kernel
theorem dX5_rate_6 : decode cX5_rate 6 = .ok (.iload_n 1, 1) := by decide +kernel
theorem dX5_rate_7 : decode cX5_rate 7 = .ok (.invokevirtual 84, 3) := by decide +kernel
theorem dX5_rate_10 : decode cX5_rate 10 = .ok (.ifCond .eq 12, 3) := by decide +kernel
theorem dX5_rate_13 : decode cX5_rate 13 = .ok (.aload_n 0, 1) := by decide +kernel
theorem dX5_rate_14 : decode cX5_rate 14 = .ok (.getfield 23, 3) := by decide +kernel
theorem dX5_rate_17 : decode cX5_rate 17 = .ok (.iload_n 1, 1) := by decide +kernel
theorem dX5_rate_18 : decode cX5_rate 18 = .ok (.iaload, 1) := by decide +kernel
theorem dX5_rate_19 : decode cX5_rate 19 = .ok (.goto 4, 3) := by decide +kernel
theorem dX5_rate_22 : decode cX5_rate 22 = .ok (.iconst 0, 1) := by decide +kernel
theorem dX5_rate_23 : decode cX5_rate 23 = .ok (.ireturn, 1) := by decide +kernel
theorem dX5_place_0 : decode cX5_place 0 = .ok (.aload_n 0, 1) := by decide +kernel
theorem dX5_place_1 : decode cX5_place 1 = .ok (.aload_n 0, 1) := by decide +kernel
theorem dX5_place_2 : decode cX5_place 2 = .ok (.iload_n 1, 1) := by decide +kernel
theorem dX5_place_3 : decode cX5_place 3 = .ok (.invokevirtual 88, 3) := by decide +kernel
theorem dX5_place_6 : decode cX5_place 6 = .ok (.ifCond .eq 13, 3) := by decide +kernel
theorem dX5_place_9 : decode cX5_place 9 = .ok (.iload_n 2, 1) := by decide +kernel
theorem dX5_place_10 : decode cX5_place 10 = .ok (.ifCond .lt 9, 3) := by decide +kernel
theorem dX5_place_13 : decode cX5_place 13 = .ok (.iload_n 2, 1) := by decide +kernel
theorem dX5_place_14 : decode cX5_place 14 = .ok (.bipush 63, 2) := by decide +kernel
theorem dX5_place_16 : decode cX5_place 16 = .ok (.if_icmp .le 7, 3) := by decide +kernel
theorem dX5_place_19 : decode cX5_place 19 = .ok (.iconst 1, 1) := by decide +kernel
theorem dX5_place_20 : decode cX5_place 20 = .ok (.goto 4, 3) := by decide +kernel
theorem dX5_place_23 : decode cX5_place 23 = .ok (.iconst 0, 1) := by decide +kernel
theorem dX5_place_24 : decode cX5_place 24 = .ok (.putfield 81, 3) := by decide +kernel
theorem dX5_place_27 : decode cX5_place 27 = .ok (.iconst 0, 1) := by decide +kernel
theorem dX5_place_28 : decode cX5_place 28 = .ok (.istore_n 3, 1) := by decide +kernel
theorem dX5_place_29 : decode cX5_place 29 = .ok (.iconst 0, 1) := by decide +kernel
theorem dX5_place_30 : decode cX5_place 30 = .ok (.istore 4, 2) := by decide +kernel
theorem dX5_place_32 : decode cX5_place 32 = .ok (.iconst 0, 1) := by decide +kernel
theorem dX5_place_33 : decode cX5_place 33 = .ok (.istore 5, 2) := by decide +kernel
theorem dX5_place_35 : decode cX5_place 35 = .ok (.iload 5, 2) := by decide +kernel
theorem dX5_place_37 : decode cX5_place 37 = .ok (.aload_n 0, 1) := by decide +kernel
theorem dX5_place_38 : decode cX5_place 38 = .ok (.getfield 91, 3) := by decide +kernel
theorem dX5_place_41 : decode cX5_place 41 = .ok (.if_icmp .ge 113, 3) := by decide +kernel
theorem dX5_place_44 : decode cX5_place 44 = .ok (.aload_n 0, 1) := by decide +kernel
theorem dX5_place_45 : decode cX5_place 45 = .ok (.getfield 81, 3) := by decide +kernel
theorem dX5_place_48 : decode cX5_place 48 = .ok (.ifCond .ne 106, 3) := by decide +kernel
theorem dX5_place_51 : decode cX5_place 51 = .ok (.aload_n 0, 1) := by decide +kernel
theorem dX5_place_52 : decode cX5_place 52 = .ok (.getfield 47, 3) := by decide +kernel
theorem dX5_place_55 : decode cX5_place 55 = .ok (.iload 5, 2) := by decide +kernel
theorem dX5_place_57 : decode cX5_place 57 = .ok (.iaload, 1) := by decide +kernel
theorem dX5_place_58 : decode cX5_place 58 = .ok (.iload_n 1, 1) := by decide +kernel
theorem dX5_place_59 : decode cX5_place 59 = .ok (.if_icmp .ne 26, 3) := by decide +kernel
theorem dX5_place_62 : decode cX5_place 62 = .ok (.iload_n 2, 1) := by decide +kernel
theorem dX5_place_63 : decode cX5_place 63 = .ok (.aload_n 0, 1) := by decide +kernel
theorem dX5_place_64 : decode cX5_place 64 = .ok (.getfield 56, 3) := by decide +kernel
theorem dX5_place_67 : decode cX5_place 67 = .ok (.iload 5, 2) := by decide +kernel
theorem dX5_place_69 : decode cX5_place 69 = .ok (.iaload, 1) := by decide +kernel
theorem dX5_place_70 : decode cX5_place 70 = .ok (.irem, 1) := by decide +kernel
theorem dX5_place_71 : decode cX5_place 71 = .ok (.aload_n 0, 1) := by decide +kernel
theorem dX5_place_72 : decode cX5_place 72 = .ok (.getfield 53, 3) := by decide +kernel
theorem dX5_place_75 : decode cX5_place 75 = .ok (.iload 5, 2) := by decide +kernel
theorem dX5_place_77 : decode cX5_place 77 = .ok (.iaload, 1) := by decide +kernel
theorem dX5_place_78 : decode cX5_place 78 = .ok (.if_icmp .ne 7, 3) := by decide +kernel
theorem dX5_place_81 : decode cX5_place 81 = .ok (.iconst 1, 1) := by decide +kernel
theorem dX5_place_82 : decode cX5_place 82 = .ok (.goto 4, 3) := by decide +kernel
theorem dX5_place_85 : decode cX5_place 85 = .ok (.iconst 0, 1) := by decide +kernel
theorem dX5_place_86 : decode cX5_place 86 = .ok (.istore 6, 2) := by decide +kernel
theorem dX5_place_88 : decode cX5_place 88 = .ok (.iload 6, 2) := by decide +kernel
theorem dX5_place_90 : decode cX5_place 90 = .ok (.ifCond .eq 25, 3) := by decide +kernel
theorem dX5_place_93 : decode cX5_place 93 = .ok (.aload_n 0, 1) := by decide +kernel
theorem dX5_place_94 : decode cX5_place 94 = .ok (.getfield 50, 3) := by decide +kernel
theorem dX5_place_97 : decode cX5_place 97 = .ok (.iload 5, 2) := by decide +kernel
theorem dX5_place_99 : decode cX5_place 99 = .ok (.iaload, 1) := by decide +kernel
theorem dX5_place_100 : decode cX5_place 100 = .ok (.iconst 1, 1) := by decide +kernel
theorem dX5_place_101 : decode cX5_place 101 = .ok (.iand, 1) := by decide +kernel
theorem dX5_place_102 : decode cX5_place 102 = .ok (.ifCond .eq 13, 3) := by decide +kernel
theorem dX5_place_105 : decode cX5_place 105 = .ok (.aload_n 0, 1) := by decide +kernel
theorem dX5_place_106 : decode cX5_place 106 = .ok (.getfield 44, 3) := by decide +kernel
theorem dX5_place_109 : decode cX5_place 109 = .ok (.iload 5, 2) := by decide +kernel
theorem dX5_place_111 : decode cX5_place 111 = .ok (.iaload, 1) := by decide +kernel
theorem dX5_place_112 : decode cX5_place 112 = .ok (.goto 4, 3) := by decide +kernel
theorem dX5_place_115 : decode cX5_place 115 = .ok (.iload_n 3, 1) := by decide +kernel
theorem dX5_place_116 : decode cX5_place 116 = .ok (.istore_n 3, 1) := by decide +kernel
theorem dX5_place_117 : decode cX5_place 117 = .ok (.iload 6, 2) := by decide +kernel
theorem dX5_place_119 : decode cX5_place 119 = .ok (.ifCond .eq 25, 3) := by decide +kernel
theorem dX5_place_122 : decode cX5_place 122 = .ok (.aload_n 0, 1) := by decide +kernel
theorem dX5_place_123 : decode cX5_place 123 = .ok (.getfield 50, 3) := by decide +kernel
theorem dX5_place_126 : decode cX5_place 126 = .ok (.iload 5, 2) := by decide +kernel
theorem dX5_place_128 : decode cX5_place 128 = .ok (.iaload, 1) := by decide +kernel
theorem dX5_place_129 : decode cX5_place 129 = .ok (.iconst 2, 1) := by decide +kernel
theorem dX5_place_130 : decode cX5_place 130 = .ok (.iand, 1) := by decide +kernel
theorem dX5_place_131 : decode cX5_place 131 = .ok (.ifCond .eq 13, 3) := by decide +kernel
theorem dX5_place_134 : decode cX5_place 134 = .ok (.aload_n 0, 1) := by decide +kernel
theorem dX5_place_135 : decode cX5_place 135 = .ok (.getfield 44, 3) := by decide +kernel
theorem dX5_place_138 : decode cX5_place 138 = .ok (.iload 5, 2) := by decide +kernel
theorem dX5_place_140 : decode cX5_place 140 = .ok (.iaload, 1) := by decide +kernel
theorem dX5_place_141 : decode cX5_place 141 = .ok (.goto 5, 3) := by decide +kernel
theorem dX5_place_144 : decode cX5_place 144 = .ok (.iload 4, 2) := by decide +kernel
theorem dX5_place_146 : decode cX5_place 146 = .ok (.istore 4, 2) := by decide +kernel
theorem dX5_place_148 : decode cX5_place 148 = .ok (.iinc 5 1, 3) := by decide +kernel
theorem dX5_place_151 : decode cX5_place 151 = .ok (.goto (-116), 3) := by decide +kernel
theorem dX5_place_154 : decode cX5_place 154 = .ok (.iload_n 3, 1) := by decide +kernel
theorem dX5_place_155 : decode cX5_place 155 = .ok (.ifCond .le 7, 3) := by decide +kernel
theorem dX5_place_158 : decode cX5_place 158 = .ok (.iload_n 3, 1) := by decide +kernel
theorem dX5_place_159 : decode cX5_place 159 = .ok (.goto 5, 3) := by decide +kernel
theorem dX5_place_162 : decode cX5_place 162 = .ok (.iload 4, 2) := by decide +kernel
theorem dX5_place_164 : decode cX5_place 164 = .ok (.ireturn, 1) := by decide +kernel
theorem dX5_cold_0 : decode cX5_cold 0 = .ok (.aload_n 0, 1) := by decide +kernel
theorem dX5_cold_1 : decode cX5_cold 1 = .ok (.iconst 0, 1) := by decide +kernel
theorem dX5_cold_2 : decode cX5_cold 2 = .ok (.putfield 81, 3) := by decide +kernel
theorem dX5_cold_5 : decode cX5_cold 5 = .ok (.aload_n 0, 1) := by decide +kernel
theorem dX5_cold_6 : decode cX5_cold 6 = .ok (.iload_n 1, 1) := by decide +kernel
theorem dX5_cold_7 : decode cX5_cold 7 = .ok (.invokevirtual 84, 3) := by decide +kernel
theorem dX5_cold_10 : decode cX5_cold 10 = .ok (.ifCond .ne 5, 3) := by decide +kernel
theorem dX5_cold_13 : decode cX5_cold 13 = .ok (.iconst (-1), 1) := by decide +kernel
theorem dX5_cold_14 : decode cX5_cold 14 = .ok (.ireturn, 1) := by decide +kernel
theorem dX5_cold_15 : decode cX5_cold 15 = .ok (.aload_n 0, 1) := by decide +kernel
theorem dX5_cold_16 : decode cX5_cold 16 = .ok (.getfield 13, 3) := by decide +kernel
theorem dX5_cold_19 : decode cX5_cold 19 = .ok (.iload_n 1, 1) := by decide +kernel
theorem dX5_cold_20 : decode cX5_cold 20 = .ok (.iload_n 2, 1) := by decide +kernel
theorem dX5_cold_21 : decode cX5_cold 21 = .ok (.bastore, 1) := by decide +kernel
theorem dX5_cold_22 : decode cX5_cold 22 = .ok (.iload_n 2, 1) := by decide +kernel
theorem dX5_cold_23 : decode cX5_cold 23 = .ok (.ifCond .eq 34, 3) := by decide +kernel
theorem dX5_cold_26 : decode cX5_cold 26 = .ok (.aload_n 0, 1) := by decide +kernel
theorem dX5_cold_27 : decode cX5_cold 27 = .ok (.getfield 7, 3) := by decide +kernel
theorem dX5_cold_30 : decode cX5_cold 30 = .ok (.iload_n 1, 1) := by decide +kernel
theorem dX5_cold_31 : decode cX5_cold 31 = .ok (.iaload, 1) := by decide +kernel
theorem dX5_cold_32 : decode cX5_cold 32 = .ok (.iconst 2, 1) := by decide +kernel
theorem dX5_cold_33 : decode cX5_cold 33 = .ok (.if_icmp .le 24, 3) := by decide +kernel
theorem dX5_cold_36 : decode cX5_cold 36 = .ok (.aload_n 0, 1) := by decide +kernel
theorem dX5_cold_37 : decode cX5_cold 37 = .ok (.getfield 7, 3) := by decide +kernel
theorem dX5_cold_40 : decode cX5_cold 40 = .ok (.iload_n 1, 1) := by decide +kernel
theorem dX5_cold_41 : decode cX5_cold 41 = .ok (.iconst 0, 1) := by decide +kernel
theorem dX5_cold_42 : decode cX5_cold 42 = .ok (.iastore, 1) := by decide +kernel
theorem dX5_cold_43 : decode cX5_cold 43 = .ok (.aload_n 0, 1) := by decide +kernel
theorem dX5_cold_44 : decode cX5_cold 44 = .ok (.getfield 17, 3) := by decide +kernel
theorem dX5_cold_47 : decode cX5_cold 47 = .ok (.iload_n 1, 1) := by decide +kernel
theorem dX5_cold_48 : decode cX5_cold 48 = .ok (.iconst 0, 1) := by decide +kernel
theorem dX5_cold_49 : decode cX5_cold 49 = .ok (.iastore, 1) := by decide +kernel
theorem dX5_cold_50 : decode cX5_cold 50 = .ok (.aload_n 0, 1) := by decide +kernel
theorem dX5_cold_51 : decode cX5_cold 51 = .ok (.getfield 23, 3) := by decide +kernel
theorem dX5_cold_54 : decode cX5_cold 54 = .ok (.iload_n 1, 1) := by decide +kernel
theorem dX5_cold_55 : decode cX5_cold 55 = .ok (.iconst 0, 1) := by decide +kernel
theorem dX5_cold_56 : decode cX5_cold 56 = .ok (.iastore, 1) := by decide +kernel
theorem dX5_cold_57 : decode cX5_cold 57 = .ok (.iconst 0, 1) := by decide +kernel
theorem dX5_cold_58 : decode cX5_cold 58 = .ok (.istore_n 3, 1) := by decide +kernel
theorem dX5_cold_59 : decode cX5_cold 59 = .ok (.iconst 1, 1) := by decide +kernel
theorem dX5_cold_60 : decode cX5_cold 60 = .ok (.istore 4, 2) := by decide +kernel
theorem dX5_cold_62 : decode cX5_cold 62 = .ok (.iload 4, 2) := by decide +kernel
theorem dX5_cold_64 : decode cX5_cold 64 = .ok (.aload_n 0, 1) := by decide +kernel
theorem dX5_cold_65 : decode cX5_cold 65 = .ok (.getfield 71, 3) := by decide +kernel
theorem dX5_cold_68 : decode cX5_cold 68 = .ok (.if_icmp .gt 27, 3) := by decide +kernel
theorem dX5_cold_71 : decode cX5_cold 71 = .ok (.iload_n 3, 1) := by decide +kernel
theorem dX5_cold_72 : decode cX5_cold 72 = .ok (.aload_n 0, 1) := by decide +kernel
theorem dX5_cold_73 : decode cX5_cold 73 = .ok (.getfield 13, 3) := by decide +kernel
theorem dX5_cold_76 : decode cX5_cold 76 = .ok (.iload 4, 2) := by decide +kernel
theorem dX5_cold_78 : decode cX5_cold 78 = .ok (.baload, 1) := by decide +kernel
theorem dX5_cold_79 : decode cX5_cold 79 = .ok (.ifCond .eq 7, 3) := by decide +kernel
theorem dX5_cold_82 : decode cX5_cold 82 = .ok (.iconst 1, 1) := by decide +kernel
theorem dX5_cold_83 : decode cX5_cold 83 = .ok (.goto 4, 3) := by decide +kernel
theorem dX5_cold_86 : decode cX5_cold 86 = .ok (.iconst 0, 1) := by decide +kernel
theorem dX5_cold_87 : decode cX5_cold 87 = .ok (.iadd, 1) := by decide +kernel
theorem dX5_cold_88 : decode cX5_cold 88 = .ok (.istore_n 3, 1) := by decide +kernel
theorem dX5_cold_89 : decode cX5_cold 89 = .ok (.iinc 4 1, 3) := by decide +kernel
theorem dX5_cold_92 : decode cX5_cold 92 = .ok (.goto (-30), 3) := by decide +kernel
theorem dX5_cold_95 : decode cX5_cold 95 = .ok (.iload_n 3, 1) := by decide +kernel
theorem dX5_cold_96 : decode cX5_cold 96 = .ok (.ireturn, 1) := by decide +kernel
theorem dX5_flip_0 : decode cX5_flip 0 = .ok (.aload_n 0, 1) := by decide +kernel
theorem dX5_flip_1 : decode cX5_flip 1 = .ok (.iconst 0, 1) := by decide +kernel
theorem dX5_flip_2 : decode cX5_flip 2 = .ok (.putfield 81, 3) := by decide +kernel
theorem dX5_flip_5 : decode cX5_flip 5 = .ok (.iload_n 1, 1) := by decide +kernel
theorem dX5_flip_6 : decode cX5_flip 6 = .ok (.iconst 1, 1) := by decide +kernel
theorem dX5_flip_7 : decode cX5_flip 7 = .ok (.if_icmp .lt 16, 3) := by decide +kernel
theorem dX5_flip_10 : decode cX5_flip 10 = .ok (.iload_n 1, 1) := by decide +kernel
theorem dX5_flip_11 : decode cX5_flip 11 = .ok (.iconst 2, 1) := by decide +kernel
theorem dX5_flip_12 : decode cX5_flip 12 = .ok (.if_icmp .gt 11, 3) := by decide +kernel
theorem dX5_flip_15 : decode cX5_flip 15 = .ok (.aload_n 0, 1) := by decide +kernel
theorem dX5_flip_16 : decode cX5_flip 16 = .ok (.iload_n 2, 1) := by decide +kernel
theorem dX5_flip_17 : decode cX5_flip 17 = .ok (.invokevirtual 88, 3) := by decide +kernel
theorem dX5_flip_20 : decode cX5_flip 20 = .ok (.ifCond .ne 5, 3) := by decide +kernel
theorem dX5_flip_23 : decode cX5_flip 23 = .ok (.iconst (-1), 1) := by decide +kernel
theorem dX5_flip_24 : decode cX5_flip 24 = .ok (.ireturn, 1) := by decide +kernel
theorem dX5_flip_25 : decode cX5_flip 25 = .ok (.aload_n 0, 1) := by decide +kernel
theorem dX5_flip_26 : decode cX5_flip 26 = .ok (.getfield 68, 3) := by decide +kernel
theorem dX5_flip_29 : decode cX5_flip 29 = .ok (.iload_n 2, 1) := by decide +kernel
theorem dX5_flip_30 : decode cX5_flip 30 = .ok (.iaload, 1) := by decide +kernel
theorem dX5_flip_31 : decode cX5_flip 31 = .ok (.iload_n 1, 1) := by decide +kernel
theorem dX5_flip_32 : decode cX5_flip 32 = .ok (.iand, 1) := by decide +kernel
theorem dX5_flip_33 : decode cX5_flip 33 = .ok (.ifCond .eq 6, 3) := by decide +kernel
theorem dX5_flip_36 : decode cX5_flip 36 = .ok (.bipush (-3), 2) := by decide +kernel
theorem dX5_flip_38 : decode cX5_flip 38 = .ok (.ireturn, 1) := by decide +kernel
theorem dX5_flip_39 : decode cX5_flip 39 = .ok (.aload_n 0, 1) := by decide +kernel
theorem dX5_flip_40 : decode cX5_flip 40 = .ok (.getfield 68, 3) := by decide +kernel
theorem dX5_flip_43 : decode cX5_flip 43 = .ok (.iload_n 2, 1) := by decide +kernel
theorem dX5_flip_44 : decode cX5_flip 44 = .ok (.dup2, 1) := by decide +kernel
theorem dX5_flip_45 : decode cX5_flip 45 = .ok (.iaload, 1) := by decide +kernel
theorem dX5_flip_46 : decode cX5_flip 46 = .ok (.iload_n 1, 1) := by decide +kernel
theorem dX5_flip_47 : decode cX5_flip 47 = .ok (.ior, 1) := by decide +kernel
theorem dX5_flip_48 : decode cX5_flip 48 = .ok (.iastore, 1) := by decide +kernel
theorem dX5_flip_49 : decode cX5_flip 49 = .ok (.iconst 0, 1) := by decide +kernel
theorem dX5_flip_50 : decode cX5_flip 50 = .ok (.istore_n 3, 1) := by decide +kernel
theorem dX5_flip_51 : decode cX5_flip 51 = .ok (.iconst 0, 1) := by decide +kernel
theorem dX5_flip_52 : decode cX5_flip 52 = .ok (.istore 4, 2) := by decide +kernel
theorem dX5_flip_54 : decode cX5_flip 54 = .ok (.iload 4, 2) := by decide +kernel
theorem dX5_flip_56 : decode cX5_flip 56 = .ok (.aload_n 0, 1) := by decide +kernel
theorem dX5_flip_57 : decode cX5_flip 57 = .ok (.getfield 75, 3) := by decide +kernel
theorem dX5_flip_60 : decode cX5_flip 60 = .ok (.if_icmp .ge 31, 3) := by decide +kernel
theorem dX5_flip_63 : decode cX5_flip 63 = .ok (.iload_n 3, 1) := by decide +kernel
theorem dX5_flip_64 : decode cX5_flip 64 = .ok (.aload_n 0, 1) := by decide +kernel
theorem dX5_flip_65 : decode cX5_flip 65 = .ok (.getfield 68, 3) := by decide +kernel
theorem dX5_flip_68 : decode cX5_flip 68 = .ok (.iload 4, 2) := by decide +kernel
theorem dX5_flip_70 : decode cX5_flip 70 = .ok (.iaload, 1) := by decide +kernel
theorem dX5_flip_71 : decode cX5_flip 71 = .ok (.iconst 1, 1) := by decide +kernel
theorem dX5_flip_72 : decode cX5_flip 72 = .ok (.iand, 1) := by decide +kernel
theorem dX5_flip_73 : decode cX5_flip 73 = .ok (.aload_n 0, 1) := by decide +kernel
theorem dX5_flip_74 : decode cX5_flip 74 = .ok (.getfield 68, 3) := by decide +kernel
theorem dX5_flip_77 : decode cX5_flip 77 = .ok (.iload 4, 2) := by decide +kernel
theorem dX5_flip_79 : decode cX5_flip 79 = .ok (.iaload, 1) := by decide +kernel
theorem dX5_flip_80 : decode cX5_flip 80 = .ok (.iconst 1, 1) := by decide +kernel
theorem dX5_flip_81 : decode cX5_flip 81 = .ok (.ishr, 1) := by decide +kernel
theorem dX5_flip_82 : decode cX5_flip 82 = .ok (.iadd, 1) := by decide +kernel
theorem dX5_flip_83 : decode cX5_flip 83 = .ok (.iadd, 1) := by decide +kernel
theorem dX5_flip_84 : decode cX5_flip 84 = .ok (.istore_n 3, 1) := by decide +kernel
theorem dX5_flip_85 : decode cX5_flip 85 = .ok (.iinc 4 1, 3) := by decide +kernel
theorem dX5_flip_88 : decode cX5_flip 88 = .ok (.goto (-34), 3) := by decide +kernel
theorem dX5_flip_91 : decode cX5_flip 91 = .ok (.iload_n 3, 1) := by decide +kernel
theorem dX5_flip_92 : decode cX5_flip 92 = .ok (.ireturn, 1) := by decide +kernel
theorem dX5_close_0 : decode cX5_close 0 = .ok (.aload_n 0, 1) := by decide +kernel
theorem dX5_close_1 : decode cX5_close 1 = .ok (.iconst 0, 1) := by decide +kernel
theorem dX5_close_2 : decode cX5_close 2 = .ok (.putfield 81, 3) := by decide +kernel
theorem dX5_close_5 : decode cX5_close 5 = .ok (.iconst 1, 1) := by decide +kernel
theorem dX5_close_6 : decode cX5_close 6 = .ok (.istore_n 2, 1) := by decide +kernel
theorem dX5_close_7 : decode cX5_close 7 = .ok (.iconst 1, 1) := by decide +kernel
theorem dX5_close_8 : decode cX5_close 8 = .ok (.istore_n 3, 1) := by decide +kernel
theorem dX5_close_9 : decode cX5_close 9 = .ok (.iload_n 3, 1) := by decide +kernel
theorem dX5_close_10 : decode cX5_close 10 = .ok (.aload_n 0, 1) := by decide +kernel
theorem dX5_close_11 : decode cX5_close 11 = .ok (.getfield 71, 3) := by decide +kernel
theorem dX5_close_14 : decode cX5_close 14 = .ok (.if_icmp .gt 122, 3) := by decide +kernel
theorem dX5_close_17 : decode cX5_close 17 = .ok (.iconst 1, 1) := by decide +kernel
theorem dX5_close_18 : decode cX5_close 18 = .ok (.istore 4, 2) := by decide +kernel
theorem dX5_close_20 : decode cX5_close 20 = .ok (.iload 4, 2) := by decide +kernel
theorem dX5_close_22 : decode cX5_close 22 = .ok (.iload_n 3, 1) := by decide +kernel
theorem dX5_close_23 : decode cX5_close 23 = .ok (.if_icmp .ge 107, 3) := by decide +kernel
theorem dX5_close_26 : decode cX5_close 26 = .ok (.aload_n 0, 1) := by decide +kernel
theorem dX5_close_27 : decode cX5_close 27 = .ok (.getfield 7, 3) := by decide +kernel
theorem dX5_close_30 : decode cX5_close 30 = .ok (.iload_n 3, 1) := by decide +kernel
theorem dX5_close_31 : decode cX5_close 31 = .ok (.iaload, 1) := by decide +kernel
theorem dX5_close_32 : decode cX5_close 32 = .ok (.iconst 2, 1) := by decide +kernel
theorem dX5_close_33 : decode cX5_close 33 = .ok (.if_icmp .ne 18, 3) := by decide +kernel
theorem dX5_close_36 : decode cX5_close 36 = .ok (.aload_n 0, 1) := by decide +kernel
theorem dX5_close_37 : decode cX5_close 37 = .ok (.getfield 7, 3) := by decide +kernel
theorem dX5_close_40 : decode cX5_close 40 = .ok (.iload 4, 2) := by decide +kernel
theorem dX5_close_42 : decode cX5_close 42 = .ok (.iaload, 1) := by decide +kernel
theorem dX5_close_43 : decode cX5_close 43 = .ok (.iconst 2, 1) := by decide +kernel
theorem dX5_close_44 : decode cX5_close 44 = .ok (.if_icmp .ne 7, 3) := by decide +kernel
theorem dX5_close_47 : decode cX5_close 47 = .ok (.iconst 1, 1) := by decide +kernel
theorem dX5_close_48 : decode cX5_close 48 = .ok (.goto 4, 3) := by decide +kernel
theorem dX5_close_51 : decode cX5_close 51 = .ok (.iconst 0, 1) := by decide +kernel
theorem dX5_close_52 : decode cX5_close 52 = .ok (.istore 5, 2) := by decide +kernel
theorem dX5_close_54 : decode cX5_close 54 = .ok (.aload_n 0, 1) := by decide +kernel
theorem dX5_close_55 : decode cX5_close 55 = .ok (.getfield 17, 3) := by decide +kernel
theorem dX5_close_58 : decode cX5_close 58 = .ok (.iload_n 3, 1) := by decide +kernel
theorem dX5_close_59 : decode cX5_close 59 = .ok (.iaload, 1) := by decide +kernel
theorem dX5_close_60 : decode cX5_close 60 = .ok (.aload_n 0, 1) := by decide +kernel
theorem dX5_close_61 : decode cX5_close 61 = .ok (.getfield 17, 3) := by decide +kernel
theorem dX5_close_64 : decode cX5_close 64 = .ok (.iload 4, 2) := by decide +kernel
theorem dX5_close_66 : decode cX5_close 66 = .ok (.iaload, 1) := by decide +kernel
theorem dX5_close_67 : decode cX5_close 67 = .ok (.if_icmp .le 20, 3) := by decide +kernel
theorem dX5_close_70 : decode cX5_close 70 = .ok (.aload_n 0, 1) := by decide +kernel
theorem dX5_close_71 : decode cX5_close 71 = .ok (.getfield 17, 3) := by decide +kernel
theorem dX5_close_74 : decode cX5_close 74 = .ok (.iload_n 3, 1) := by decide +kernel
theorem dX5_close_75 : decode cX5_close 75 = .ok (.iaload, 1) := by decide +kernel
theorem dX5_close_76 : decode cX5_close 76 = .ok (.aload_n 0, 1) := by decide +kernel
theorem dX5_close_77 : decode cX5_close 77 = .ok (.getfield 17, 3) := by decide +kernel
theorem dX5_close_80 : decode cX5_close 80 = .ok (.iload 4, 2) := by decide +kernel
theorem dX5_close_82 : decode cX5_close 82 = .ok (.iaload, 1) := by decide +kernel
theorem dX5_close_83 : decode cX5_close 83 = .ok (.isub, 1) := by decide +kernel
theorem dX5_close_84 : decode cX5_close 84 = .ok (.goto 17, 3) := by decide +kernel
theorem dX5_close_87 : decode cX5_close 87 = .ok (.aload_n 0, 1) := by decide +kernel
theorem dX5_close_88 : decode cX5_close 88 = .ok (.getfield 17, 3) := by decide +kernel
theorem dX5_close_91 : decode cX5_close 91 = .ok (.iload 4, 2) := by decide +kernel
theorem dX5_close_93 : decode cX5_close 93 = .ok (.iaload, 1) := by decide +kernel
theorem dX5_close_94 : decode cX5_close 94 = .ok (.aload_n 0, 1) := by decide +kernel
theorem dX5_close_95 : decode cX5_close 95 = .ok (.getfield 17, 3) := by decide +kernel
theorem dX5_close_98 : decode cX5_close 98 = .ok (.iload_n 3, 1) := by decide +kernel
theorem dX5_close_99 : decode cX5_close 99 = .ok (.iaload, 1) := by decide +kernel
theorem dX5_close_100 : decode cX5_close 100 = .ok (.isub, 1) := by decide +kernel
theorem dX5_close_101 : decode cX5_close 101 = .ok (.istore 6, 2) := by decide +kernel
theorem dX5_close_103 : decode cX5_close 103 = .ok (.iload_n 2, 1) := by decide +kernel
theorem dX5_close_104 : decode cX5_close 104 = .ok (.ifCond .eq 18, 3) := by decide +kernel
theorem dX5_close_107 : decode cX5_close 107 = .ok (.iload 5, 2) := by decide +kernel
theorem dX5_close_109 : decode cX5_close 109 = .ok (.ifCond .eq 9, 3) := by decide +kernel
theorem dX5_close_112 : decode cX5_close 112 = .ok (.iload 6, 2) := by decide +kernel
theorem dX5_close_114 : decode cX5_close 114 = .ok (.iload_n 1, 1) := by decide +kernel
theorem dX5_close_115 : decode cX5_close 115 = .ok (.if_icmp .gt 7, 3) := by decide +kernel
theorem dX5_close_118 : decode cX5_close 118 = .ok (.iconst 1, 1) := by decide +kernel
theorem dX5_close_119 : decode cX5_close 119 = .ok (.goto 4, 3) := by decide +kernel
theorem dX5_close_122 : decode cX5_close 122 = .ok (.iconst 0, 1) := by decide +kernel
theorem dX5_close_123 : decode cX5_close 123 = .ok (.istore_n 2, 1) := by decide +kernel
theorem dX5_close_124 : decode cX5_close 124 = .ok (.iinc 4 1, 3) := by decide +kernel
theorem dX5_close_127 : decode cX5_close 127 = .ok (.goto (-107), 3) := by decide +kernel
theorem dX5_close_130 : decode cX5_close 130 = .ok (.iinc 3 1, 3) := by decide +kernel
theorem dX5_close_133 : decode cX5_close 133 = .ok (.goto (-124), 3) := by decide +kernel
theorem dX5_close_136 : decode cX5_close 136 = .ok (.iload_n 2, 1) := by decide +kernel
theorem dX5_close_137 : decode cX5_close 137 = .ok (.ireturn, 1) := by decide +kernel
theorem dX5_midpoint_0 : decode cX5_midpoint 0 = .ok (.aload_n 0, 1) := by decide +kernel
theorem dX5_midpoint_1 : decode cX5_midpoint 1 = .ok (.iconst 0, 1) := by decide +kernel
theorem dX5_midpoint_2 : decode cX5_midpoint 2 = .ok (.putfield 81, 3) := by decide +kernel
theorem dX5_midpoint_5 : decode cX5_midpoint 5 = .ok (.aload_n 0, 1) := by decide +kernel
theorem dX5_midpoint_6 : decode cX5_midpoint 6 = .ok (.iload_n 1, 1) := by decide +kernel
theorem dX5_midpoint_7 : decode cX5_midpoint 7 = .ok (.invokevirtual 84, 3) := by decide +kernel
theorem dX5_midpoint_10 : decode cX5_midpoint 10 = .ok (.ifCond .eq 12, 3) := by decide +kernel
theorem dX5_midpoint_13 : decode cX5_midpoint 13 = .ok (.aload_n 0, 1) := by decide +kernel
theorem dX5_midpoint_14 : decode cX5_midpoint 14 = .ok (.getfield 26, 3) := by decide +kernel
theorem dX5_midpoint_17 : decode cX5_midpoint 17 = .ok (.iload_n 1, 1) := by decide +kernel
theorem dX5_midpoint_18 : decode cX5_midpoint 18 = .ok (.iaload, 1) := by decide +kernel
theorem dX5_midpoint_19 : decode cX5_midpoint 19 = .ok (.goto 4, 3) := by decide +kernel
theorem dX5_midpoint_22 : decode cX5_midpoint 22 = .ok (.iconst 0, 1) := by decide +kernel
theorem dX5_midpoint_23 : decode cX5_midpoint 23 = .ok (.ireturn, 1) := by decide +kernel
theorem dJx00060_init_da8c8_0 : decode cJx00060_init_da8c8 0 = .ok (.aload_n 0, 1) := by decide +kernel
theorem dJx00060_init_da8c8_1 : decode cJx00060_init_da8c8 1 = .ok (.invokespecial 1, 3) := by decide +kernel
theorem dJx00060_init_da8c8_4 : decode cJx00060_init_da8c8 4 = .ok (.return_, 1) := by decide +kernel
theorem dJx00060_init_a7421_0 : decode cJx00060_init_a7421 0 = .ok (.aload_n 0, 1) := by decide +kernel
theorem dJx00060_init_a7421_1 : decode cJx00060_init_a7421 1 = .ok (.aload_n 1, 1) := by decide +kernel
theorem dJx00060_init_a7421_2 : decode cJx00060_init_a7421 2 = .ok (.invokespecial 7, 3) := by decide +kernel
theorem dJx00060_init_a7421_5 : decode cJx00060_init_a7421 5 = .ok (.return_, 1) := by decide +kernel
theorem dJ6_bitCount_0f7a4_0 : decode cJ6_bitCount_0f7a4 0 = .ok (.iload_n 0, 1) := by decide +kernel
theorem dJ6_bitCount_0f7a4_1 : decode cJ6_bitCount_0f7a4 1 = .ok (.iload_n 0, 1) := by decide +kernel
theorem dJ6_bitCount_0f7a4_2 : decode cJ6_bitCount_0f7a4 2 = .ok (.iconst 1, 1) := by decide +kernel
theorem dJ6_bitCount_0f7a4_3 : decode cJ6_bitCount_0f7a4 3 = .ok (.iushr, 1) := by decide +kernel
theorem dJ6_bitCount_0f7a4_4 : decode cJ6_bitCount_0f7a4 4 = .ok (.ldc_w 265, 3) := by decide +kernel
theorem dJ6_bitCount_0f7a4_7 : decode cJ6_bitCount_0f7a4 7 = .ok (.iand, 1) := by decide +kernel
theorem dJ6_bitCount_0f7a4_8 : decode cJ6_bitCount_0f7a4 8 = .ok (.isub, 1) := by decide +kernel
theorem dJ6_bitCount_0f7a4_9 : decode cJ6_bitCount_0f7a4 9 = .ok (.istore_n 0, 1) := by decide +kernel
theorem dJ6_bitCount_0f7a4_10 : decode cJ6_bitCount_0f7a4 10 = .ok (.iload_n 0, 1) := by decide +kernel
theorem dJ6_bitCount_0f7a4_11 : decode cJ6_bitCount_0f7a4 11 = .ok (.ldc_w 266, 3) := by decide +kernel
theorem dJ6_bitCount_0f7a4_14 : decode cJ6_bitCount_0f7a4 14 = .ok (.iand, 1) := by decide +kernel
theorem dJ6_bitCount_0f7a4_15 : decode cJ6_bitCount_0f7a4 15 = .ok (.iload_n 0, 1) := by decide +kernel
theorem dJ6_bitCount_0f7a4_16 : decode cJ6_bitCount_0f7a4 16 = .ok (.iconst 2, 1) := by decide +kernel
theorem dJ6_bitCount_0f7a4_17 : decode cJ6_bitCount_0f7a4 17 = .ok (.iushr, 1) := by decide +kernel
theorem dJ6_bitCount_0f7a4_18 : decode cJ6_bitCount_0f7a4 18 = .ok (.ldc_w 266, 3) := by decide +kernel
theorem dJ6_bitCount_0f7a4_21 : decode cJ6_bitCount_0f7a4 21 = .ok (.iand, 1) := by decide +kernel
theorem dJ6_bitCount_0f7a4_22 : decode cJ6_bitCount_0f7a4 22 = .ok (.iadd, 1) := by decide +kernel
theorem dJ6_bitCount_0f7a4_23 : decode cJ6_bitCount_0f7a4 23 = .ok (.istore_n 0, 1) := by decide +kernel
theorem dJ6_bitCount_0f7a4_24 : decode cJ6_bitCount_0f7a4 24 = .ok (.iload_n 0, 1) := by decide +kernel
theorem dJ6_bitCount_0f7a4_25 : decode cJ6_bitCount_0f7a4 25 = .ok (.iload_n 0, 1) := by decide +kernel
theorem dJ6_bitCount_0f7a4_26 : decode cJ6_bitCount_0f7a4 26 = .ok (.iconst 4, 1) := by decide +kernel
theorem dJ6_bitCount_0f7a4_27 : decode cJ6_bitCount_0f7a4 27 = .ok (.iushr, 1) := by decide +kernel
theorem dJ6_bitCount_0f7a4_28 : decode cJ6_bitCount_0f7a4 28 = .ok (.iadd, 1) := by decide +kernel
theorem dJ6_bitCount_0f7a4_29 : decode cJ6_bitCount_0f7a4 29 = .ok (.ldc_w 267, 3) := by decide +kernel
theorem dJ6_bitCount_0f7a4_32 : decode cJ6_bitCount_0f7a4 32 = .ok (.iand, 1) := by decide +kernel
theorem dJ6_bitCount_0f7a4_33 : decode cJ6_bitCount_0f7a4 33 = .ok (.istore_n 0, 1) := by decide +kernel
theorem dJ6_bitCount_0f7a4_34 : decode cJ6_bitCount_0f7a4 34 = .ok (.iload_n 0, 1) := by decide +kernel
theorem dJ6_bitCount_0f7a4_35 : decode cJ6_bitCount_0f7a4 35 = .ok (.iload_n 0, 1) := by decide +kernel
theorem dJ6_bitCount_0f7a4_36 : decode cJ6_bitCount_0f7a4 36 = .ok (.bipush 8, 2) := by decide +kernel
theorem dJ6_bitCount_0f7a4_38 : decode cJ6_bitCount_0f7a4 38 = .ok (.iushr, 1) := by decide +kernel
theorem dJ6_bitCount_0f7a4_39 : decode cJ6_bitCount_0f7a4 39 = .ok (.iadd, 1) := by decide +kernel
theorem dJ6_bitCount_0f7a4_40 : decode cJ6_bitCount_0f7a4 40 = .ok (.istore_n 0, 1) := by decide +kernel
theorem dJ6_bitCount_0f7a4_41 : decode cJ6_bitCount_0f7a4 41 = .ok (.iload_n 0, 1) := by decide +kernel
theorem dJ6_bitCount_0f7a4_42 : decode cJ6_bitCount_0f7a4 42 = .ok (.iload_n 0, 1) := by decide +kernel
theorem dJ6_bitCount_0f7a4_43 : decode cJ6_bitCount_0f7a4 43 = .ok (.bipush 16, 2) := by decide +kernel
theorem dJ6_bitCount_0f7a4_45 : decode cJ6_bitCount_0f7a4 45 = .ok (.iushr, 1) := by decide +kernel
theorem dJ6_bitCount_0f7a4_46 : decode cJ6_bitCount_0f7a4 46 = .ok (.iadd, 1) := by decide +kernel
theorem dJ6_bitCount_0f7a4_47 : decode cJ6_bitCount_0f7a4 47 = .ok (.istore_n 0, 1) := by decide +kernel
theorem dJ6_bitCount_0f7a4_48 : decode cJ6_bitCount_0f7a4 48 = .ok (.iload_n 0, 1) := by decide +kernel
theorem dJ6_bitCount_0f7a4_49 : decode cJ6_bitCount_0f7a4 49 = .ok (.bipush 63, 2) := by decide +kernel
theorem dJ6_bitCount_0f7a4_51 : decode cJ6_bitCount_0f7a4 51 = .ok (.iand, 1) := by decide +kernel
theorem dJ6_bitCount_0f7a4_52 : decode cJ6_bitCount_0f7a4 52 = .ok (.ireturn, 1) := by decide +kernel
theorem dJ9_abs_067f4_0 : decode cJ9_abs_067f4 0 = .ok (.lload_n 0, 1) := by decide +kernel
theorem dJ9_abs_067f4_1 : decode cJ9_abs_067f4 1 = .ok (.lconst 0, 1) := by decide +kernel
theorem dJ9_abs_067f4_2 : decode cJ9_abs_067f4 2 = .ok (.lcmp, 1) := by decide +kernel
theorem dJ9_abs_067f4_3 : decode cJ9_abs_067f4 3 = .ok (.ifCond .ge 8, 3) := by decide +kernel
theorem dJ9_abs_067f4_6 : decode cJ9_abs_067f4 6 = .ok (.lload_n 0, 1) := by decide +kernel
theorem dJ9_abs_067f4_7 : decode cJ9_abs_067f4 7 = .ok (.lneg, 1) := by decide +kernel
theorem dJ9_abs_067f4_8 : decode cJ9_abs_067f4 8 = .ok (.goto 4, 3) := by decide +kernel
theorem dJ9_abs_067f4_11 : decode cJ9_abs_067f4 11 = .ok (.lload_n 0, 1) := by decide +kernel
theorem dJ9_abs_067f4_12 : decode cJ9_abs_067f4 12 = .ok (.lreturn, 1) := by decide +kernel
theorem dJ9_max_7cf53_0 : decode cJ9_max_7cf53 0 = .ok (.iload_n 0, 1) := by decide +kernel
theorem dJ9_max_7cf53_1 : decode cJ9_max_7cf53 1 = .ok (.iload_n 1, 1) := by decide +kernel
theorem dJ9_max_7cf53_2 : decode cJ9_max_7cf53 2 = .ok (.if_icmp .lt 7, 3) := by decide +kernel
theorem dJ9_max_7cf53_5 : decode cJ9_max_7cf53 5 = .ok (.iload_n 0, 1) := by decide +kernel
theorem dJ9_max_7cf53_6 : decode cJ9_max_7cf53 6 = .ok (.goto 4, 3) := by decide +kernel
theorem dJ9_max_7cf53_9 : decode cJ9_max_7cf53 9 = .ok (.iload_n 1, 1) := by decide +kernel
theorem dJ9_max_7cf53_10 : decode cJ9_max_7cf53 10 = .ok (.ireturn, 1) := by decide +kernel
theorem dJ9_min_7cf53_0 : decode cJ9_min_7cf53 0 = .ok (.iload_n 0, 1) := by decide +kernel
theorem dJ9_min_7cf53_1 : decode cJ9_min_7cf53 1 = .ok (.iload_n 1, 1) := by decide +kernel
theorem dJ9_min_7cf53_2 : decode cJ9_min_7cf53 2 = .ok (.if_icmp .gt 7, 3) := by decide +kernel
theorem dJ9_min_7cf53_5 : decode cJ9_min_7cf53 5 = .ok (.iload_n 0, 1) := by decide +kernel
theorem dJ9_min_7cf53_6 : decode cJ9_min_7cf53 6 = .ok (.goto 4, 3) := by decide +kernel
theorem dJ9_min_7cf53_9 : decode cJ9_min_7cf53 9 = .ok (.iload_n 1, 1) := by decide +kernel
theorem dJ9_min_7cf53_10 : decode cJ9_min_7cf53 10 = .ok (.ireturn, 1) := by decide +kernel
theorem dL_cell_0 : decode cL_cell 0 = .ok (.iload_n 1, 1) := by decide +kernel
theorem dL_cell_1 : decode cL_cell 1 = .ok (.aload_n 0, 1) := by decide +kernel
theorem dL_cell_2 : decode cL_cell 2 = .ok (.arraylength, 1) := by decide +kernel
theorem dL_cell_3 : decode cL_cell 3 = .ok (.if_icmp .ge 9, 3) := by decide +kernel
theorem dL_cell_6 : decode cL_cell 6 = .ok (.aload_n 0, 1) := by decide +kernel
theorem dL_cell_7 : decode cL_cell 7 = .ok (.iload_n 1, 1) := by decide +kernel
theorem dL_cell_8 : decode cL_cell 8 = .ok (.iaload, 1) := by decide +kernel
theorem dL_cell_9 : decode cL_cell 9 = .ok (.goto 4, 3) := by decide +kernel
theorem dL_cell_12 : decode cL_cell 12 = .ok (.iconst 0, 1) := by decide +kernel
theorem dL_cell_13 : decode cL_cell 13 = .ok (.ireturn, 1) := by decide +kernel
theorem dL_place_0 : decode cL_place 0 = .ok (.aload_n 3, 1) := by decide +kernel
theorem dL_place_1 : decode cL_place 1 = .ok (.iconst 0, 1) := by decide +kernel
theorem dL_place_2 : decode cL_place 2 = .ok (.aload_n 0, 1) := by decide +kernel
theorem dL_place_3 : decode cL_place 3 = .ok (.iload_n 1, 1) := by decide +kernel
theorem dL_place_4 : decode cL_place 4 = .ok (.iload_n 2, 1) := by decide +kernel
theorem dL_place_5 : decode cL_place 5 = .ok (.invokevirtual 7, 3) := by decide +kernel
theorem dL_place_8 : decode cL_place 8 = .ok (.i2l, 1) := by decide +kernel
theorem dL_place_9 : decode cL_place 9 = .ok (.lastore, 1) := by decide +kernel
theorem dL_place_10 : decode cL_place 10 = .ok (.goto 7, 3) := by decide +kernel
theorem dL_place_13 : decode cL_place 13 = .ok (.astore 4, 2) := by decide +kernel
theorem dL_place_15 : decode cL_place 15 = .ok (.iconst 1, 1) := by decide +kernel
theorem dL_place_16 : decode cL_place 16 = .ok (.ireturn, 1) := by decide +kernel
theorem dL_place_17 : decode cL_place 17 = .ok (.iconst 0, 1) := by decide +kernel
theorem dL_place_18 : decode cL_place 18 = .ok (.ireturn, 1) := by decide +kernel
theorem dL_law_0 : decode cL_law 0 = .ok (.new 8, 3) := by decide +kernel
theorem dL_law_3 : decode cL_law 3 = .ok (.dup, 1) := by decide +kernel
theorem dL_law_4 : decode cL_law 4 = .ok (.aload_n 0, 1) := by decide +kernel
theorem dL_law_5 : decode cL_law 5 = .ok (.iconst 0, 1) := by decide +kernel
theorem dL_law_6 : decode cL_law 6 = .ok (.invokestatic 15, 3) := by decide +kernel
theorem dL_law_9 : decode cL_law 9 = .ok (.aload_n 0, 1) := by decide +kernel
theorem dL_law_10 : decode cL_law 10 = .ok (.iconst 1, 1) := by decide +kernel
theorem dL_law_11 : decode cL_law 11 = .ok (.invokestatic 15, 3) := by decide +kernel
theorem dL_law_14 : decode cL_law 14 = .ok (.aload_n 0, 1) := by decide +kernel
theorem dL_law_15 : decode cL_law 15 = .ok (.iconst 2, 1) := by decide +kernel
theorem dL_law_16 : decode cL_law 16 = .ok (.invokestatic 15, 3) := by decide +kernel
theorem dL_law_19 : decode cL_law 19 = .ok (.invokespecial 21, 3) := by decide +kernel
theorem dL_law_22 : decode cL_law 22 = .ok (.astore_n 1, 1) := by decide +kernel
theorem dL_law_23 : decode cL_law 23 = .ok (.new 24, 3) := by decide +kernel
theorem dL_law_26 : decode cL_law 26 = .ok (.dup, 1) := by decide +kernel
theorem dL_law_27 : decode cL_law 27 = .ok (.aload_n 0, 1) := by decide +kernel
theorem dL_law_28 : decode cL_law 28 = .ok (.iconst 0, 1) := by decide +kernel
theorem dL_law_29 : decode cL_law 29 = .ok (.invokestatic 15, 3) := by decide +kernel
theorem dL_law_32 : decode cL_law 32 = .ok (.aload_n 0, 1) := by decide +kernel
theorem dL_law_33 : decode cL_law 33 = .ok (.iconst 1, 1) := by decide +kernel
theorem dL_law_34 : decode cL_law 34 = .ok (.invokestatic 15, 3) := by decide +kernel
theorem dL_law_37 : decode cL_law 37 = .ok (.aload_n 0, 1) := by decide +kernel
theorem dL_law_38 : decode cL_law 38 = .ok (.iconst 2, 1) := by decide +kernel
theorem dL_law_39 : decode cL_law 39 = .ok (.invokestatic 15, 3) := by decide +kernel
theorem dL_law_42 : decode cL_law 42 = .ok (.invokespecial 26, 3) := by decide +kernel
theorem dL_law_45 : decode cL_law 45 = .ok (.astore_n 2, 1) := by decide +kernel
theorem dL_law_46 : decode cL_law 46 = .ok (.iconst 1, 1) := by decide +kernel
theorem dL_law_47 : decode cL_law 47 = .ok (.newarray .long, 2) := by decide +kernel
theorem dL_law_49 : decode cL_law 49 = .ok (.astore_n 3, 1) := by decide +kernel
theorem dL_law_50 : decode cL_law 50 = .ok (.iconst 3, 1) := by decide +kernel
theorem dL_law_51 : decode cL_law 51 = .ok (.istore 4, 2) := by decide +kernel
theorem dL_law_53 : decode cL_law 53 = .ok (.iload 4, 2) := by decide +kernel
theorem dL_law_55 : decode cL_law 55 = .ok (.aload_n 0, 1) := by decide +kernel
theorem dL_law_56 : decode cL_law 56 = .ok (.arraylength, 1) := by decide +kernel
theorem dL_law_57 : decode cL_law 57 = .ok (.bipush 6, 2) := by decide +kernel
theorem dL_law_59 : decode cL_law 59 = .ok (.isub, 1) := by decide +kernel
theorem dL_law_60 : decode cL_law 60 = .ok (.if_icmp .gt 545, 3) := by decide +kernel
theorem dL_law_63 : decode cL_law 63 = .ok (.aload_n 0, 1) := by decide +kernel
theorem dL_law_64 : decode cL_law 64 = .ok (.iload 4, 2) := by decide +kernel
theorem dL_law_66 : decode cL_law 66 = .ok (.iaload, 1) := by decide +kernel
theorem dL_law_67 : decode cL_law 67 = .ok (.bipush 15, 2) := by decide +kernel
theorem dL_law_69 : decode cL_law 69 = .ok (.iand, 1) := by decide +kernel
theorem dL_law_70 : decode cL_law 70 = .ok (.tableswitch 529 0 11 #[62, 135, 184, 221, 246, 271, 296, 321, 389, 442, 479, 504], 62) := by decide +kernel
theorem dL_law_132 : decode cL_law 132 = .ok (.aload_n 1, 1) := by decide +kernel
theorem dL_law_133 : decode cL_law 133 = .ok (.aload_n 0, 1) := by decide +kernel
theorem dL_law_134 : decode cL_law 134 = .ok (.iload 4, 2) := by decide +kernel
theorem dL_law_136 : decode cL_law 136 = .ok (.iconst 1, 1) := by decide +kernel
theorem dL_law_137 : decode cL_law 137 = .ok (.iadd, 1) := by decide +kernel
theorem dL_law_138 : decode cL_law 138 = .ok (.iaload, 1) := by decide +kernel
theorem dL_law_139 : decode cL_law 139 = .ok (.aload_n 0, 1) := by decide +kernel
theorem dL_law_140 : decode cL_law 140 = .ok (.iload 4, 2) := by decide +kernel
theorem dL_law_142 : decode cL_law 142 = .ok (.iconst 2, 1) := by decide +kernel
theorem dL_law_143 : decode cL_law 143 = .ok (.iadd, 1) := by decide +kernel
theorem dL_law_144 : decode cL_law 144 = .ok (.iaload, 1) := by decide +kernel
theorem dL_law_145 : decode cL_law 145 = .ok (.aload_n 0, 1) := by decide +kernel
theorem dL_law_146 : decode cL_law 146 = .ok (.iload 4, 2) := by decide +kernel
theorem dL_law_148 : decode cL_law 148 = .ok (.iconst 3, 1) := by decide +kernel
theorem dL_law_149 : decode cL_law 149 = .ok (.iadd, 1) := by decide +kernel
theorem dL_law_150 : decode cL_law 150 = .ok (.iaload, 1) := by decide +kernel
theorem dL_law_151 : decode cL_law 151 = .ok (.aload_n 0, 1) := by decide +kernel
theorem dL_law_152 : decode cL_law 152 = .ok (.iload 4, 2) := by decide +kernel
theorem dL_law_154 : decode cL_law 154 = .ok (.iconst 4, 1) := by decide +kernel
theorem dL_law_155 : decode cL_law 155 = .ok (.iadd, 1) := by decide +kernel
theorem dL_law_156 : decode cL_law 156 = .ok (.iaload, 1) := by decide +kernel
theorem dL_law_157 : decode cL_law 157 = .ok (.aload_n 0, 1) := by decide +kernel
theorem dL_law_158 : decode cL_law 158 = .ok (.iload 4, 2) := by decide +kernel
theorem dL_law_160 : decode cL_law 160 = .ok (.iconst 5, 1) := by decide +kernel
theorem dL_law_161 : decode cL_law 161 = .ok (.iadd, 1) := by decide +kernel
theorem dL_law_162 : decode cL_law 162 = .ok (.iaload, 1) := by decide +kernel
theorem dL_law_163 : decode cL_law 163 = .ok (.invokevirtual 27, 3) := by decide +kernel
theorem dL_law_166 : decode cL_law 166 = .ok (.aload_n 2, 1) := by decide +kernel
theorem dL_law_167 : decode cL_law 167 = .ok (.aload_n 0, 1) := by decide +kernel
theorem dL_law_168 : decode cL_law 168 = .ok (.iload 4, 2) := by decide +kernel
theorem dL_law_170 : decode cL_law 170 = .ok (.iconst 1, 1) := by decide +kernel
theorem dL_law_171 : decode cL_law 171 = .ok (.iadd, 1) := by decide +kernel
theorem dL_law_172 : decode cL_law 172 = .ok (.iaload, 1) := by decide +kernel
theorem dL_law_173 : decode cL_law 173 = .ok (.aload_n 0, 1) := by decide +kernel
theorem dL_law_174 : decode cL_law 174 = .ok (.iload 4, 2) := by decide +kernel
theorem dL_law_176 : decode cL_law 176 = .ok (.iconst 2, 1) := by decide +kernel
theorem dL_law_177 : decode cL_law 177 = .ok (.iadd, 1) := by decide +kernel
theorem dL_law_178 : decode cL_law 178 = .ok (.iaload, 1) := by decide +kernel
theorem dL_law_179 : decode cL_law 179 = .ok (.aload_n 0, 1) := by decide +kernel
theorem dL_law_180 : decode cL_law 180 = .ok (.iload 4, 2) := by decide +kernel
theorem dL_law_182 : decode cL_law 182 = .ok (.iconst 3, 1) := by decide +kernel
theorem dL_law_183 : decode cL_law 183 = .ok (.iadd, 1) := by decide +kernel
theorem dL_law_184 : decode cL_law 184 = .ok (.iaload, 1) := by decide +kernel
theorem dL_law_185 : decode cL_law 185 = .ok (.aload_n 0, 1) := by decide +kernel
theorem dL_law_186 : decode cL_law 186 = .ok (.iload 4, 2) := by decide +kernel
theorem dL_law_188 : decode cL_law 188 = .ok (.iconst 4, 1) := by decide +kernel
theorem dL_law_189 : decode cL_law 189 = .ok (.iadd, 1) := by decide +kernel
theorem dL_law_190 : decode cL_law 190 = .ok (.iaload, 1) := by decide +kernel
theorem dL_law_191 : decode cL_law 191 = .ok (.aload_n 0, 1) := by decide +kernel
theorem dL_law_192 : decode cL_law 192 = .ok (.iload 4, 2) := by decide +kernel
theorem dL_law_194 : decode cL_law 194 = .ok (.iconst 5, 1) := by decide +kernel
theorem dL_law_195 : decode cL_law 195 = .ok (.iadd, 1) := by decide +kernel
theorem dL_law_196 : decode cL_law 196 = .ok (.iaload, 1) := by decide +kernel
theorem dL_law_197 : decode cL_law 197 = .ok (.invokevirtual 31, 3) := by decide +kernel
theorem dL_law_200 : decode cL_law 200 = .ok (.if_icmp .eq 399, 3) := by decide +kernel
theorem dL_law_203 : decode cL_law 203 = .ok (.iconst 0, 1) := by decide +kernel
theorem dL_law_204 : decode cL_law 204 = .ok (.ireturn, 1) := by decide +kernel
theorem dL_law_205 : decode cL_law 205 = .ok (.aload_n 1, 1) := by decide +kernel
theorem dL_law_206 : decode cL_law 206 = .ok (.aload_n 0, 1) := by decide +kernel
theorem dL_law_207 : decode cL_law 207 = .ok (.iload 4, 2) := by decide +kernel
theorem dL_law_209 : decode cL_law 209 = .ok (.iconst 1, 1) := by decide +kernel
theorem dL_law_210 : decode cL_law 210 = .ok (.iadd, 1) := by decide +kernel
theorem dL_law_211 : decode cL_law 211 = .ok (.iaload, 1) := by decide +kernel
theorem dL_law_212 : decode cL_law 212 = .ok (.aload_n 0, 1) := by decide +kernel
theorem dL_law_213 : decode cL_law 213 = .ok (.iload 4, 2) := by decide +kernel
theorem dL_law_215 : decode cL_law 215 = .ok (.iconst 2, 1) := by decide +kernel
theorem dL_law_216 : decode cL_law 216 = .ok (.iadd, 1) := by decide +kernel
theorem dL_law_217 : decode cL_law 217 = .ok (.iaload, 1) := by decide +kernel
theorem dL_law_218 : decode cL_law 218 = .ok (.aload_n 0, 1) := by decide +kernel
theorem dL_law_219 : decode cL_law 219 = .ok (.iload 4, 2) := by decide +kernel
theorem dL_law_221 : decode cL_law 221 = .ok (.iconst 3, 1) := by decide +kernel
theorem dL_law_222 : decode cL_law 222 = .ok (.iadd, 1) := by decide +kernel
theorem dL_law_223 : decode cL_law 223 = .ok (.iaload, 1) := by decide +kernel
theorem dL_law_224 : decode cL_law 224 = .ok (.invokevirtual 32, 3) := by decide +kernel
theorem dL_law_227 : decode cL_law 227 = .ok (.aload_n 2, 1) := by decide +kernel
theorem dL_law_228 : decode cL_law 228 = .ok (.aload_n 0, 1) := by decide +kernel
theorem dL_law_229 : decode cL_law 229 = .ok (.iload 4, 2) := by decide +kernel
theorem dL_law_231 : decode cL_law 231 = .ok (.iconst 1, 1) := by decide +kernel
theorem dL_law_232 : decode cL_law 232 = .ok (.iadd, 1) := by decide +kernel
theorem dL_law_233 : decode cL_law 233 = .ok (.iaload, 1) := by decide +kernel
theorem dL_law_234 : decode cL_law 234 = .ok (.aload_n 0, 1) := by decide +kernel
theorem dL_law_235 : decode cL_law 235 = .ok (.iload 4, 2) := by decide +kernel
theorem dL_law_237 : decode cL_law 237 = .ok (.iconst 2, 1) := by decide +kernel
theorem dL_law_238 : decode cL_law 238 = .ok (.iadd, 1) := by decide +kernel
theorem dL_law_239 : decode cL_law 239 = .ok (.iaload, 1) := by decide +kernel
theorem dL_law_240 : decode cL_law 240 = .ok (.aload_n 0, 1) := by decide +kernel
theorem dL_law_241 : decode cL_law 241 = .ok (.iload 4, 2) := by decide +kernel
theorem dL_law_243 : decode cL_law 243 = .ok (.iconst 3, 1) := by decide +kernel
theorem dL_law_244 : decode cL_law 244 = .ok (.iadd, 1) := by decide +kernel
theorem dL_law_245 : decode cL_law 245 = .ok (.iaload, 1) := by decide +kernel
theorem dL_law_246 : decode cL_law 246 = .ok (.invokevirtual 36, 3) := by decide +kernel
theorem dL_law_249 : decode cL_law 249 = .ok (.if_icmp .eq 350, 3) := by decide +kernel
theorem dL_law_252 : decode cL_law 252 = .ok (.iconst 0, 1) := by decide +kernel
theorem dL_law_253 : decode cL_law 253 = .ok (.ireturn, 1) := by decide +kernel
theorem dL_law_254 : decode cL_law 254 = .ok (.aload_n 1, 1) := by decide +kernel
theorem dL_law_255 : decode cL_law 255 = .ok (.aload_n 0, 1) := by decide +kernel
theorem dL_law_256 : decode cL_law 256 = .ok (.iload 4, 2) := by decide +kernel
theorem dL_law_258 : decode cL_law 258 = .ok (.iconst 1, 1) := by decide +kernel
theorem dL_law_259 : decode cL_law 259 = .ok (.iadd, 1) := by decide +kernel
theorem dL_law_260 : decode cL_law 260 = .ok (.iaload, 1) := by decide +kernel
theorem dL_law_261 : decode cL_law 261 = .ok (.aload_n 0, 1) := by decide +kernel
theorem dL_law_262 : decode cL_law 262 = .ok (.iload 4, 2) := by decide +kernel
theorem dL_law_264 : decode cL_law 264 = .ok (.iconst 2, 1) := by decide +kernel
theorem dL_law_265 : decode cL_law 265 = .ok (.iadd, 1) := by decide +kernel
theorem dL_law_266 : decode cL_law 266 = .ok (.iaload, 1) := by decide +kernel
theorem dL_law_267 : decode cL_law 267 = .ok (.invokevirtual 37, 3) := by decide +kernel
theorem dL_law_270 : decode cL_law 270 = .ok (.aload_n 2, 1) := by decide +kernel
theorem dL_law_271 : decode cL_law 271 = .ok (.aload_n 0, 1) := by decide +kernel
theorem dL_law_272 : decode cL_law 272 = .ok (.iload 4, 2) := by decide +kernel
theorem dL_law_274 : decode cL_law 274 = .ok (.iconst 1, 1) := by decide +kernel
theorem dL_law_275 : decode cL_law 275 = .ok (.iadd, 1) := by decide +kernel
theorem dL_law_276 : decode cL_law 276 = .ok (.iaload, 1) := by decide +kernel
theorem dL_law_277 : decode cL_law 277 = .ok (.aload_n 0, 1) := by decide +kernel
theorem dL_law_278 : decode cL_law 278 = .ok (.iload 4, 2) := by decide +kernel
theorem dL_law_280 : decode cL_law 280 = .ok (.iconst 2, 1) := by decide +kernel
theorem dL_law_281 : decode cL_law 281 = .ok (.iadd, 1) := by decide +kernel
theorem dL_law_282 : decode cL_law 282 = .ok (.iaload, 1) := by decide +kernel
theorem dL_law_283 : decode cL_law 283 = .ok (.invokevirtual 40, 3) := by decide +kernel
theorem dL_law_286 : decode cL_law 286 = .ok (.if_icmp .eq 313, 3) := by decide +kernel
theorem dL_law_289 : decode cL_law 289 = .ok (.iconst 0, 1) := by decide +kernel
theorem dL_law_290 : decode cL_law 290 = .ok (.ireturn, 1) := by decide +kernel
theorem dL_law_291 : decode cL_law 291 = .ok (.aload_n 1, 1) := by decide +kernel
theorem dL_law_292 : decode cL_law 292 = .ok (.aload_n 0, 1) := by decide +kernel
theorem dL_law_293 : decode cL_law 293 = .ok (.iload 4, 2) := by decide +kernel
theorem dL_law_295 : decode cL_law 295 = .ok (.iconst 1, 1) := by decide +kernel
theorem dL_law_296 : decode cL_law 296 = .ok (.iadd, 1) := by decide +kernel
theorem dL_law_297 : decode cL_law 297 = .ok (.iaload, 1) := by decide +kernel
theorem dL_law_298 : decode cL_law 298 = .ok (.invokevirtual 41, 3) := by decide +kernel
theorem dL_law_301 : decode cL_law 301 = .ok (.aload_n 2, 1) := by decide +kernel
theorem dL_law_302 : decode cL_law 302 = .ok (.aload_n 0, 1) := by decide +kernel
theorem dL_law_303 : decode cL_law 303 = .ok (.iload 4, 2) := by decide +kernel
theorem dL_law_305 : decode cL_law 305 = .ok (.iconst 1, 1) := by decide +kernel
theorem dL_law_306 : decode cL_law 306 = .ok (.iadd, 1) := by decide +kernel
theorem dL_law_307 : decode cL_law 307 = .ok (.iaload, 1) := by decide +kernel
theorem dL_law_308 : decode cL_law 308 = .ok (.invokevirtual 45, 3) := by decide +kernel
theorem dL_law_311 : decode cL_law 311 = .ok (.if_icmp .eq 288, 3) := by decide +kernel
theorem dL_law_314 : decode cL_law 314 = .ok (.iconst 0, 1) := by decide +kernel
theorem dL_law_315 : decode cL_law 315 = .ok (.ireturn, 1) := by decide +kernel
theorem dL_law_316 : decode cL_law 316 = .ok (.aload_n 1, 1) := by decide +kernel
theorem dL_law_317 : decode cL_law 317 = .ok (.aload_n 0, 1) := by decide +kernel
theorem dL_law_318 : decode cL_law 318 = .ok (.iload 4, 2) := by decide +kernel
theorem dL_law_320 : decode cL_law 320 = .ok (.iconst 1, 1) := by decide +kernel
theorem dL_law_321 : decode cL_law 321 = .ok (.iadd, 1) := by decide +kernel
theorem dL_law_322 : decode cL_law 322 = .ok (.iaload, 1) := by decide +kernel
theorem dL_law_323 : decode cL_law 323 = .ok (.invokevirtual 46, 3) := by decide +kernel
theorem dL_law_326 : decode cL_law 326 = .ok (.aload_n 2, 1) := by decide +kernel
theorem dL_law_327 : decode cL_law 327 = .ok (.aload_n 0, 1) := by decide +kernel
theorem dL_law_328 : decode cL_law 328 = .ok (.iload 4, 2) := by decide +kernel
theorem dL_law_330 : decode cL_law 330 = .ok (.iconst 1, 1) := by decide +kernel
theorem dL_law_331 : decode cL_law 331 = .ok (.iadd, 1) := by decide +kernel
theorem dL_law_332 : decode cL_law 332 = .ok (.iaload, 1) := by decide +kernel
theorem dL_law_333 : decode cL_law 333 = .ok (.invokevirtual 49, 3) := by decide +kernel
theorem dL_law_336 : decode cL_law 336 = .ok (.if_icmp .eq 263, 3) := by decide +kernel
theorem dL_law_339 : decode cL_law 339 = .ok (.iconst 0, 1) := by decide +kernel
theorem dL_law_340 : decode cL_law 340 = .ok (.ireturn, 1) := by decide +kernel
theorem dL_law_341 : decode cL_law 341 = .ok (.aload_n 1, 1) := by decide +kernel
theorem dL_law_342 : decode cL_law 342 = .ok (.aload_n 0, 1) := by decide +kernel
theorem dL_law_343 : decode cL_law 343 = .ok (.iload 4, 2) := by decide +kernel
theorem dL_law_345 : decode cL_law 345 = .ok (.iconst 1, 1) := by decide +kernel
theorem dL_law_346 : decode cL_law 346 = .ok (.iadd, 1) := by decide +kernel
theorem dL_law_347 : decode cL_law 347 = .ok (.iaload, 1) := by decide +kernel
theorem dL_law_348 : decode cL_law 348 = .ok (.invokevirtual 50, 3) := by decide +kernel
theorem dL_law_351 : decode cL_law 351 = .ok (.aload_n 2, 1) := by decide +kernel
theorem dL_law_352 : decode cL_law 352 = .ok (.aload_n 0, 1) := by decide +kernel
theorem dL_law_353 : decode cL_law 353 = .ok (.iload 4, 2) := by decide +kernel
theorem dL_law_355 : decode cL_law 355 = .ok (.iconst 1, 1) := by decide +kernel
theorem dL_law_356 : decode cL_law 356 = .ok (.iadd, 1) := by decide +kernel
theorem dL_law_357 : decode cL_law 357 = .ok (.iaload, 1) := by decide +kernel
theorem dL_law_358 : decode cL_law 358 = .ok (.invokevirtual 53, 3) := by decide +kernel
theorem dL_law_361 : decode cL_law 361 = .ok (.if_icmp .eq 238, 3) := by decide +kernel
theorem dL_law_364 : decode cL_law 364 = .ok (.iconst 0, 1) := by decide +kernel
theorem dL_law_365 : decode cL_law 365 = .ok (.ireturn, 1) := by decide +kernel
theorem dL_law_366 : decode cL_law 366 = .ok (.aload_n 1, 1) := by decide +kernel
theorem dL_law_367 : decode cL_law 367 = .ok (.aload_n 0, 1) := by decide +kernel
theorem dL_law_368 : decode cL_law 368 = .ok (.iload 4, 2) := by decide +kernel
theorem dL_law_370 : decode cL_law 370 = .ok (.iconst 1, 1) := by decide +kernel
theorem dL_law_371 : decode cL_law 371 = .ok (.iadd, 1) := by decide +kernel
theorem dL_law_372 : decode cL_law 372 = .ok (.iaload, 1) := by decide +kernel
theorem dL_law_373 : decode cL_law 373 = .ok (.invokevirtual 54, 3) := by decide +kernel
theorem dL_law_376 : decode cL_law 376 = .ok (.aload_n 2, 1) := by decide +kernel
theorem dL_law_377 : decode cL_law 377 = .ok (.aload_n 0, 1) := by decide +kernel
theorem dL_law_378 : decode cL_law 378 = .ok (.iload 4, 2) := by decide +kernel
theorem dL_law_380 : decode cL_law 380 = .ok (.iconst 1, 1) := by decide +kernel
theorem dL_law_381 : decode cL_law 381 = .ok (.iadd, 1) := by decide +kernel
theorem dL_law_382 : decode cL_law 382 = .ok (.iaload, 1) := by decide +kernel
theorem dL_law_383 : decode cL_law 383 = .ok (.invokevirtual 57, 3) := by decide +kernel
theorem dL_law_386 : decode cL_law 386 = .ok (.if_icmp .eq 213, 3) := by decide +kernel
theorem dL_law_389 : decode cL_law 389 = .ok (.iconst 0, 1) := by decide +kernel
theorem dL_law_390 : decode cL_law 390 = .ok (.ireturn, 1) := by decide +kernel
theorem dL_law_391 : decode cL_law 391 = .ok (.aload_n 1, 1) := by decide +kernel
theorem dL_law_392 : decode cL_law 392 = .ok (.aload_n 0, 1) := by decide +kernel
theorem dL_law_393 : decode cL_law 393 = .ok (.iload 4, 2) := by decide +kernel
theorem dL_law_395 : decode cL_law 395 = .ok (.iconst 1, 1) := by decide +kernel
theorem dL_law_396 : decode cL_law 396 = .ok (.iadd, 1) := by decide +kernel
theorem dL_law_397 : decode cL_law 397 = .ok (.iaload, 1) := by decide +kernel
theorem dL_law_398 : decode cL_law 398 = .ok (.aload_n 0, 1) := by decide +kernel
theorem dL_law_399 : decode cL_law 399 = .ok (.iload 4, 2) := by decide +kernel
theorem dL_law_401 : decode cL_law 401 = .ok (.iconst 2, 1) := by decide +kernel
theorem dL_law_402 : decode cL_law 402 = .ok (.iadd, 1) := by decide +kernel
theorem dL_law_403 : decode cL_law 403 = .ok (.iaload, 1) := by decide +kernel
theorem dL_law_404 : decode cL_law 404 = .ok (.aload_n 3, 1) := by decide +kernel
theorem dL_law_405 : decode cL_law 405 = .ok (.invokestatic 58, 3) := by decide +kernel
theorem dL_law_408 : decode cL_law 408 = .ok (.istore 5, 2) := by decide +kernel
theorem dL_law_410 : decode cL_law 410 = .ok (.aload_n 2, 1) := by decide +kernel
theorem dL_law_411 : decode cL_law 411 = .ok (.aload_n 0, 1) := by decide +kernel
theorem dL_law_412 : decode cL_law 412 = .ok (.iload 4, 2) := by decide +kernel
theorem dL_law_414 : decode cL_law 414 = .ok (.iconst 1, 1) := by decide +kernel
theorem dL_law_415 : decode cL_law 415 = .ok (.iadd, 1) := by decide +kernel
theorem dL_law_416 : decode cL_law 416 = .ok (.iaload, 1) := by decide +kernel
theorem dL_law_417 : decode cL_law 417 = .ok (.aload_n 0, 1) := by decide +kernel
theorem dL_law_418 : decode cL_law 418 = .ok (.iload 4, 2) := by decide +kernel
theorem dL_law_420 : decode cL_law 420 = .ok (.iconst 2, 1) := by decide +kernel
theorem dL_law_421 : decode cL_law 421 = .ok (.iadd, 1) := by decide +kernel
theorem dL_law_422 : decode cL_law 422 = .ok (.iaload, 1) := by decide +kernel
theorem dL_law_423 : decode cL_law 423 = .ok (.invokevirtual 61, 3) := by decide +kernel
theorem dL_law_426 : decode cL_law 426 = .ok (.istore 6, 2) := by decide +kernel
theorem dL_law_428 : decode cL_law 428 = .ok (.aload_n 2, 1) := by decide +kernel
theorem dL_law_429 : decode cL_law 429 = .ok (.invokevirtual 62, 3) := by decide +kernel
theorem dL_law_432 : decode cL_law 432 = .ok (.iload 5, 2) := by decide +kernel
theorem dL_law_434 : decode cL_law 434 = .ok (.if_icmp .eq 5, 3) := by decide +kernel
theorem dL_law_437 : decode cL_law 437 = .ok (.iconst 0, 1) := by decide +kernel
theorem dL_law_438 : decode cL_law 438 = .ok (.ireturn, 1) := by decide +kernel
theorem dL_law_439 : decode cL_law 439 = .ok (.iload 5, 2) := by decide +kernel
theorem dL_law_441 : decode cL_law 441 = .ok (.ifCond .ne 15, 3) := by decide +kernel
theorem dL_law_444 : decode cL_law 444 = .ok (.aload_n 3, 1) := by decide +kernel
theorem dL_law_445 : decode cL_law 445 = .ok (.iconst 0, 1) := by decide +kernel
theorem dL_law_446 : decode cL_law 446 = .ok (.laload, 1) := by decide +kernel
theorem dL_law_447 : decode cL_law 447 = .ok (.iload 6, 2) := by decide +kernel
theorem dL_law_449 : decode cL_law 449 = .ok (.i2l, 1) := by decide +kernel
theorem dL_law_450 : decode cL_law 450 = .ok (.lcmp, 1) := by decide +kernel
theorem dL_law_451 : decode cL_law 451 = .ok (.ifCond .eq 5, 3) := by decide +kernel
theorem dL_law_454 : decode cL_law 454 = .ok (.iconst 0, 1) := by decide +kernel
theorem dL_law_455 : decode cL_law 455 = .ok (.ireturn, 1) := by decide +kernel
theorem dL_law_456 : decode cL_law 456 = .ok (.goto 143, 3) := by decide +kernel
theorem dL_law_459 : decode cL_law 459 = .ok (.aload_n 1, 1) := by decide +kernel
theorem dL_law_460 : decode cL_law 460 = .ok (.aload_n 0, 1) := by decide +kernel
theorem dL_law_461 : decode cL_law 461 = .ok (.iload 4, 2) := by decide +kernel
theorem dL_law_463 : decode cL_law 463 = .ok (.iconst 1, 1) := by decide +kernel
theorem dL_law_464 : decode cL_law 464 = .ok (.iadd, 1) := by decide +kernel
theorem dL_law_465 : decode cL_law 465 = .ok (.iaload, 1) := by decide +kernel
theorem dL_law_466 : decode cL_law 466 = .ok (.aload_n 0, 1) := by decide +kernel
theorem dL_law_467 : decode cL_law 467 = .ok (.iload 4, 2) := by decide +kernel
theorem dL_law_469 : decode cL_law 469 = .ok (.iconst 2, 1) := by decide +kernel
theorem dL_law_470 : decode cL_law 470 = .ok (.iadd, 1) := by decide +kernel
theorem dL_law_471 : decode cL_law 471 = .ok (.iaload, 1) := by decide +kernel
theorem dL_law_472 : decode cL_law 472 = .ok (.ifCond .eq 7, 3) := by decide +kernel
theorem dL_law_475 : decode cL_law 475 = .ok (.iconst 1, 1) := by decide +kernel
theorem dL_law_476 : decode cL_law 476 = .ok (.goto 4, 3) := by decide +kernel
theorem dL_law_479 : decode cL_law 479 = .ok (.iconst 0, 1) := by decide +kernel
theorem dL_law_480 : decode cL_law 480 = .ok (.invokevirtual 66, 3) := by decide +kernel
theorem dL_law_483 : decode cL_law 483 = .ok (.aload_n 2, 1) := by decide +kernel
theorem dL_law_484 : decode cL_law 484 = .ok (.aload_n 0, 1) := by decide +kernel
theorem dL_law_485 : decode cL_law 485 = .ok (.iload 4, 2) := by decide +kernel
theorem dL_law_487 : decode cL_law 487 = .ok (.iconst 1, 1) := by decide +kernel
theorem dL_law_488 : decode cL_law 488 = .ok (.iadd, 1) := by decide +kernel
theorem dL_law_489 : decode cL_law 489 = .ok (.iaload, 1) := by decide +kernel
theorem dL_law_490 : decode cL_law 490 = .ok (.aload_n 0, 1) := by decide +kernel
theorem dL_law_491 : decode cL_law 491 = .ok (.iload 4, 2) := by decide +kernel
theorem dL_law_493 : decode cL_law 493 = .ok (.iconst 2, 1) := by decide +kernel
theorem dL_law_494 : decode cL_law 494 = .ok (.iadd, 1) := by decide +kernel
theorem dL_law_495 : decode cL_law 495 = .ok (.iaload, 1) := by decide +kernel
theorem dL_law_496 : decode cL_law 496 = .ok (.ifCond .eq 7, 3) := by decide +kernel
theorem dL_law_499 : decode cL_law 499 = .ok (.iconst 1, 1) := by decide +kernel
theorem dL_law_500 : decode cL_law 500 = .ok (.goto 4, 3) := by decide +kernel
theorem dL_law_503 : decode cL_law 503 = .ok (.iconst 0, 1) := by decide +kernel
theorem dL_law_504 : decode cL_law 504 = .ok (.invokevirtual 70, 3) := by decide +kernel
theorem dL_law_507 : decode cL_law 507 = .ok (.if_icmp .eq 92, 3) := by decide +kernel
theorem dL_law_510 : decode cL_law 510 = .ok (.iconst 0, 1) := by decide +kernel
theorem dL_law_511 : decode cL_law 511 = .ok (.ireturn, 1) := by decide +kernel
theorem dL_law_512 : decode cL_law 512 = .ok (.aload_n 1, 1) := by decide +kernel
theorem dL_law_513 : decode cL_law 513 = .ok (.aload_n 0, 1) := by decide +kernel
theorem dL_law_514 : decode cL_law 514 = .ok (.iload 4, 2) := by decide +kernel
theorem dL_law_516 : decode cL_law 516 = .ok (.iconst 1, 1) := by decide +kernel
theorem dL_law_517 : decode cL_law 517 = .ok (.iadd, 1) := by decide +kernel
theorem dL_law_518 : decode cL_law 518 = .ok (.iaload, 1) := by decide +kernel
theorem dL_law_519 : decode cL_law 519 = .ok (.aload_n 0, 1) := by decide +kernel
theorem dL_law_520 : decode cL_law 520 = .ok (.iload 4, 2) := by decide +kernel
theorem dL_law_522 : decode cL_law 522 = .ok (.iconst 2, 1) := by decide +kernel
theorem dL_law_523 : decode cL_law 523 = .ok (.iadd, 1) := by decide +kernel
theorem dL_law_524 : decode cL_law 524 = .ok (.iaload, 1) := by decide +kernel
theorem dL_law_525 : decode cL_law 525 = .ok (.invokevirtual 71, 3) := by decide +kernel
theorem dL_law_528 : decode cL_law 528 = .ok (.aload_n 2, 1) := by decide +kernel
theorem dL_law_529 : decode cL_law 529 = .ok (.aload_n 0, 1) := by decide +kernel
theorem dL_law_530 : decode cL_law 530 = .ok (.iload 4, 2) := by decide +kernel
theorem dL_law_532 : decode cL_law 532 = .ok (.iconst 1, 1) := by decide +kernel
theorem dL_law_533 : decode cL_law 533 = .ok (.iadd, 1) := by decide +kernel
theorem dL_law_534 : decode cL_law 534 = .ok (.iaload, 1) := by decide +kernel
theorem dL_law_535 : decode cL_law 535 = .ok (.aload_n 0, 1) := by decide +kernel
theorem dL_law_536 : decode cL_law 536 = .ok (.iload 4, 2) := by decide +kernel
theorem dL_law_538 : decode cL_law 538 = .ok (.iconst 2, 1) := by decide +kernel
theorem dL_law_539 : decode cL_law 539 = .ok (.iadd, 1) := by decide +kernel
theorem dL_law_540 : decode cL_law 540 = .ok (.iaload, 1) := by decide +kernel
theorem dL_law_541 : decode cL_law 541 = .ok (.invokevirtual 74, 3) := by decide +kernel
theorem dL_law_544 : decode cL_law 544 = .ok (.if_icmp .eq 55, 3) := by decide +kernel
theorem dL_law_547 : decode cL_law 547 = .ok (.iconst 0, 1) := by decide +kernel
theorem dL_law_548 : decode cL_law 548 = .ok (.ireturn, 1) := by decide +kernel
theorem dL_law_549 : decode cL_law 549 = .ok (.aload_n 1, 1) := by decide +kernel
theorem dL_law_550 : decode cL_law 550 = .ok (.aload_n 0, 1) := by decide +kernel
theorem dL_law_551 : decode cL_law 551 = .ok (.iload 4, 2) := by decide +kernel
theorem dL_law_553 : decode cL_law 553 = .ok (.iconst 1, 1) := by decide +kernel
theorem dL_law_554 : decode cL_law 554 = .ok (.iadd, 1) := by decide +kernel
theorem dL_law_555 : decode cL_law 555 = .ok (.iaload, 1) := by decide +kernel
theorem dL_law_556 : decode cL_law 556 = .ok (.invokevirtual 75, 3) := by decide +kernel
theorem dL_law_559 : decode cL_law 559 = .ok (.aload_n 2, 1) := by decide +kernel
theorem dL_law_560 : decode cL_law 560 = .ok (.aload_n 0, 1) := by decide +kernel
theorem dL_law_561 : decode cL_law 561 = .ok (.iload 4, 2) := by decide +kernel
theorem dL_law_563 : decode cL_law 563 = .ok (.iconst 1, 1) := by decide +kernel
theorem dL_law_564 : decode cL_law 564 = .ok (.iadd, 1) := by decide +kernel
theorem dL_law_565 : decode cL_law 565 = .ok (.iaload, 1) := by decide +kernel
theorem dL_law_566 : decode cL_law 566 = .ok (.invokevirtual 79, 3) := by decide +kernel
theorem dL_law_569 : decode cL_law 569 = .ok (.if_icmp .eq 30, 3) := by decide +kernel
theorem dL_law_572 : decode cL_law 572 = .ok (.iconst 0, 1) := by decide +kernel
theorem dL_law_573 : decode cL_law 573 = .ok (.ireturn, 1) := by decide +kernel
theorem dL_law_574 : decode cL_law 574 = .ok (.aload_n 1, 1) := by decide +kernel
theorem dL_law_575 : decode cL_law 575 = .ok (.aload_n 0, 1) := by decide +kernel
theorem dL_law_576 : decode cL_law 576 = .ok (.iload 4, 2) := by decide +kernel
theorem dL_law_578 : decode cL_law 578 = .ok (.iconst 1, 1) := by decide +kernel
theorem dL_law_579 : decode cL_law 579 = .ok (.iadd, 1) := by decide +kernel
theorem dL_law_580 : decode cL_law 580 = .ok (.iaload, 1) := by decide +kernel
theorem dL_law_581 : decode cL_law 581 = .ok (.invokevirtual 80, 3) := by decide +kernel
theorem dL_law_584 : decode cL_law 584 = .ok (.aload_n 2, 1) := by decide +kernel
theorem dL_law_585 : decode cL_law 585 = .ok (.aload_n 0, 1) := by decide +kernel
theorem dL_law_586 : decode cL_law 586 = .ok (.iload 4, 2) := by decide +kernel
theorem dL_law_588 : decode cL_law 588 = .ok (.iconst 1, 1) := by decide +kernel
theorem dL_law_589 : decode cL_law 589 = .ok (.iadd, 1) := by decide +kernel
theorem dL_law_590 : decode cL_law 590 = .ok (.iaload, 1) := by decide +kernel
theorem dL_law_591 : decode cL_law 591 = .ok (.invokevirtual 83, 3) := by decide +kernel
theorem dL_law_594 : decode cL_law 594 = .ok (.if_icmp .eq 5, 3) := by decide +kernel
theorem dL_law_597 : decode cL_law 597 = .ok (.iconst 0, 1) := by decide +kernel
theorem dL_law_598 : decode cL_law 598 = .ok (.ireturn, 1) := by decide +kernel
theorem dL_law_599 : decode cL_law 599 = .ok (.iinc 4 6, 3) := by decide +kernel
theorem dL_law_602 : decode cL_law 602 = .ok (.goto (-549), 3) := by decide +kernel
theorem dL_law_605 : decode cL_law 605 = .ok (.iconst 1, 1) := by decide +kernel
theorem dL_law_606 : decode cL_law 606 = .ok (.ireturn, 1) := by decide +kernel
end
section
/-- all good words of the tables: every method's words are its own code, then these -/
def ALL : List Cond := lw_tbl.filter goodWord
theorem all_1 {w : Cond} (h : w ∈ tables_1_1) (g : goodWord w = true) : w ∈ ALL := List.mem_filter.mpr ⟨List.mem_append_right _ (List.mem_append_left _ h), g⟩
theorem all_2 {w : Cond} (h : w ∈ tables_1_2) (g : goodWord w = true) : w ∈ ALL := List.mem_filter.mpr ⟨List.mem_append_right _ (List.mem_append_right _ (List.mem_append_left _ h)), g⟩
theorem all_3 {w : Cond} (h : w ∈ tables_1_3) (g : goodWord w = true) : w ∈ ALL := List.mem_filter.mpr ⟨List.mem_append_right _ (List.mem_append_right _ (List.mem_append_right _ h)), g⟩
theorem all_s {C : String} {x y : MethodName} (h : Cond.selects C x y ∈ k2_sels lw_privs) : Cond.selects C x y ∈ ALL := List.mem_filter.mpr ⟨List.mem_append_left _ h, rfl⟩
theorem all_of (ws : List Cond) (ps : List Nat) (hp : ws = ps.filterMap (fun i => lw_tbl[i]?)) (h : ws.all goodWord = true) : ∀ w ∈ ws, w ∈ ALL := by
  intro w hw
  have h1 := List.all_eq_true.mp h w hw
  rw [hp] at hw
  obtain ⟨i, -, hi⟩ := List.mem_filterMap.mp hw
  exact List.mem_filter.mpr ⟨List.mem_of_getElem? hi, h1⟩
theorem all_tbl {w : Cond} (h : w ∈ ALL) : w ∈ lw_tbl := (List.mem_filter.mp h).1
theorem all_good : GoodIn ALL ALL := fun w h => ⟨h, good_of_word (List.mem_filter.mp h).2⟩
theorem all_goodC {w : Cond} (h : w ∈ ALL) : GoodIn ALL (w :: ALL) := fun x hx => (List.mem_cons.mp hx).elim (fun e => by rw [e]; exact all_good w h) (all_good x)
theorem wI_L : (.initialized RL : Cond) ∈ ALL := all_1 (List.mem_of_getElem? (i := 0) (by decide +kernel)) rfl
theorem wI_X4 : (.initialized RX4 : Cond) ∈ ALL := all_1 (List.mem_of_getElem? (i := 1) (by decide +kernel)) rfl
theorem wI_X2 : (.initialized RX2 : Cond) ∈ ALL := all_1 (List.mem_of_getElem? (i := 2) (by decide +kernel)) rfl
theorem wI_X3 : (.initialized RX3 : Cond) ∈ ALL := all_1 (List.mem_of_getElem? (i := 3) (by decide +kernel)) rfl
theorem wI_X0 : (.initialized RX0 : Cond) ∈ ALL := all_1 (List.mem_of_getElem? (i := 4) (by decide +kernel)) rfl
theorem wI_X1 : (.initialized RX1 : Cond) ∈ ALL := all_1 (List.mem_of_getElem? (i := 5) (by decide +kernel)) rfl
theorem wI_X5 : (.initialized RX5 : Cond) ∈ ALL := all_1 (List.mem_of_getElem? (i := 6) (by decide +kernel)) rfl
theorem wI_J6 : (.initialized RJ6 : Cond) ∈ ALL := all_1 (List.mem_of_getElem? (i := 7) (by decide +kernel)) rfl
theorem wI_J9 : (.initialized RJ9 : Cond) ∈ ALL := all_1 (List.mem_of_getElem? (i := 8) (by decide +kernel)) rfl
theorem wI_Math : (.initialized "java/lang/Math" : Cond) ∈ ALL := all_1 (List.mem_of_getElem? (i := 8) (by decide +kernel)) rfl
theorem wI_Jx00060 : (.initialized RJx00060 : Cond) ∈ ALL := all_1 (List.mem_of_getElem? (i := 13) (by decide +kernel)) rfl
theorem wI_J0 : (.initialized RJ0 : Cond) ∈ ALL := all_1 (List.mem_of_getElem? (i := 14) (by decide +kernel)) rfl
theorem wL_L_8 : (.classLink RL 8 RX4 : Cond) ∈ ALL := all_1 (List.mem_of_getElem? (i := 15) (by decide +kernel)) rfl
theorem wG_X4 : (.instantiable RX4 7 : Cond) ∈ ALL := all_1 (List.mem_of_getElem? (i := 16) (by decide +kernel)) rfl
theorem wM_L_21 : (.methodLink RL 21 yX4_init : Cond) ∈ ALL := all_1 (List.mem_of_getElem? (i := 17) (by decide +kernel)) rfl
theorem wN_yX4_init : (.instanceMethod yX4_init : Cond) ∈ ALL := all_1 (List.mem_of_getElem? (i := 18) (by decide +kernel)) rfl
theorem wC_yX4_init : (.code yX4_init cX4_init 4 none : Cond) ∈ ALL := all_1 (List.mem_of_getElem? (i := 19) (by decide +kernel)) rfl
theorem wM_X4_1 : (.methodLink RX4 1 objectInit : Cond) ∈ ALL := all_1 (List.mem_of_getElem? (i := 20) (by decide +kernel)) rfl
theorem wN_objectInit : (.instanceMethod objectInit : Cond) ∈ ALL := all_1 (List.mem_of_getElem? (i := 21) (by decide +kernel)) rfl
theorem wC_objectInit : (.code objectInit ⟨#[0xb1]⟩ 1 none : Cond) ∈ ALL := all_1 (List.mem_of_getElem? (i := 22) (by decide +kernel)) rfl
theorem wM_X4_7 : (.methodLink RX4 7 yX4_within : Cond) ∈ ALL := all_1 (List.mem_of_getElem? (i := 23) (by decide +kernel)) rfl
theorem wT_yX4_within : (.static yX4_within : Cond) ∈ ALL := all_1 (List.mem_of_getElem? (i := 24) (by decide +kernel)) rfl
theorem wC_yX4_within : (.code yX4_within cX4_within 3 (some .boolean) : Cond) ∈ ALL := all_1 (List.mem_of_getElem? (i := 25) (by decide +kernel)) rfl
theorem wL_X4_20 : (.classLink RX4 20 RX2 : Cond) ∈ ALL := all_1 (List.mem_of_getElem? (i := 26) (by decide +kernel)) rfl
theorem wG_X2 : (.instantiable RX2 12 : Cond) ∈ ALL := all_1 (List.mem_of_getElem? (i := 27) (by decide +kernel)) rfl
theorem wM_X4_22 : (.methodLink RX4 22 yX2_init : Cond) ∈ ALL := all_1 (List.mem_of_getElem? (i := 28) (by decide +kernel)) rfl
theorem wN_yX2_init : (.instanceMethod yX2_init : Cond) ∈ ALL := all_1 (List.mem_of_getElem? (i := 29) (by decide +kernel)) rfl
theorem wC_yX2_init : (.code yX2_init cX2_init 2 none : Cond) ∈ ALL := all_1 (List.mem_of_getElem? (i := 30) (by decide +kernel)) rfl
theorem wM_X2_1 : (.methodLink RX2 1 objectInit : Cond) ∈ ALL := all_1 (List.mem_of_getElem? (i := 31) (by decide +kernel)) rfl
theorem wF_X2_7 : (.fieldLink RX2 7 "FlexCycles$Nodes" "count" "I" : Cond) ∈ ALL := all_1 (List.mem_of_getElem? (i := 32) (by decide +kernel)) rfl
theorem wF_X2_13 : (.fieldLink RX2 13 "FlexCycles$Nodes" "state" "[I" : Cond) ∈ ALL := all_1 (List.mem_of_getElem? (i := 33) (by decide +kernel)) rfl
theorem wF_X2_17 : (.fieldLink RX2 17 "FlexCycles$Nodes" "error" "[I" : Cond) ∈ ALL := all_1 (List.mem_of_getElem? (i := 35) (by decide +kernel)) rfl
theorem wF_X2_20 : (.fieldLink RX2 20 "FlexCycles$Nodes" "drift" "[I" : Cond) ∈ ALL := all_1 (List.mem_of_getElem? (i := 37) (by decide +kernel)) rfl
theorem wF_X2_23 : (.fieldLink RX2 23 "FlexCycles$Nodes" "rate" "[I" : Cond) ∈ ALL := all_1 (List.mem_of_getElem? (i := 39) (by decide +kernel)) rfl
theorem wF_X2_26 : (.fieldLink RX2 26 "FlexCycles$Nodes" "cold" "[Z" : Cond) ∈ ALL := all_1 (List.mem_of_getElem? (i := 41) (by decide +kernel)) rfl
theorem wF_X2_30 : (.fieldLink RX2 30 "FlexCycles$Nodes" "listened" "[I" : Cond) ∈ ALL := all_1 (List.mem_of_getElem? (i := 42) (by decide +kernel)) rfl
theorem wF_X2_33 : (.fieldLink RX2 33 "FlexCycles$Nodes" "heard" "[Z" : Cond) ∈ ALL := all_1 (List.mem_of_getElem? (i := 43) (by decide +kernel)) rfl
theorem wF_X2_36 : (.fieldLink RX2 36 "FlexCycles$Nodes" "newMidpoint" "[I" : Cond) ∈ ALL := all_1 (List.mem_of_getElem? (i := 45) (by decide +kernel)) rfl
theorem wF_X2_39 : (.fieldLink RX2 39 "FlexCycles$Nodes" "lastMidpoint" "[I" : Cond) ∈ ALL := all_1 (List.mem_of_getElem? (i := 46) (by decide +kernel)) rfl
theorem wF_X2_42 : (.fieldLink RX2 42 "FlexCycles$Nodes" "activeBefore" "[Z" : Cond) ∈ ALL := all_1 (List.mem_of_getElem? (i := 48) (by decide +kernel)) rfl
theorem wF_X2_45 : (.fieldLink RX2 45 "FlexCycles$Nodes" "deviations" "[I" : Cond) ∈ ALL := all_1 (List.mem_of_getElem? (i := 49) (by decide +kernel)) rfl
theorem wA_int : (.arrayClass .int : Cond) ∈ ALL := all_1 (List.mem_of_getElem? (i := 75) (by decide +kernel)) rfl
theorem wA_boolean : (.arrayClass .boolean : Cond) ∈ ALL := all_1 (List.mem_of_getElem? (i := 76) (by decide +kernel)) rfl
theorem wL_X4_29 : (.classLink RX4 29 RX3 : Cond) ∈ ALL := all_1 (List.mem_of_getElem? (i := 77) (by decide +kernel)) rfl
theorem wG_X3 : (.instantiable RX3 6 : Cond) ∈ ALL := all_1 (List.mem_of_getElem? (i := 78) (by decide +kernel)) rfl
theorem wN_yX3_init : (.instanceMethod yX3_init : Cond) ∈ ALL := all_1 (List.mem_of_getElem? (i := 80) (by decide +kernel)) rfl
theorem wC_yX3_init : (.code yX3_init cX3_init 1 none : Cond) ∈ ALL := all_1 (List.mem_of_getElem? (i := 81) (by decide +kernel)) rfl
theorem wM_X3_1 : (.methodLink RX3 1 objectInit : Cond) ∈ ALL := all_1 (List.mem_of_getElem? (i := 82) (by decide +kernel)) rfl
theorem wF_X3_9 : (.fieldLink RX3 9 "FlexCycles$StaticFrames" "nodes" "[I" : Cond) ∈ ALL := all_1 (List.mem_of_getElem? (i := 83) (by decide +kernel)) rfl
theorem wF_X3_13 : (.fieldLink RX3 13 "FlexCycles$StaticFrames" "slots" "[I" : Cond) ∈ ALL := all_1 (List.mem_of_getElem? (i := 84) (by decide +kernel)) rfl
theorem wF_X3_16 : (.fieldLink RX3 16 "FlexCycles$StaticFrames" "channels" "[I" : Cond) ∈ ALL := all_1 (List.mem_of_getElem? (i := 85) (by decide +kernel)) rfl
theorem wF_X3_19 : (.fieldLink RX3 19 "FlexCycles$StaticFrames" "bases" "[I" : Cond) ∈ ALL := all_1 (List.mem_of_getElem? (i := 86) (by decide +kernel)) rfl
theorem wF_X3_22 : (.fieldLink RX3 22 "FlexCycles$StaticFrames" "everies" "[I" : Cond) ∈ ALL := all_1 (List.mem_of_getElem? (i := 87) (by decide +kernel)) rfl
theorem wF_X3_25 : (.fieldLink RX3 25 "FlexCycles$StaticFrames" "size" "I" : Cond) ∈ ALL := all_1 (List.mem_of_getElem? (i := 88) (by decide +kernel)) rfl
theorem wL_X4_36 : (.classLink RX4 36 RX0 : Cond) ∈ ALL := all_1 (List.mem_of_getElem? (i := 102) (by decide +kernel)) rfl
theorem wG_X0 : (.instantiable RX0 4 : Cond) ∈ ALL := all_1 (List.mem_of_getElem? (i := 103) (by decide +kernel)) rfl
theorem wN_yX0_init : (.instanceMethod yX0_init : Cond) ∈ ALL := all_1 (List.mem_of_getElem? (i := 105) (by decide +kernel)) rfl
theorem wC_yX0_init : (.code yX0_init cX0_init 1 none : Cond) ∈ ALL := all_1 (List.mem_of_getElem? (i := 106) (by decide +kernel)) rfl
theorem wM_X0_1 : (.methodLink RX0 1 objectInit : Cond) ∈ ALL := all_1 (List.mem_of_getElem? (i := 107) (by decide +kernel)) rfl
theorem wF_X0_9 : (.fieldLink RX0 9 "FlexCycles$DynamicFrames" "nodes" "[I" : Cond) ∈ ALL := all_1 (List.mem_of_getElem? (i := 108) (by decide +kernel)) rfl
theorem wF_X0_13 : (.fieldLink RX0 13 "FlexCycles$DynamicFrames" "identities" "[I" : Cond) ∈ ALL := all_1 (List.mem_of_getElem? (i := 109) (by decide +kernel)) rfl
theorem wF_X0_16 : (.fieldLink RX0 16 "FlexCycles$DynamicFrames" "lengths" "[I" : Cond) ∈ ALL := all_1 (List.mem_of_getElem? (i := 110) (by decide +kernel)) rfl
theorem wF_X0_19 : (.fieldLink RX0 19 "FlexCycles$DynamicFrames" "size" "I" : Cond) ∈ ALL := all_1 (List.mem_of_getElem? (i := 111) (by decide +kernel)) rfl
theorem wL_X4_43 : (.classLink RX4 43 RX1 : Cond) ∈ ALL := all_1 (List.mem_of_getElem? (i := 121) (by decide +kernel)) rfl
theorem wG_X1 : (.instantiable RX1 2 : Cond) ∈ ALL := all_1 (List.mem_of_getElem? (i := 122) (by decide +kernel)) rfl
theorem wM_X4_45 : (.methodLink RX4 45 yX1_init : Cond) ∈ ALL := all_1 (List.mem_of_getElem? (i := 123) (by decide +kernel)) rfl
theorem wN_yX1_init : (.instanceMethod yX1_init : Cond) ∈ ALL := all_1 (List.mem_of_getElem? (i := 124) (by decide +kernel)) rfl
theorem wC_yX1_init : (.code yX1_init cX1_init 2 none : Cond) ∈ ALL := all_1 (List.mem_of_getElem? (i := 125) (by decide +kernel)) rfl
theorem wM_X1_1 : (.methodLink RX1 1 objectInit : Cond) ∈ ALL := all_1 (List.mem_of_getElem? (i := 126) (by decide +kernel)) rfl
theorem wF_X1_7 : (.fieldLink RX1 7 "FlexCycles$Flips" "channels" "[I" : Cond) ∈ ALL := all_1 (List.mem_of_getElem? (i := 127) (by decide +kernel)) rfl
theorem wF_X1_13 : (.fieldLink RX1 13 "FlexCycles$Flips" "size" "I" : Cond) ∈ ALL := all_1 (List.mem_of_getElem? (i := 128) (by decide +kernel)) rfl
theorem wF_X4_13 : (.fieldLink RX4 13 "FlexCycles" "slots" "I" : Cond) ∈ ALL := all_1 (List.mem_of_getElem? (i := 134) (by decide +kernel)) rfl
theorem wF_X4_17 : (.fieldLink RX4 17 "FlexCycles" "minis" "I" : Cond) ∈ ALL := all_1 (List.mem_of_getElem? (i := 135) (by decide +kernel)) rfl
theorem wF_X4_25 : (.fieldLink RX4 25 "FlexCycles" "members" "LFlexCycles$Nodes;" : Cond) ∈ ALL := all_1 (List.mem_of_getElem? (i := 136) (by decide +kernel)) rfl
theorem wF_X4_32 : (.fieldLink RX4 32 "FlexCycles" "statics" "LFlexCycles$StaticFrames;" : Cond) ∈ ALL := all_1 (List.mem_of_getElem? (i := 137) (by decide +kernel)) rfl
theorem wF_X4_39 : (.fieldLink RX4 39 "FlexCycles" "dynamics" "LFlexCycles$DynamicFrames;" : Cond) ∈ ALL := all_1 (List.mem_of_getElem? (i := 138) (by decide +kernel)) rfl
theorem wF_X4_46 : (.fieldLink RX4 46 "FlexCycles" "flips" "LFlexCycles$Flips;" : Cond) ∈ ALL := all_1 (List.mem_of_getElem? (i := 139) (by decide +kernel)) rfl
theorem wF_X4_50 : (.fieldLink RX4 50 "FlexCycles" "count" "I" : Cond) ∈ ALL := all_1 (List.mem_of_getElem? (i := 140) (by decide +kernel)) rfl
theorem wM_L_27 : (.methodLink RL 27 yX4_frame : Cond) ∈ ALL := all_1 (List.mem_of_getElem? (i := 156) (by decide +kernel)) rfl
theorem wN_yX4_frame : (.instanceMethod yX4_frame : Cond) ∈ ALL := all_1 (List.mem_of_getElem? (i := 157) (by decide +kernel)) rfl
theorem wS_yX4_frame : (.selects RX4 yX4_frame yX4_frame : Cond) ∈ ALL := all_1 (List.mem_of_getElem? (i := 158) (by decide +kernel)) rfl
theorem wC_yX4_frame : (.code yX4_frame cX4_frame 6 (some .int) : Cond) ∈ ALL := all_1 (List.mem_of_getElem? (i := 159) (by decide +kernel)) rfl
theorem wM_X4_53 : (.methodLink RX4 53 yX2_has : Cond) ∈ ALL := all_1 (List.mem_of_getElem? (i := 160) (by decide +kernel)) rfl
theorem wN_yX2_has : (.instanceMethod yX2_has : Cond) ∈ ALL := all_1 (List.mem_of_getElem? (i := 161) (by decide +kernel)) rfl
theorem wS_yX2_has : (.selects RX2 yX2_has yX2_has : Cond) ∈ ALL := all_1 (List.mem_of_getElem? (i := 162) (by decide +kernel)) rfl
theorem wC_yX2_has : (.code yX2_has cX2_has 2 (some .boolean) : Cond) ∈ ALL := all_1 (List.mem_of_getElem? (i := 163) (by decide +kernel)) rfl
theorem wM_X4_57 : (.methodLink RX4 57 yX4_hasSlot : Cond) ∈ ALL := all_1 (List.mem_of_getElem? (i := 164) (by decide +kernel)) rfl
theorem wN_yX4_hasSlot : (.instanceMethod yX4_hasSlot : Cond) ∈ ALL := all_1 (List.mem_of_getElem? (i := 166) (by decide +kernel)) rfl
theorem wC_yX4_hasSlot : (.code yX4_hasSlot cX4_hasSlot 2 (some .boolean) : Cond) ∈ ALL := all_1 (List.mem_of_getElem? (i := 167) (by decide +kernel)) rfl
theorem wM_X4_60 : (.methodLink RX4 60 yX3_isEvery : Cond) ∈ ALL := all_1 (List.mem_of_getElem? (i := 168) (by decide +kernel)) rfl
theorem wT_yX3_isEvery : (.static yX3_isEvery : Cond) ∈ ALL := all_1 (List.mem_of_getElem? (i := 169) (by decide +kernel)) rfl
theorem wC_yX3_isEvery : (.code yX3_isEvery cX3_isEvery 1 (some .boolean) : Cond) ∈ ALL := all_1 (List.mem_of_getElem? (i := 170) (by decide +kernel)) rfl
theorem wM_X3_29 : (.methodLink RX3 29 yJ6_bitCount_0f7a4 : Cond) ∈ ALL := all_1 (List.mem_of_getElem? (i := 171) (by decide +kernel)) rfl
theorem wT_yJ6_bitCount_0f7a4 : (.static yJ6_bitCount_0f7a4 : Cond) ∈ ALL := all_1 (List.mem_of_getElem? (i := 172) (by decide +kernel)) rfl
theorem wC_yJ6_bitCount_0f7a4 : (.code yJ6_bitCount_0f7a4 cJ6_bitCount_0f7a4 1 (some .int) : Cond) ∈ ALL := all_1 (List.mem_of_getElem? (i := 173) (by decide +kernel)) rfl
theorem wK_J6_265 : (.constant RJ6 265 (1431655765) : Cond) ∈ ALL := all_1 (List.mem_of_getElem? (i := 174) (by decide +kernel)) rfl
theorem wK_J6_266 : (.constant RJ6 266 (858993459) : Cond) ∈ ALL := all_1 (List.mem_of_getElem? (i := 175) (by decide +kernel)) rfl
theorem wK_J6_267 : (.constant RJ6 267 (252645135) : Cond) ∈ ALL := all_1 (List.mem_of_getElem? (i := 176) (by decide +kernel)) rfl
theorem wM_X4_63 : (.methodLink RX4 63 yX3_clashes : Cond) ∈ ALL := all_1 (List.mem_of_getElem? (i := 177) (by decide +kernel)) rfl
theorem wN_yX3_clashes : (.instanceMethod yX3_clashes : Cond) ∈ ALL := all_1 (List.mem_of_getElem? (i := 178) (by decide +kernel)) rfl
theorem wS_yX3_clashes : (.selects RX3 yX3_clashes yX3_clashes : Cond) ∈ ALL := all_1 (List.mem_of_getElem? (i := 179) (by decide +kernel)) rfl
theorem wC_yX3_clashes : (.code yX3_clashes cX3_clashes 7 (some .boolean) : Cond) ∈ ALL := all_1 (List.mem_of_getElem? (i := 180) (by decide +kernel)) rfl
theorem wM_X3_35 : (.methodLink RX3 35 Lib.Math.min.name : Cond) ∈ ALL := all_1 (List.mem_of_getElem? (i := 181) (by decide +kernel)) rfl
theorem wT_Lib_Math_min_name : (.static Lib.Math.min.name : Cond) ∈ ALL := all_1 (List.mem_of_getElem? (i := 182) (by decide +kernel)) rfl
theorem wC_Lib_Math_min : (.code Lib.Math.min.name Lib.Math.min.code 2 (some .int) : Cond) ∈ ALL := all_1 (List.mem_of_getElem? (i := 183) (by decide +kernel)) rfl
theorem wM_X3_41 : (.methodLink RX3 41 yX3_isOn : Cond) ∈ ALL := all_1 (List.mem_of_getElem? (i := 184) (by decide +kernel)) rfl
theorem wN_yX3_isOn : (.instanceMethod yX3_isOn : Cond) ∈ ALL := all_1 (List.mem_of_getElem? (i := 186) (by decide +kernel)) rfl
theorem wC_yX3_isOn : (.code yX3_isOn cX3_isOn 4 (some .boolean) : Cond) ∈ ALL := all_1 (List.mem_of_getElem? (i := 187) (by decide +kernel)) rfl
theorem wM_X3_45 : (.methodLink RX3 45 yX3_remainder : Cond) ∈ ALL := all_1 (List.mem_of_getElem? (i := 188) (by decide +kernel)) rfl
theorem wT_yX3_remainder : (.static yX3_remainder : Cond) ∈ ALL := all_1 (List.mem_of_getElem? (i := 189) (by decide +kernel)) rfl
theorem wC_yX3_remainder : (.code yX3_remainder cX3_remainder 2 (some .int) : Cond) ∈ ALL := all_1 (List.mem_of_getElem? (i := 190) (by decide +kernel)) rfl
theorem wM_X4_67 : (.methodLink RX4 67 yX3_isFull : Cond) ∈ ALL := all_1 (List.mem_of_getElem? (i := 191) (by decide +kernel)) rfl
theorem wN_yX3_isFull : (.instanceMethod yX3_isFull : Cond) ∈ ALL := all_1 (List.mem_of_getElem? (i := 192) (by decide +kernel)) rfl
theorem wS_yX3_isFull : (.selects RX3 yX3_isFull yX3_isFull : Cond) ∈ ALL := all_1 (List.mem_of_getElem? (i := 193) (by decide +kernel)) rfl
theorem wC_yX3_isFull : (.code yX3_isFull cX3_isFull 1 (some .boolean) : Cond) ∈ ALL := all_1 (List.mem_of_getElem? (i := 194) (by decide +kernel)) rfl
theorem wM_X4_71 : (.methodLink RX4 71 yX3_add : Cond) ∈ ALL := all_1 (List.mem_of_getElem? (i := 195) (by decide +kernel)) rfl
theorem wN_yX3_add : (.instanceMethod yX3_add : Cond) ∈ ALL := all_1 (List.mem_of_getElem? (i := 196) (by decide +kernel)) rfl
theorem wS_yX3_add : (.selects RX3 yX3_add yX3_add : Cond) ∈ ALL := all_1 (List.mem_of_getElem? (i := 197) (by decide +kernel)) rfl
theorem wC_yX3_add : (.code yX3_add cX3_add 6 (some .int) : Cond) ∈ ALL := all_1 (List.mem_of_getElem? (i := 198) (by decide +kernel)) rfl
theorem wM_L_32 : (.methodLink RL 32 yX4_dynamic : Cond) ∈ ALL := all_1 (List.mem_of_getElem? (i := 199) (by decide +kernel)) rfl
theorem wN_yX4_dynamic : (.instanceMethod yX4_dynamic : Cond) ∈ ALL := all_1 (List.mem_of_getElem? (i := 200) (by decide +kernel)) rfl
theorem wS_yX4_dynamic : (.selects RX4 yX4_dynamic yX4_dynamic : Cond) ∈ ALL := all_1 (List.mem_of_getElem? (i := 201) (by decide +kernel)) rfl
theorem wC_yX4_dynamic : (.code yX4_dynamic cX4_dynamic 4 (some .int) : Cond) ∈ ALL := all_1 (List.mem_of_getElem? (i := 202) (by decide +kernel)) rfl
theorem wM_X4_75 : (.methodLink RX4 75 yX0_isFull : Cond) ∈ ALL := all_1 (List.mem_of_getElem? (i := 203) (by decide +kernel)) rfl
theorem wN_yX0_isFull : (.instanceMethod yX0_isFull : Cond) ∈ ALL := all_1 (List.mem_of_getElem? (i := 204) (by decide +kernel)) rfl
theorem wS_yX0_isFull : (.selects RX0 yX0_isFull yX0_isFull : Cond) ∈ ALL := all_1 (List.mem_of_getElem? (i := 205) (by decide +kernel)) rfl
theorem wC_yX0_isFull : (.code yX0_isFull cX0_isFull 1 (some .boolean) : Cond) ∈ ALL := all_1 (List.mem_of_getElem? (i := 206) (by decide +kernel)) rfl
theorem wM_X4_76 : (.methodLink RX4 76 yX0_add : Cond) ∈ ALL := all_1 (List.mem_of_getElem? (i := 207) (by decide +kernel)) rfl
theorem wN_yX0_add : (.instanceMethod yX0_add : Cond) ∈ ALL := all_1 (List.mem_of_getElem? (i := 208) (by decide +kernel)) rfl
theorem wS_yX0_add : (.selects RX0 yX0_add yX0_add : Cond) ∈ ALL := all_1 (List.mem_of_getElem? (i := 209) (by decide +kernel)) rfl
theorem wC_yX0_add : (.code yX0_add cX0_add 4 (some .int) : Cond) ∈ ALL := all_1 (List.mem_of_getElem? (i := 210) (by decide +kernel)) rfl
theorem wM_L_37 : (.methodLink RL 37 yX4_drift : Cond) ∈ ALL := all_1 (List.mem_of_getElem? (i := 211) (by decide +kernel)) rfl
theorem wN_yX4_drift : (.instanceMethod yX4_drift : Cond) ∈ ALL := all_1 (List.mem_of_getElem? (i := 212) (by decide +kernel)) rfl
theorem wS_yX4_drift : (.selects RX4 yX4_drift yX4_drift : Cond) ∈ ALL := all_1 (List.mem_of_getElem? (i := 213) (by decide +kernel)) rfl
theorem wC_yX4_drift : (.code yX4_drift cX4_drift 3 (some .int) : Cond) ∈ ALL := all_1 (List.mem_of_getElem? (i := 214) (by decide +kernel)) rfl
theorem wM_L_41 : (.methodLink RL 41 yX4_run : Cond) ∈ ALL := all_1 (List.mem_of_getElem? (i := 215) (by decide +kernel)) rfl
theorem wN_yX4_run : (.instanceMethod yX4_run : Cond) ∈ ALL := all_1 (List.mem_of_getElem? (i := 216) (by decide +kernel)) rfl
theorem wS_yX4_run : (.selects RX4 yX4_run yX4_run : Cond) ∈ ALL := all_1 (List.mem_of_getElem? (i := 217) (by decide +kernel)) rfl
theorem wC_yX4_run : (.code yX4_run cX4_run 4 (some .int) : Cond) ∈ ALL := all_1 (List.mem_of_getElem? (i := 218) (by decide +kernel)) rfl
theorem wM_X4_83 : (.methodLink RX4 83 yX4_runOne : Cond) ∈ ALL := all_1 (List.mem_of_getElem? (i := 219) (by decide +kernel)) rfl
theorem wN_yX4_runOne : (.instanceMethod yX4_runOne : Cond) ∈ ALL := all_1 (List.mem_of_getElem? (i := 221) (by decide +kernel)) rfl
theorem wC_yX4_runOne : (.code yX4_runOne cX4_runOne 2 (some .int) : Cond) ∈ ALL := all_1 (List.mem_of_getElem? (i := 222) (by decide +kernel)) rfl
theorem wM_X4_121 : (.methodLink RX4 121 yX2_startUp : Cond) ∈ ALL := all_1 (List.mem_of_getElem? (i := 223) (by decide +kernel)) rfl
theorem wN_yX2_startUp : (.instanceMethod yX2_startUp : Cond) ∈ ALL := all_1 (List.mem_of_getElem? (i := 224) (by decide +kernel)) rfl
theorem wS_yX2_startUp : (.selects RX2 yX2_startUp yX2_startUp : Cond) ∈ ALL := all_1 (List.mem_of_getElem? (i := 225) (by decide +kernel)) rfl
theorem wC_yX2_startUp : (.code yX2_startUp cX2_startUp 2 none : Cond) ∈ ALL := all_1 (List.mem_of_getElem? (i := 226) (by decide +kernel)) rfl
theorem wM_X2_62 : (.methodLink RX2 62 yX2_leastActive : Cond) ∈ ALL := all_1 (List.mem_of_getElem? (i := 227) (by decide +kernel)) rfl
theorem wN_yX2_leastActive : (.instanceMethod yX2_leastActive : Cond) ∈ ALL := all_1 (List.mem_of_getElem? (i := 229) (by decide +kernel)) rfl
theorem wC_yX2_leastActive : (.code yX2_leastActive cX2_leastActive 2 (some .int) : Cond) ∈ ALL := all_1 (List.mem_of_getElem? (i := 230) (by decide +kernel)) rfl
theorem wM_X2_48 : (.methodLink RX2 48 yX2_isActive : Cond) ∈ ALL := all_1 (List.mem_of_getElem? (i := 231) (by decide +kernel)) rfl
theorem wN_yX2_isActive : (.instanceMethod yX2_isActive : Cond) ∈ ALL := all_1 (List.mem_of_getElem? (i := 232) (by decide +kernel)) rfl
theorem wS_yX2_isActive : (.selects RX2 yX2_isActive yX2_isActive : Cond) ∈ ALL := all_1 (List.mem_of_getElem? (i := 233) (by decide +kernel)) rfl
theorem wC_yX2_isActive : (.code yX2_isActive cX2_isActive 2 (some .boolean) : Cond) ∈ ALL := all_1 (List.mem_of_getElem? (i := 234) (by decide +kernel)) rfl
theorem wM_X2_66 : (.methodLink RX2 66 yX2_integrate : Cond) ∈ ALL := all_1 (List.mem_of_getElem? (i := 235) (by decide +kernel)) rfl
theorem wN_yX2_integrate : (.instanceMethod yX2_integrate : Cond) ∈ ALL := all_1 (List.mem_of_getElem? (i := 237) (by decide +kernel)) rfl
theorem wC_yX2_integrate : (.code yX2_integrate cX2_integrate 3 none : Cond) ∈ ALL := all_1 (List.mem_of_getElem? (i := 238) (by decide +kernel)) rfl
theorem wM_X2_76 : (.methodLink RX2 76 yX2_listen : Cond) ∈ ALL := all_1 (List.mem_of_getElem? (i := 239) (by decide +kernel)) rfl
theorem wN_yX2_listen : (.instanceMethod yX2_listen : Cond) ∈ ALL := all_2 (List.mem_of_getElem? (i := 1) (by decide +kernel)) rfl
theorem wC_yX2_listen : (.code yX2_listen cX2_listen 3 none : Cond) ∈ ALL := all_2 (List.mem_of_getElem? (i := 2) (by decide +kernel)) rfl
theorem wM_X2_70 : (.methodLink RX2 70 yX2_countStarters : Cond) ∈ ALL := all_2 (List.mem_of_getElem? (i := 3) (by decide +kernel)) rfl
theorem wN_yX2_countStarters : (.instanceMethod yX2_countStarters : Cond) ∈ ALL := all_2 (List.mem_of_getElem? (i := 5) (by decide +kernel)) rfl
theorem wC_yX2_countStarters : (.code yX2_countStarters cX2_countStarters 3 (some .int) : Cond) ∈ ALL := all_2 (List.mem_of_getElem? (i := 6) (by decide +kernel)) rfl
theorem wM_X2_80 : (.methodLink RX2 80 yX2_isStarter : Cond) ∈ ALL := all_2 (List.mem_of_getElem? (i := 7) (by decide +kernel)) rfl
theorem wN_yX2_isStarter : (.instanceMethod yX2_isStarter : Cond) ∈ ALL := all_2 (List.mem_of_getElem? (i := 9) (by decide +kernel)) rfl
theorem wC_yX2_isStarter : (.code yX2_isStarter cX2_isStarter 2 (some .boolean) : Cond) ∈ ALL := all_2 (List.mem_of_getElem? (i := 10) (by decide +kernel)) rfl
theorem wM_X2_73 : (.methodLink RX2 73 yX2_startCold : Cond) ∈ ALL := all_2 (List.mem_of_getElem? (i := 11) (by decide +kernel)) rfl
theorem wN_yX2_startCold : (.instanceMethod yX2_startCold : Cond) ∈ ALL := all_2 (List.mem_of_getElem? (i := 13) (by decide +kernel)) rfl
theorem wC_yX2_startCold : (.code yX2_startCold cX2_startCold 2 none : Cond) ∈ ALL := all_2 (List.mem_of_getElem? (i := 14) (by decide +kernel)) rfl
theorem wM_X4_124 : (.methodLink RX4 124 yX3_send : Cond) ∈ ALL := all_2 (List.mem_of_getElem? (i := 15) (by decide +kernel)) rfl
theorem wN_yX3_send : (.instanceMethod yX3_send : Cond) ∈ ALL := all_2 (List.mem_of_getElem? (i := 16) (by decide +kernel)) rfl
theorem wS_yX3_send : (.selects RX3 yX3_send yX3_send : Cond) ∈ ALL := all_2 (List.mem_of_getElem? (i := 17) (by decide +kernel)) rfl
theorem wC_yX3_send : (.code yX3_send cX3_send 7 (some .int) : Cond) ∈ ALL := all_2 (List.mem_of_getElem? (i := 18) (by decide +kernel)) rfl
theorem wM_X3_52 : (.methodLink RX3 52 yX2_forgetHeard : Cond) ∈ ALL := all_2 (List.mem_of_getElem? (i := 19) (by decide +kernel)) rfl
theorem wN_yX2_forgetHeard : (.instanceMethod yX2_forgetHeard : Cond) ∈ ALL := all_2 (List.mem_of_getElem? (i := 20) (by decide +kernel)) rfl
theorem wS_yX2_forgetHeard : (.selects RX2 yX2_forgetHeard yX2_forgetHeard : Cond) ∈ ALL := all_2 (List.mem_of_getElem? (i := 21) (by decide +kernel)) rfl
theorem wC_yX2_forgetHeard : (.code yX2_forgetHeard cX2_forgetHeard 2 none : Cond) ∈ ALL := all_2 (List.mem_of_getElem? (i := 22) (by decide +kernel)) rfl
theorem wM_X3_57 : (.methodLink RX3 57 yX2_isActive : Cond) ∈ ALL := all_2 (List.mem_of_getElem? (i := 23) (by decide +kernel)) rfl
theorem wM_X3_48 : (.methodLink RX3 48 yX3_isIn : Cond) ∈ ALL := all_2 (List.mem_of_getElem? (i := 24) (by decide +kernel)) rfl
theorem wN_yX3_isIn : (.instanceMethod yX3_isIn : Cond) ∈ ALL := all_2 (List.mem_of_getElem? (i := 26) (by decide +kernel)) rfl
theorem wC_yX3_isIn : (.code yX3_isIn cX3_isIn 3 (some .boolean) : Cond) ∈ ALL := all_2 (List.mem_of_getElem? (i := 27) (by decide +kernel)) rfl
theorem wM_X3_61 : (.methodLink RX3 61 yX1_leavesAny : Cond) ∈ ALL := all_2 (List.mem_of_getElem? (i := 28) (by decide +kernel)) rfl
theorem wN_yX1_leavesAny : (.instanceMethod yX1_leavesAny : Cond) ∈ ALL := all_2 (List.mem_of_getElem? (i := 29) (by decide +kernel)) rfl
theorem wS_yX1_leavesAny : (.selects RX1 yX1_leavesAny yX1_leavesAny : Cond) ∈ ALL := all_2 (List.mem_of_getElem? (i := 30) (by decide +kernel)) rfl
theorem wC_yX1_leavesAny : (.code yX1_leavesAny cX1_leavesAny 3 (some .boolean) : Cond) ∈ ALL := all_2 (List.mem_of_getElem? (i := 31) (by decide +kernel)) rfl
theorem wM_X4_128 : (.methodLink RX4 128 yX0_send : Cond) ∈ ALL := all_2 (List.mem_of_getElem? (i := 32) (by decide +kernel)) rfl
theorem wN_yX0_send : (.instanceMethod yX0_send : Cond) ∈ ALL := all_2 (List.mem_of_getElem? (i := 33) (by decide +kernel)) rfl
theorem wS_yX0_send : (.selects RX0 yX0_send yX0_send : Cond) ∈ ALL := all_2 (List.mem_of_getElem? (i := 34) (by decide +kernel)) rfl
theorem wC_yX0_send : (.code yX0_send cX0_send 7 (some .int) : Cond) ∈ ALL := all_2 (List.mem_of_getElem? (i := 35) (by decide +kernel)) rfl
theorem wM_X0_23 : (.methodLink RX0 23 yX0_firstOf : Cond) ∈ ALL := all_2 (List.mem_of_getElem? (i := 36) (by decide +kernel)) rfl
theorem wN_yX0_firstOf : (.instanceMethod yX0_firstOf : Cond) ∈ ALL := all_2 (List.mem_of_getElem? (i := 38) (by decide +kernel)) rfl
theorem wC_yX0_firstOf : (.code yX0_firstOf cX0_firstOf 4 (some .int) : Cond) ∈ ALL := all_2 (List.mem_of_getElem? (i := 39) (by decide +kernel)) rfl
theorem wM_X0_31 : (.methodLink RX0 31 yX2_isActive : Cond) ∈ ALL := all_2 (List.mem_of_getElem? (i := 40) (by decide +kernel)) rfl
theorem wM_X0_27 : (.methodLink RX0 27 yX0_remove : Cond) ∈ ALL := all_2 (List.mem_of_getElem? (i := 41) (by decide +kernel)) rfl
theorem wN_yX0_remove : (.instanceMethod yX0_remove : Cond) ∈ ALL := all_2 (List.mem_of_getElem? (i := 43) (by decide +kernel)) rfl
theorem wC_yX0_remove : (.code yX0_remove cX0_remove 3 none : Cond) ∈ ALL := all_2 (List.mem_of_getElem? (i := 44) (by decide +kernel)) rfl
theorem wM_X4_131 : (.methodLink RX4 131 yX2_correct : Cond) ∈ ALL := all_2 (List.mem_of_getElem? (i := 45) (by decide +kernel)) rfl
theorem wN_yX2_correct : (.instanceMethod yX2_correct : Cond) ∈ ALL := all_2 (List.mem_of_getElem? (i := 46) (by decide +kernel)) rfl
theorem wS_yX2_correct : (.selects RX2 yX2_correct yX2_correct : Cond) ∈ ALL := all_2 (List.mem_of_getElem? (i := 47) (by decide +kernel)) rfl
theorem wC_yX2_correct : (.code yX2_correct cX2_correct 3 none : Cond) ∈ ALL := all_2 (List.mem_of_getElem? (i := 48) (by decide +kernel)) rfl
theorem wM_X2_83 : (.methodLink RX2 83 yX2_findMidpoint : Cond) ∈ ALL := all_2 (List.mem_of_getElem? (i := 49) (by decide +kernel)) rfl
theorem wN_yX2_findMidpoint : (.instanceMethod yX2_findMidpoint : Cond) ∈ ALL := all_2 (List.mem_of_getElem? (i := 51) (by decide +kernel)) rfl
theorem wC_yX2_findMidpoint : (.code yX2_findMidpoint cX2_findMidpoint 4 (some .int) : Cond) ∈ ALL := all_2 (List.mem_of_getElem? (i := 52) (by decide +kernel)) rfl
theorem wM_X2_91 : (.methodLink RX2 91 yX2_insertDeviation : Cond) ∈ ALL := all_2 (List.mem_of_getElem? (i := 53) (by decide +kernel)) rfl
theorem wN_yX2_insertDeviation : (.instanceMethod yX2_insertDeviation : Cond) ∈ ALL := all_2 (List.mem_of_getElem? (i := 55) (by decide +kernel)) rfl
theorem wC_yX2_insertDeviation : (.code yX2_insertDeviation cX2_insertDeviation 4 none : Cond) ∈ ALL := all_2 (List.mem_of_getElem? (i := 56) (by decide +kernel)) rfl
theorem wM_X2_87 : (.methodLink RX2 87 yX2_apply : Cond) ∈ ALL := all_2 (List.mem_of_getElem? (i := 57) (by decide +kernel)) rfl
theorem wN_yX2_apply : (.instanceMethod yX2_apply : Cond) ∈ ALL := all_2 (List.mem_of_getElem? (i := 59) (by decide +kernel)) rfl
theorem wC_yX2_apply : (.code yX2_apply cX2_apply 5 none : Cond) ∈ ALL := all_2 (List.mem_of_getElem? (i := 60) (by decide +kernel)) rfl
theorem wM_X2_94 : (.methodLink RX2 94 yX2_changeRate : Cond) ∈ ALL := all_2 (List.mem_of_getElem? (i := 61) (by decide +kernel)) rfl
theorem wN_yX2_changeRate : (.instanceMethod yX2_changeRate : Cond) ∈ ALL := all_2 (List.mem_of_getElem? (i := 63) (by decide +kernel)) rfl
theorem wC_yX2_changeRate : (.code yX2_changeRate cX2_changeRate 4 none : Cond) ∈ ALL := all_2 (List.mem_of_getElem? (i := 64) (by decide +kernel)) rfl
theorem wM_X2_97 : (.methodLink RX2 97 Lib.Math.min.name : Cond) ∈ ALL := all_2 (List.mem_of_getElem? (i := 65) (by decide +kernel)) rfl
theorem wM_X2_101 : (.methodLink RX2 101 Lib.Math.max.name : Cond) ∈ ALL := all_2 (List.mem_of_getElem? (i := 66) (by decide +kernel)) rfl
theorem wT_Lib_Math_max_name : (.static Lib.Math.max.name : Cond) ∈ ALL := all_2 (List.mem_of_getElem? (i := 67) (by decide +kernel)) rfl
theorem wC_Lib_Math_max : (.code Lib.Math.max.name Lib.Math.max.code 2 (some .int) : Cond) ∈ ALL := all_2 (List.mem_of_getElem? (i := 68) (by decide +kernel)) rfl
theorem wM_X4_135 : (.methodLink RX4 135 yX2_passTime : Cond) ∈ ALL := all_2 (List.mem_of_getElem? (i := 69) (by decide +kernel)) rfl
theorem wN_yX2_passTime : (.instanceMethod yX2_passTime : Cond) ∈ ALL := all_2 (List.mem_of_getElem? (i := 70) (by decide +kernel)) rfl
theorem wS_yX2_passTime : (.selects RX2 yX2_passTime yX2_passTime : Cond) ∈ ALL := all_2 (List.mem_of_getElem? (i := 71) (by decide +kernel)) rfl
theorem wC_yX2_passTime : (.code yX2_passTime cX2_passTime 2 none : Cond) ∈ ALL := all_2 (List.mem_of_getElem? (i := 72) (by decide +kernel)) rfl
theorem wM_X4_138 : (.methodLink RX4 138 yX1_clear : Cond) ∈ ALL := all_2 (List.mem_of_getElem? (i := 73) (by decide +kernel)) rfl
theorem wN_yX1_clear : (.instanceMethod yX1_clear : Cond) ∈ ALL := all_2 (List.mem_of_getElem? (i := 74) (by decide +kernel)) rfl
theorem wS_yX1_clear : (.selects RX1 yX1_clear yX1_clear : Cond) ∈ ALL := all_2 (List.mem_of_getElem? (i := 75) (by decide +kernel)) rfl
theorem wC_yX1_clear : (.code yX1_clear cX1_clear 2 none : Cond) ∈ ALL := all_2 (List.mem_of_getElem? (i := 76) (by decide +kernel)) rfl
theorem wM_L_46 : (.methodLink RL 46 yX4_state : Cond) ∈ ALL := all_2 (List.mem_of_getElem? (i := 77) (by decide +kernel)) rfl
theorem wN_yX4_state : (.instanceMethod yX4_state : Cond) ∈ ALL := all_2 (List.mem_of_getElem? (i := 78) (by decide +kernel)) rfl
theorem wS_yX4_state : (.selects RX4 yX4_state yX4_state : Cond) ∈ ALL := all_2 (List.mem_of_getElem? (i := 79) (by decide +kernel)) rfl
theorem wC_yX4_state : (.code yX4_state cX4_state 2 (some .int) : Cond) ∈ ALL := all_2 (List.mem_of_getElem? (i := 80) (by decide +kernel)) rfl
theorem wM_L_50 : (.methodLink RL 50 yX4_offset : Cond) ∈ ALL := all_2 (List.mem_of_getElem? (i := 81) (by decide +kernel)) rfl
theorem wN_yX4_offset : (.instanceMethod yX4_offset : Cond) ∈ ALL := all_2 (List.mem_of_getElem? (i := 82) (by decide +kernel)) rfl
theorem wS_yX4_offset : (.selects RX4 yX4_offset yX4_offset : Cond) ∈ ALL := all_2 (List.mem_of_getElem? (i := 83) (by decide +kernel)) rfl
theorem wC_yX4_offset : (.code yX4_offset cX4_offset 2 (some .int) : Cond) ∈ ALL := all_2 (List.mem_of_getElem? (i := 84) (by decide +kernel)) rfl
theorem wM_L_54 : (.methodLink RL 54 yX4_rate : Cond) ∈ ALL := all_2 (List.mem_of_getElem? (i := 85) (by decide +kernel)) rfl
theorem wN_yX4_rate : (.instanceMethod yX4_rate : Cond) ∈ ALL := all_2 (List.mem_of_getElem? (i := 86) (by decide +kernel)) rfl
theorem wS_yX4_rate : (.selects RX4 yX4_rate yX4_rate : Cond) ∈ ALL := all_2 (List.mem_of_getElem? (i := 87) (by decide +kernel)) rfl
theorem wC_yX4_rate : (.code yX4_rate cX4_rate 2 (some .int) : Cond) ∈ ALL := all_2 (List.mem_of_getElem? (i := 88) (by decide +kernel)) rfl
theorem wM_L_66 : (.methodLink RL 66 yX4_cold : Cond) ∈ ALL := all_2 (List.mem_of_getElem? (i := 89) (by decide +kernel)) rfl
theorem wN_yX4_cold : (.instanceMethod yX4_cold : Cond) ∈ ALL := all_2 (List.mem_of_getElem? (i := 90) (by decide +kernel)) rfl
theorem wS_yX4_cold : (.selects RX4 yX4_cold yX4_cold : Cond) ∈ ALL := all_2 (List.mem_of_getElem? (i := 91) (by decide +kernel)) rfl
theorem wC_yX4_cold : (.code yX4_cold cX4_cold 3 (some .int) : Cond) ∈ ALL := all_2 (List.mem_of_getElem? (i := 92) (by decide +kernel)) rfl
theorem wM_X4_102 : (.methodLink RX4 102 yX2_tellCold : Cond) ∈ ALL := all_2 (List.mem_of_getElem? (i := 93) (by decide +kernel)) rfl
theorem wN_yX2_tellCold : (.instanceMethod yX2_tellCold : Cond) ∈ ALL := all_2 (List.mem_of_getElem? (i := 94) (by decide +kernel)) rfl
theorem wS_yX2_tellCold : (.selects RX2 yX2_tellCold yX2_tellCold : Cond) ∈ ALL := all_2 (List.mem_of_getElem? (i := 95) (by decide +kernel)) rfl
theorem wC_yX2_tellCold : (.code yX2_tellCold cX2_tellCold 3 none : Cond) ∈ ALL := all_2 (List.mem_of_getElem? (i := 96) (by decide +kernel)) rfl
theorem wM_X4_106 : (.methodLink RX4 106 yX2_countCold : Cond) ∈ ALL := all_2 (List.mem_of_getElem? (i := 97) (by decide +kernel)) rfl
theorem wN_yX2_countCold : (.instanceMethod yX2_countCold : Cond) ∈ ALL := all_2 (List.mem_of_getElem? (i := 98) (by decide +kernel)) rfl
theorem wS_yX2_countCold : (.selects RX2 yX2_countCold yX2_countCold : Cond) ∈ ALL := all_2 (List.mem_of_getElem? (i := 99) (by decide +kernel)) rfl
theorem wC_yX2_countCold : (.code yX2_countCold cX2_countCold 3 (some .int) : Cond) ∈ ALL := all_2 (List.mem_of_getElem? (i := 100) (by decide +kernel)) rfl
theorem wM_L_71 : (.methodLink RL 71 yX4_flip : Cond) ∈ ALL := all_2 (List.mem_of_getElem? (i := 101) (by decide +kernel)) rfl
theorem wN_yX4_flip : (.instanceMethod yX4_flip : Cond) ∈ ALL := all_2 (List.mem_of_getElem? (i := 102) (by decide +kernel)) rfl
theorem wS_yX4_flip : (.selects RX4 yX4_flip yX4_flip : Cond) ∈ ALL := all_2 (List.mem_of_getElem? (i := 103) (by decide +kernel)) rfl
theorem wC_yX4_flip : (.code yX4_flip cX4_flip 3 (some .int) : Cond) ∈ ALL := all_2 (List.mem_of_getElem? (i := 104) (by decide +kernel)) rfl
theorem wM_X4_109 : (.methodLink RX4 109 yX1_has : Cond) ∈ ALL := all_2 (List.mem_of_getElem? (i := 105) (by decide +kernel)) rfl
theorem wN_yX1_has : (.instanceMethod yX1_has : Cond) ∈ ALL := all_2 (List.mem_of_getElem? (i := 106) (by decide +kernel)) rfl
theorem wS_yX1_has : (.selects RX1 yX1_has yX1_has : Cond) ∈ ALL := all_2 (List.mem_of_getElem? (i := 107) (by decide +kernel)) rfl
theorem wC_yX1_has : (.code yX1_has cX1_has 3 (some .boolean) : Cond) ∈ ALL := all_2 (List.mem_of_getElem? (i := 108) (by decide +kernel)) rfl
theorem wM_X4_112 : (.methodLink RX4 112 yX1_add : Cond) ∈ ALL := all_2 (List.mem_of_getElem? (i := 109) (by decide +kernel)) rfl
theorem wN_yX1_add : (.instanceMethod yX1_add : Cond) ∈ ALL := all_2 (List.mem_of_getElem? (i := 110) (by decide +kernel)) rfl
theorem wS_yX1_add : (.selects RX1 yX1_add yX1_add : Cond) ∈ ALL := all_2 (List.mem_of_getElem? (i := 111) (by decide +kernel)) rfl
theorem wC_yX1_add : (.code yX1_add cX1_add 3 (some .int) : Cond) ∈ ALL := all_2 (List.mem_of_getElem? (i := 112) (by decide +kernel)) rfl
theorem wM_L_75 : (.methodLink RL 75 yX4_close : Cond) ∈ ALL := all_2 (List.mem_of_getElem? (i := 113) (by decide +kernel)) rfl
theorem wN_yX4_close : (.instanceMethod yX4_close : Cond) ∈ ALL := all_2 (List.mem_of_getElem? (i := 114) (by decide +kernel)) rfl
theorem wS_yX4_close : (.selects RX4 yX4_close yX4_close : Cond) ∈ ALL := all_2 (List.mem_of_getElem? (i := 115) (by decide +kernel)) rfl
theorem wC_yX4_close : (.code yX4_close cX4_close 2 (some .boolean) : Cond) ∈ ALL := all_2 (List.mem_of_getElem? (i := 116) (by decide +kernel)) rfl
theorem wM_X4_115 : (.methodLink RX4 115 yX2_areWithin : Cond) ∈ ALL := all_2 (List.mem_of_getElem? (i := 117) (by decide +kernel)) rfl
theorem wN_yX2_areWithin : (.instanceMethod yX2_areWithin : Cond) ∈ ALL := all_2 (List.mem_of_getElem? (i := 118) (by decide +kernel)) rfl
theorem wS_yX2_areWithin : (.selects RX2 yX2_areWithin yX2_areWithin : Cond) ∈ ALL := all_2 (List.mem_of_getElem? (i := 119) (by decide +kernel)) rfl
theorem wC_yX2_areWithin : (.code yX2_areWithin cX2_areWithin 4 (some .boolean) : Cond) ∈ ALL := all_2 (List.mem_of_getElem? (i := 120) (by decide +kernel)) rfl
theorem wM_X2_52 : (.methodLink RX2 52 yX2_distance : Cond) ∈ ALL := all_2 (List.mem_of_getElem? (i := 121) (by decide +kernel)) rfl
theorem wN_yX2_distance : (.instanceMethod yX2_distance : Cond) ∈ ALL := all_2 (List.mem_of_getElem? (i := 123) (by decide +kernel)) rfl
theorem wC_yX2_distance : (.code yX2_distance cX2_distance 3 (some .long) : Cond) ∈ ALL := all_2 (List.mem_of_getElem? (i := 124) (by decide +kernel)) rfl
theorem wM_X2_56 : (.methodLink RX2 56 Lib.MathLoose.abs_long.x : Cond) ∈ ALL := all_2 (List.mem_of_getElem? (i := 125) (by decide +kernel)) rfl
theorem wT_Lib_MathLoose_abs_long_x : (.static Lib.MathLoose.abs_long.x : Cond) ∈ ALL := all_2 (List.mem_of_getElem? (i := 126) (by decide +kernel)) rfl
theorem wC_Lib_MathLoose_abs_long : (.code Lib.MathLoose.abs_long.x Lib.MathLoose.abs_long.code 2 (some .long) : Cond) ∈ ALL := all_2 (List.mem_of_getElem? (i := 127) (by decide +kernel)) rfl
theorem wM_L_80 : (.methodLink RL 80 yX4_midpoint : Cond) ∈ ALL := all_2 (List.mem_of_getElem? (i := 128) (by decide +kernel)) rfl
theorem wN_yX4_midpoint : (.instanceMethod yX4_midpoint : Cond) ∈ ALL := all_2 (List.mem_of_getElem? (i := 129) (by decide +kernel)) rfl
theorem wS_yX4_midpoint : (.selects RX4 yX4_midpoint yX4_midpoint : Cond) ∈ ALL := all_2 (List.mem_of_getElem? (i := 130) (by decide +kernel)) rfl
theorem wC_yX4_midpoint : (.code yX4_midpoint cX4_midpoint 2 (some .int) : Cond) ∈ ALL := all_2 (List.mem_of_getElem? (i := 131) (by decide +kernel)) rfl
theorem wM_L_15 : (.methodLink RL 15 yL_cell : Cond) ∈ ALL := all_2 (List.mem_of_getElem? (i := 132) (by decide +kernel)) rfl
theorem wT_yL_cell : (.static yL_cell : Cond) ∈ ALL := all_2 (List.mem_of_getElem? (i := 133) (by decide +kernel)) rfl
theorem wC_yL_cell : (.code yL_cell cL_cell 2 (some .int) : Cond) ∈ ALL := all_2 (List.mem_of_getElem? (i := 134) (by decide +kernel)) rfl
theorem wM_L_58 : (.methodLink RL 58 yL_place : Cond) ∈ ALL := all_2 (List.mem_of_getElem? (i := 135) (by decide +kernel)) rfl
theorem wT_yL_place : (.static yL_place : Cond) ∈ ALL := all_2 (List.mem_of_getElem? (i := 136) (by decide +kernel)) rfl
theorem wL_L_13 : (.classLink RL 13 RJx00060 : Cond) ∈ ALL := all_2 (List.mem_of_getElem? (i := 138) (by decide +kernel)) rfl
theorem wG_Jx00060 : (.instantiable RJx00060 6 : Cond) ∈ ALL := all_2 (List.mem_of_getElem? (i := 139) (by decide +kernel)) rfl
theorem wN_yJx00060_init_a7421 : (.instanceMethod yJx00060_init_a7421 : Cond) ∈ ALL := all_2 (List.mem_of_getElem? (i := 140) (by decide +kernel)) rfl
theorem wC_yJx00060_init_a7421 : (.code yJx00060_init_a7421 cJx00060_init_a7421 2 none : Cond) ∈ ALL := all_2 (List.mem_of_getElem? (i := 141) (by decide +kernel)) rfl
theorem wG_J0 : (.instantiable RJ0 4 : Cond) ∈ ALL := all_2 (List.mem_of_getElem? (i := 206) (by decide +kernel)) rfl
theorem wA_byte : (.arrayClass .byte : Cond) ∈ ALL := all_2 (List.mem_of_getElem? (i := 207) (by decide +kernel)) rfl
theorem wM_L_7 : (.methodLink RL 7 yX4_place : Cond) ∈ ALL := all_2 (List.mem_of_getElem? (i := 212) (by decide +kernel)) rfl
theorem wN_yX4_place : (.instanceMethod yX4_place : Cond) ∈ ALL := all_2 (List.mem_of_getElem? (i := 213) (by decide +kernel)) rfl
theorem wS_yX4_place : (.selects RX4 yX4_place yX4_place : Cond) ∈ ALL := all_2 (List.mem_of_getElem? (i := 214) (by decide +kernel)) rfl
theorem wC_yX4_place : (.code yX4_place cX4_place 4 (some .int) : Cond) ∈ ALL := all_2 (List.mem_of_getElem? (i := 215) (by decide +kernel)) rfl
theorem wL_X4_96 : (.classLink RX4 96 RJx00060 : Cond) ∈ ALL := all_2 (List.mem_of_getElem? (i := 216) (by decide +kernel)) rfl
theorem wM_X4_98 : (.methodLink RX4 98 yJx00060_init_da8c8 : Cond) ∈ ALL := all_2 (List.mem_of_getElem? (i := 217) (by decide +kernel)) rfl
theorem wN_yJx00060_init_da8c8 : (.instanceMethod yJx00060_init_da8c8 : Cond) ∈ ALL := all_2 (List.mem_of_getElem? (i := 218) (by decide +kernel)) rfl
theorem wC_yJx00060_init_da8c8 : (.code yJx00060_init_da8c8 cJx00060_init_da8c8 1 none : Cond) ∈ ALL := all_2 (List.mem_of_getElem? (i := 219) (by decide +kernel)) rfl
theorem wM_X4_99 : (.methodLink RX4 99 yX3_nodeAt : Cond) ∈ ALL := all_2 (List.mem_of_getElem? (i := 230) (by decide +kernel)) rfl
theorem wN_yX3_nodeAt : (.instanceMethod yX3_nodeAt : Cond) ∈ ALL := all_2 (List.mem_of_getElem? (i := 231) (by decide +kernel)) rfl
theorem wS_yX3_nodeAt : (.selects RX3 yX3_nodeAt yX3_nodeAt : Cond) ∈ ALL := all_2 (List.mem_of_getElem? (i := 232) (by decide +kernel)) rfl
theorem wC_yX3_nodeAt : (.code yX3_nodeAt cX3_nodeAt 5 (some .int) : Cond) ∈ ALL := all_2 (List.mem_of_getElem? (i := 233) (by decide +kernel)) rfl
theorem wL_L_24 : (.classLink RL 24 RX5 : Cond) ∈ ALL := all_2 (List.mem_of_getElem? (i := 234) (by decide +kernel)) rfl
theorem wG_X5 : (.instantiable RX5 27 : Cond) ∈ ALL := all_2 (List.mem_of_getElem? (i := 235) (by decide +kernel)) rfl
theorem wM_L_26 : (.methodLink RL 26 yX5_init : Cond) ∈ ALL := all_2 (List.mem_of_getElem? (i := 236) (by decide +kernel)) rfl
theorem wN_yX5_init : (.instanceMethod yX5_init : Cond) ∈ ALL := all_2 (List.mem_of_getElem? (i := 237) (by decide +kernel)) rfl
theorem wC_yX5_init : (.code yX5_init cX5_init 5 none : Cond) ∈ ALL := all_2 (List.mem_of_getElem? (i := 238) (by decide +kernel)) rfl
theorem wM_X5_1 : (.methodLink RX5 1 objectInit : Cond) ∈ ALL := all_2 (List.mem_of_getElem? (i := 239) (by decide +kernel)) rfl
theorem wF_X5_81 : (.fieldLink RX5 81 "FlexCyclesModel" "thrown" "I" : Cond) ∈ ALL := all_3 (List.mem_of_getElem? (i := 0) (by decide +kernel)) rfl
theorem wF_X5_71 : (.fieldLink RX5 71 "FlexCyclesModel" "nodes" "I" : Cond) ∈ ALL := all_3 (List.mem_of_getElem? (i := 1) (by decide +kernel)) rfl
theorem wF_X5_75 : (.fieldLink RX5 75 "FlexCyclesModel" "slots" "I" : Cond) ∈ ALL := all_3 (List.mem_of_getElem? (i := 2) (by decide +kernel)) rfl
theorem wF_X5_78 : (.fieldLink RX5 78 "FlexCyclesModel" "minis" "I" : Cond) ∈ ALL := all_3 (List.mem_of_getElem? (i := 3) (by decide +kernel)) rfl
theorem wF_X5_7 : (.fieldLink RX5 7 "FlexCyclesModel" "state" "[I" : Cond) ∈ ALL := all_3 (List.mem_of_getElem? (i := 4) (by decide +kernel)) rfl
theorem wF_X5_13 : (.fieldLink RX5 13 "FlexCyclesModel" "isCold" "[Z" : Cond) ∈ ALL := all_3 (List.mem_of_getElem? (i := 5) (by decide +kernel)) rfl
theorem wF_X5_17 : (.fieldLink RX5 17 "FlexCyclesModel" "error" "[I" : Cond) ∈ ALL := all_3 (List.mem_of_getElem? (i := 6) (by decide +kernel)) rfl
theorem wF_X5_20 : (.fieldLink RX5 20 "FlexCyclesModel" "drift" "[I" : Cond) ∈ ALL := all_3 (List.mem_of_getElem? (i := 7) (by decide +kernel)) rfl
theorem wF_X5_23 : (.fieldLink RX5 23 "FlexCyclesModel" "rate" "[I" : Cond) ∈ ALL := all_3 (List.mem_of_getElem? (i := 8) (by decide +kernel)) rfl
theorem wF_X5_26 : (.fieldLink RX5 26 "FlexCyclesModel" "middle" "[I" : Cond) ∈ ALL := all_3 (List.mem_of_getElem? (i := 9) (by decide +kernel)) rfl
theorem wF_X5_29 : (.fieldLink RX5 29 "FlexCyclesModel" "middleCycle" "[I" : Cond) ∈ ALL := all_3 (List.mem_of_getElem? (i := 10) (by decide +kernel)) rfl
theorem wF_X5_32 : (.fieldLink RX5 32 "FlexCyclesModel" "waited" "[I" : Cond) ∈ ALL := all_3 (List.mem_of_getElem? (i := 11) (by decide +kernel)) rfl
theorem wF_X5_35 : (.fieldLink RX5 35 "FlexCyclesModel" "wasDone" "[Z" : Cond) ∈ ALL := all_3 (List.mem_of_getElem? (i := 12) (by decide +kernel)) rfl
theorem wF_X5_38 : (.fieldLink RX5 38 "FlexCyclesModel" "now" "[I" : Cond) ∈ ALL := all_3 (List.mem_of_getElem? (i := 13) (by decide +kernel)) rfl
theorem wF_X5_41 : (.fieldLink RX5 41 "FlexCyclesModel" "apart" "[I" : Cond) ∈ ALL := all_3 (List.mem_of_getElem? (i := 14) (by decide +kernel)) rfl
theorem wF_X5_91 : (.fieldLink RX5 91 "FlexCyclesModel" "frames" "I" : Cond) ∈ ALL := all_3 (List.mem_of_getElem? (i := 15) (by decide +kernel)) rfl
theorem wF_X5_44 : (.fieldLink RX5 44 "FlexCyclesModel" "frameNode" "[I" : Cond) ∈ ALL := all_3 (List.mem_of_getElem? (i := 16) (by decide +kernel)) rfl
theorem wF_X5_47 : (.fieldLink RX5 47 "FlexCyclesModel" "frameSlot" "[I" : Cond) ∈ ALL := all_3 (List.mem_of_getElem? (i := 17) (by decide +kernel)) rfl
theorem wF_X5_50 : (.fieldLink RX5 50 "FlexCyclesModel" "frameChannels" "[I" : Cond) ∈ ALL := all_3 (List.mem_of_getElem? (i := 18) (by decide +kernel)) rfl
theorem wF_X5_53 : (.fieldLink RX5 53 "FlexCyclesModel" "frameBase" "[I" : Cond) ∈ ALL := all_3 (List.mem_of_getElem? (i := 19) (by decide +kernel)) rfl
theorem wF_X5_56 : (.fieldLink RX5 56 "FlexCyclesModel" "frameEvery" "[I" : Cond) ∈ ALL := all_3 (List.mem_of_getElem? (i := 20) (by decide +kernel)) rfl
theorem wF_X5_94 : (.fieldLink RX5 94 "FlexCyclesModel" "waiting" "I" : Cond) ∈ ALL := all_3 (List.mem_of_getElem? (i := 21) (by decide +kernel)) rfl
theorem wF_X5_59 : (.fieldLink RX5 59 "FlexCyclesModel" "waitNode" "[I" : Cond) ∈ ALL := all_3 (List.mem_of_getElem? (i := 22) (by decide +kernel)) rfl
theorem wF_X5_62 : (.fieldLink RX5 62 "FlexCyclesModel" "waitNumber" "[I" : Cond) ∈ ALL := all_3 (List.mem_of_getElem? (i := 23) (by decide +kernel)) rfl
theorem wF_X5_65 : (.fieldLink RX5 65 "FlexCyclesModel" "waitLength" "[I" : Cond) ∈ ALL := all_3 (List.mem_of_getElem? (i := 24) (by decide +kernel)) rfl
theorem wF_X5_68 : (.fieldLink RX5 68 "FlexCyclesModel" "flips" "[I" : Cond) ∈ ALL := all_3 (List.mem_of_getElem? (i := 25) (by decide +kernel)) rfl
theorem wF_X5_97 : (.fieldLink RX5 97 "FlexCyclesModel" "cycle" "I" : Cond) ∈ ALL := all_3 (List.mem_of_getElem? (i := 26) (by decide +kernel)) rfl
theorem wM_L_62 : (.methodLink RL 62 yX5_thrown : Cond) ∈ ALL := all_3 (List.mem_of_getElem? (i := 82) (by decide +kernel)) rfl
theorem wN_yX5_thrown : (.instanceMethod yX5_thrown : Cond) ∈ ALL := all_3 (List.mem_of_getElem? (i := 83) (by decide +kernel)) rfl
theorem wS_yX5_thrown : (.selects RX5 yX5_thrown yX5_thrown : Cond) ∈ ALL := all_3 (List.mem_of_getElem? (i := 84) (by decide +kernel)) rfl
theorem wC_yX5_thrown : (.code yX5_thrown cX5_thrown 1 (some .int) : Cond) ∈ ALL := all_3 (List.mem_of_getElem? (i := 85) (by decide +kernel)) rfl
theorem wM_L_31 : (.methodLink RL 31 yX5_frame : Cond) ∈ ALL := all_3 (List.mem_of_getElem? (i := 86) (by decide +kernel)) rfl
theorem wN_yX5_frame : (.instanceMethod yX5_frame : Cond) ∈ ALL := all_3 (List.mem_of_getElem? (i := 87) (by decide +kernel)) rfl
theorem wS_yX5_frame : (.selects RX5 yX5_frame yX5_frame : Cond) ∈ ALL := all_3 (List.mem_of_getElem? (i := 88) (by decide +kernel)) rfl
theorem wC_yX5_frame : (.code yX5_frame cX5_frame 9 (some .int) : Cond) ∈ ALL := all_3 (List.mem_of_getElem? (i := 89) (by decide +kernel)) rfl
theorem wM_X5_84 : (.methodLink RX5 84 yX5_isNode : Cond) ∈ ALL := all_3 (List.mem_of_getElem? (i := 90) (by decide +kernel)) rfl
theorem wN_yX5_isNode : (.instanceMethod yX5_isNode : Cond) ∈ ALL := all_3 (List.mem_of_getElem? (i := 92) (by decide +kernel)) rfl
theorem wC_yX5_isNode : (.code yX5_isNode cX5_isNode 2 (some .boolean) : Cond) ∈ ALL := all_3 (List.mem_of_getElem? (i := 93) (by decide +kernel)) rfl
theorem wM_X5_88 : (.methodLink RX5 88 yX5_isSlot : Cond) ∈ ALL := all_3 (List.mem_of_getElem? (i := 94) (by decide +kernel)) rfl
theorem wN_yX5_isSlot : (.instanceMethod yX5_isSlot : Cond) ∈ ALL := all_3 (List.mem_of_getElem? (i := 96) (by decide +kernel)) rfl
theorem wC_yX5_isSlot : (.code yX5_isSlot cX5_isSlot 2 (some .boolean) : Cond) ∈ ALL := all_3 (List.mem_of_getElem? (i := 97) (by decide +kernel)) rfl
theorem wM_L_36 : (.methodLink RL 36 yX5_dynamic : Cond) ∈ ALL := all_3 (List.mem_of_getElem? (i := 98) (by decide +kernel)) rfl
theorem wN_yX5_dynamic : (.instanceMethod yX5_dynamic : Cond) ∈ ALL := all_3 (List.mem_of_getElem? (i := 99) (by decide +kernel)) rfl
theorem wS_yX5_dynamic : (.selects RX5 yX5_dynamic yX5_dynamic : Cond) ∈ ALL := all_3 (List.mem_of_getElem? (i := 100) (by decide +kernel)) rfl
theorem wC_yX5_dynamic : (.code yX5_dynamic cX5_dynamic 4 (some .int) : Cond) ∈ ALL := all_3 (List.mem_of_getElem? (i := 101) (by decide +kernel)) rfl
theorem wM_L_40 : (.methodLink RL 40 yX5_drift : Cond) ∈ ALL := all_3 (List.mem_of_getElem? (i := 102) (by decide +kernel)) rfl
theorem wN_yX5_drift : (.instanceMethod yX5_drift : Cond) ∈ ALL := all_3 (List.mem_of_getElem? (i := 103) (by decide +kernel)) rfl
theorem wS_yX5_drift : (.selects RX5 yX5_drift yX5_drift : Cond) ∈ ALL := all_3 (List.mem_of_getElem? (i := 104) (by decide +kernel)) rfl
theorem wC_yX5_drift : (.code yX5_drift cX5_drift 3 (some .int) : Cond) ∈ ALL := all_3 (List.mem_of_getElem? (i := 105) (by decide +kernel)) rfl
theorem wM_L_45 : (.methodLink RL 45 yX5_run : Cond) ∈ ALL := all_3 (List.mem_of_getElem? (i := 106) (by decide +kernel)) rfl
theorem wN_yX5_run : (.instanceMethod yX5_run : Cond) ∈ ALL := all_3 (List.mem_of_getElem? (i := 107) (by decide +kernel)) rfl
theorem wS_yX5_run : (.selects RX5 yX5_run yX5_run : Cond) ∈ ALL := all_3 (List.mem_of_getElem? (i := 108) (by decide +kernel)) rfl
theorem wC_yX5_run : (.code yX5_run cX5_run 5 (some .int) : Cond) ∈ ALL := all_3 (List.mem_of_getElem? (i := 109) (by decide +kernel)) rfl
theorem wM_X5_107 : (.methodLink RX5 107 yX5_startUp : Cond) ∈ ALL := all_3 (List.mem_of_getElem? (i := 110) (by decide +kernel)) rfl
theorem wN_yX5_startUp : (.instanceMethod yX5_startUp : Cond) ∈ ALL := all_3 (List.mem_of_getElem? (i := 112) (by decide +kernel)) rfl
theorem wC_yX5_startUp : (.code yX5_startUp cX5_startUp 5 none : Cond) ∈ ALL := all_3 (List.mem_of_getElem? (i := 113) (by decide +kernel)) rfl
theorem wM_X5_110 : (.methodLink RX5 110 yX5_sendStatic : Cond) ∈ ALL := all_3 (List.mem_of_getElem? (i := 114) (by decide +kernel)) rfl
theorem wN_yX5_sendStatic : (.instanceMethod yX5_sendStatic : Cond) ∈ ALL := all_3 (List.mem_of_getElem? (i := 116) (by decide +kernel)) rfl
theorem wC_yX5_sendStatic : (.code yX5_sendStatic cX5_sendStatic 5 (some .int) : Cond) ∈ ALL := all_3 (List.mem_of_getElem? (i := 117) (by decide +kernel)) rfl
theorem wM_X5_114 : (.methodLink RX5 114 yX5_sendDynamic : Cond) ∈ ALL := all_3 (List.mem_of_getElem? (i := 118) (by decide +kernel)) rfl
theorem wN_yX5_sendDynamic : (.instanceMethod yX5_sendDynamic : Cond) ∈ ALL := all_3 (List.mem_of_getElem? (i := 120) (by decide +kernel)) rfl
theorem wC_yX5_sendDynamic : (.code yX5_sendDynamic cX5_sendDynamic 6 (some .int) : Cond) ∈ ALL := all_3 (List.mem_of_getElem? (i := 121) (by decide +kernel)) rfl
theorem wM_X5_100 : (.methodLink RX5 100 yX5_waitingOne : Cond) ∈ ALL := all_3 (List.mem_of_getElem? (i := 122) (by decide +kernel)) rfl
theorem wN_yX5_waitingOne : (.instanceMethod yX5_waitingOne : Cond) ∈ ALL := all_3 (List.mem_of_getElem? (i := 124) (by decide +kernel)) rfl
theorem wC_yX5_waitingOne : (.code yX5_waitingOne cX5_waitingOne 3 (some .int) : Cond) ∈ ALL := all_3 (List.mem_of_getElem? (i := 125) (by decide +kernel)) rfl
theorem wM_X5_117 : (.methodLink RX5 117 yX5_correct : Cond) ∈ ALL := all_3 (List.mem_of_getElem? (i := 126) (by decide +kernel)) rfl
theorem wN_yX5_correct : (.instanceMethod yX5_correct : Cond) ∈ ALL := all_3 (List.mem_of_getElem? (i := 128) (by decide +kernel)) rfl
theorem wC_yX5_correct : (.code yX5_correct cX5_correct 3 none : Cond) ∈ ALL := all_3 (List.mem_of_getElem? (i := 129) (by decide +kernel)) rfl
theorem wM_X5_104 : (.methodLink RX5 104 yX5_midpointOf : Cond) ∈ ALL := all_3 (List.mem_of_getElem? (i := 130) (by decide +kernel)) rfl
theorem wN_yX5_midpointOf : (.instanceMethod yX5_midpointOf : Cond) ∈ ALL := all_3 (List.mem_of_getElem? (i := 132) (by decide +kernel)) rfl
theorem wC_yX5_midpointOf : (.code yX5_midpointOf cX5_midpointOf 6 (some .int) : Cond) ∈ ALL := all_3 (List.mem_of_getElem? (i := 133) (by decide +kernel)) rfl
theorem wM_L_49 : (.methodLink RL 49 yX5_state : Cond) ∈ ALL := all_3 (List.mem_of_getElem? (i := 134) (by decide +kernel)) rfl
theorem wN_yX5_state : (.instanceMethod yX5_state : Cond) ∈ ALL := all_3 (List.mem_of_getElem? (i := 135) (by decide +kernel)) rfl
theorem wS_yX5_state : (.selects RX5 yX5_state yX5_state : Cond) ∈ ALL := all_3 (List.mem_of_getElem? (i := 136) (by decide +kernel)) rfl
theorem wC_yX5_state : (.code yX5_state cX5_state 2 (some .int) : Cond) ∈ ALL := all_3 (List.mem_of_getElem? (i := 137) (by decide +kernel)) rfl
theorem wM_L_53 : (.methodLink RL 53 yX5_offset : Cond) ∈ ALL := all_3 (List.mem_of_getElem? (i := 138) (by decide +kernel)) rfl
theorem wN_yX5_offset : (.instanceMethod yX5_offset : Cond) ∈ ALL := all_3 (List.mem_of_getElem? (i := 139) (by decide +kernel)) rfl
theorem wS_yX5_offset : (.selects RX5 yX5_offset yX5_offset : Cond) ∈ ALL := all_3 (List.mem_of_getElem? (i := 140) (by decide +kernel)) rfl
theorem wC_yX5_offset : (.code yX5_offset cX5_offset 2 (some .int) : Cond) ∈ ALL := all_3 (List.mem_of_getElem? (i := 141) (by decide +kernel)) rfl
theorem wM_L_57 : (.methodLink RL 57 yX5_rate : Cond) ∈ ALL := all_3 (List.mem_of_getElem? (i := 142) (by decide +kernel)) rfl
theorem wN_yX5_rate : (.instanceMethod yX5_rate : Cond) ∈ ALL := all_3 (List.mem_of_getElem? (i := 143) (by decide +kernel)) rfl
theorem wS_yX5_rate : (.selects RX5 yX5_rate yX5_rate : Cond) ∈ ALL := all_3 (List.mem_of_getElem? (i := 144) (by decide +kernel)) rfl
theorem wC_yX5_rate : (.code yX5_rate cX5_rate 2 (some .int) : Cond) ∈ ALL := all_3 (List.mem_of_getElem? (i := 145) (by decide +kernel)) rfl
theorem wM_L_61 : (.methodLink RL 61 yX5_place : Cond) ∈ ALL := all_3 (List.mem_of_getElem? (i := 146) (by decide +kernel)) rfl
theorem wN_yX5_place : (.instanceMethod yX5_place : Cond) ∈ ALL := all_3 (List.mem_of_getElem? (i := 147) (by decide +kernel)) rfl
theorem wS_yX5_place : (.selects RX5 yX5_place yX5_place : Cond) ∈ ALL := all_3 (List.mem_of_getElem? (i := 148) (by decide +kernel)) rfl
theorem wC_yX5_place : (.code yX5_place cX5_place 7 (some .int) : Cond) ∈ ALL := all_3 (List.mem_of_getElem? (i := 149) (by decide +kernel)) rfl
theorem wM_L_70 : (.methodLink RL 70 yX5_cold : Cond) ∈ ALL := all_3 (List.mem_of_getElem? (i := 150) (by decide +kernel)) rfl
theorem wN_yX5_cold : (.instanceMethod yX5_cold : Cond) ∈ ALL := all_3 (List.mem_of_getElem? (i := 151) (by decide +kernel)) rfl
theorem wS_yX5_cold : (.selects RX5 yX5_cold yX5_cold : Cond) ∈ ALL := all_3 (List.mem_of_getElem? (i := 152) (by decide +kernel)) rfl
theorem wC_yX5_cold : (.code yX5_cold cX5_cold 5 (some .int) : Cond) ∈ ALL := all_3 (List.mem_of_getElem? (i := 153) (by decide +kernel)) rfl
theorem wM_L_74 : (.methodLink RL 74 yX5_flip : Cond) ∈ ALL := all_3 (List.mem_of_getElem? (i := 154) (by decide +kernel)) rfl
theorem wN_yX5_flip : (.instanceMethod yX5_flip : Cond) ∈ ALL := all_3 (List.mem_of_getElem? (i := 155) (by decide +kernel)) rfl
theorem wS_yX5_flip : (.selects RX5 yX5_flip yX5_flip : Cond) ∈ ALL := all_3 (List.mem_of_getElem? (i := 156) (by decide +kernel)) rfl
theorem wC_yX5_flip : (.code yX5_flip cX5_flip 5 (some .int) : Cond) ∈ ALL := all_3 (List.mem_of_getElem? (i := 157) (by decide +kernel)) rfl
theorem wM_L_79 : (.methodLink RL 79 yX5_close : Cond) ∈ ALL := all_3 (List.mem_of_getElem? (i := 158) (by decide +kernel)) rfl
theorem wN_yX5_close : (.instanceMethod yX5_close : Cond) ∈ ALL := all_3 (List.mem_of_getElem? (i := 159) (by decide +kernel)) rfl
theorem wS_yX5_close : (.selects RX5 yX5_close yX5_close : Cond) ∈ ALL := all_3 (List.mem_of_getElem? (i := 160) (by decide +kernel)) rfl
theorem wC_yX5_close : (.code yX5_close cX5_close 7 (some .boolean) : Cond) ∈ ALL := all_3 (List.mem_of_getElem? (i := 161) (by decide +kernel)) rfl
theorem wM_L_83 : (.methodLink RL 83 yX5_midpoint : Cond) ∈ ALL := all_3 (List.mem_of_getElem? (i := 162) (by decide +kernel)) rfl
theorem wN_yX5_midpoint : (.instanceMethod yX5_midpoint : Cond) ∈ ALL := all_3 (List.mem_of_getElem? (i := 163) (by decide +kernel)) rfl
theorem wS_yX5_midpoint : (.selects RX5 yX5_midpoint yX5_midpoint : Cond) ∈ ALL := all_3 (List.mem_of_getElem? (i := 164) (by decide +kernel)) rfl
theorem wC_yX5_midpoint : (.code yX5_midpoint cX5_midpoint 2 (some .int) : Cond) ∈ ALL := all_3 (List.mem_of_getElem? (i := 165) (by decide +kernel)) rfl
theorem wA_long : (.arrayClass .long : Cond) ∈ ALL := all_3 (List.mem_of_getElem? (i := 166) (by decide +kernel)) rfl
theorem wS_yX4_hasSlot : (.selects RX4 yX4_hasSlot yX4_hasSlot : Cond) ∈ ALL := all_s (List.mem_of_getElem? (i := 0) (by decide +kernel))
theorem wS_yX3_isOn : (.selects RX3 yX3_isOn yX3_isOn : Cond) ∈ ALL := all_s (List.mem_of_getElem? (i := 1) (by decide +kernel))
theorem wS_yX4_runOne : (.selects RX4 yX4_runOne yX4_runOne : Cond) ∈ ALL := all_s (List.mem_of_getElem? (i := 2) (by decide +kernel))
theorem wS_yX2_leastActive : (.selects RX2 yX2_leastActive yX2_leastActive : Cond) ∈ ALL := all_s (List.mem_of_getElem? (i := 3) (by decide +kernel))
theorem wS_yX2_integrate : (.selects RX2 yX2_integrate yX2_integrate : Cond) ∈ ALL := all_s (List.mem_of_getElem? (i := 4) (by decide +kernel))
theorem wS_yX2_listen : (.selects RX2 yX2_listen yX2_listen : Cond) ∈ ALL := all_s (List.mem_of_getElem? (i := 5) (by decide +kernel))
theorem wS_yX2_countStarters : (.selects RX2 yX2_countStarters yX2_countStarters : Cond) ∈ ALL := all_s (List.mem_of_getElem? (i := 6) (by decide +kernel))
theorem wS_yX2_isStarter : (.selects RX2 yX2_isStarter yX2_isStarter : Cond) ∈ ALL := all_s (List.mem_of_getElem? (i := 7) (by decide +kernel))
theorem wS_yX2_startCold : (.selects RX2 yX2_startCold yX2_startCold : Cond) ∈ ALL := all_s (List.mem_of_getElem? (i := 8) (by decide +kernel))
theorem wS_yX3_isIn : (.selects RX3 yX3_isIn yX3_isIn : Cond) ∈ ALL := all_s (List.mem_of_getElem? (i := 9) (by decide +kernel))
theorem wS_yX0_firstOf : (.selects RX0 yX0_firstOf yX0_firstOf : Cond) ∈ ALL := all_s (List.mem_of_getElem? (i := 10) (by decide +kernel))
theorem wS_yX0_remove : (.selects RX0 yX0_remove yX0_remove : Cond) ∈ ALL := all_s (List.mem_of_getElem? (i := 11) (by decide +kernel))
theorem wS_yX2_findMidpoint : (.selects RX2 yX2_findMidpoint yX2_findMidpoint : Cond) ∈ ALL := all_s (List.mem_of_getElem? (i := 12) (by decide +kernel))
theorem wS_yX2_insertDeviation : (.selects RX2 yX2_insertDeviation yX2_insertDeviation : Cond) ∈ ALL := all_s (List.mem_of_getElem? (i := 13) (by decide +kernel))
theorem wS_yX2_apply : (.selects RX2 yX2_apply yX2_apply : Cond) ∈ ALL := all_s (List.mem_of_getElem? (i := 14) (by decide +kernel))
theorem wS_yX2_changeRate : (.selects RX2 yX2_changeRate yX2_changeRate : Cond) ∈ ALL := all_s (List.mem_of_getElem? (i := 15) (by decide +kernel))
theorem wS_yX2_distance : (.selects RX2 yX2_distance yX2_distance : Cond) ∈ ALL := all_s (List.mem_of_getElem? (i := 16) (by decide +kernel))
theorem wS_yX5_isNode : (.selects RX5 yX5_isNode yX5_isNode : Cond) ∈ ALL := all_s (List.mem_of_getElem? (i := 18) (by decide +kernel))
theorem wS_yX5_isSlot : (.selects RX5 yX5_isSlot yX5_isSlot : Cond) ∈ ALL := all_s (List.mem_of_getElem? (i := 19) (by decide +kernel))
theorem wS_yX5_startUp : (.selects RX5 yX5_startUp yX5_startUp : Cond) ∈ ALL := all_s (List.mem_of_getElem? (i := 20) (by decide +kernel))
theorem wS_yX5_sendStatic : (.selects RX5 yX5_sendStatic yX5_sendStatic : Cond) ∈ ALL := all_s (List.mem_of_getElem? (i := 21) (by decide +kernel))
theorem wS_yX5_sendDynamic : (.selects RX5 yX5_sendDynamic yX5_sendDynamic : Cond) ∈ ALL := all_s (List.mem_of_getElem? (i := 22) (by decide +kernel))
theorem wS_yX5_waitingOne : (.selects RX5 yX5_waitingOne yX5_waitingOne : Cond) ∈ ALL := all_s (List.mem_of_getElem? (i := 23) (by decide +kernel))
theorem wS_yX5_correct : (.selects RX5 yX5_correct yX5_correct : Cond) ∈ ALL := all_s (List.mem_of_getElem? (i := 24) (by decide +kernel))
theorem wS_yX5_midpointOf : (.selects RX5 yX5_midpointOf yX5_midpointOf : Cond) ∈ ALL := all_s (List.mem_of_getElem? (i := 25) (by decide +kernel))
theorem inX0 : ∀ w ∈ wsX00, w ∈ ALL := all_of _ [138, 140, 142, 144] (by decide +kernel) (by decide +kernel)
theorem inX1 : ∀ w ∈ wsX10, w ∈ ALL := all_of _ [155, 157] (by decide +kernel) (by decide +kernel)
theorem inX2 : ∀ w ∈ wsX20, w ∈ ALL := all_of _ [76, 78, 80, 82, 84, 86, 88, 90, 92, 94, 96, 98] (by decide +kernel) (by decide +kernel)
theorem inX3 : ∀ w ∈ wsX30, w ∈ ALL := all_of _ [115, 117, 119, 121, 123, 125] (by decide +kernel) (by decide +kernel)
theorem inX4 : ∀ w ∈ wsX40, w ∈ ALL := all_of _ [167, 169, 171, 173, 175, 177, 179] (by decide +kernel) (by decide +kernel)
theorem inX5 : ∀ w ∈ wsX50, w ∈ ALL := all_of _ [533, 535, 537, 539, 541, 543, 545, 547, 549, 551, 553, 555, 557, 559, 561, 563, 565, 567, 569, 571, 573, 575, 577, 579, 581, 583, 585] (by decide +kernel) (by decide +kernel)
theorem inJx00060 : ∀ w ∈ wsJx000600, w ∈ ALL := all_of _ [440, 442, 444, 446, 448, 450] (by decide +kernel) (by decide +kernel)
theorem inJ0 : ∀ w ∈ wsJ00, w ∈ ALL := all_of _ [474, 476] (by decide +kernel) (by decide +kernel)
end
section
/-! what every method's proof stands on: the nest links, the context of a body, contracts in one form, calls -/
def NW (U : State) : Prop := va_Nw (.fieldLinkNest RX4 87 "FlexCycles$Nodes" "state" "[I" "FlexCycles") U ∧ va_Nw (.fieldLinkNest RX4 90 "FlexCycles$Nodes" "error" "[I" "FlexCycles") U ∧ va_Nw (.fieldLinkNest RX4 79 "FlexCycles$Nodes" "drift" "[I" "FlexCycles") U ∧ va_Nw (.fieldLinkNest RX4 93 "FlexCycles$Nodes" "rate" "[I" "FlexCycles") U ∧ va_Nw (.fieldLinkNest RX3 66 "FlexCycles$Nodes" "heard" "[Z" "FlexCycles") U ∧ va_Nw (.fieldLinkNest RX4 118 "FlexCycles$Nodes" "lastMidpoint" "[I" "FlexCycles") U ∧ va_Nw (.methodLinkNest RX4 31 yX3_init "FlexCycles") U ∧ va_Nw (.methodLinkNest RX4 38 yX0_init "FlexCycles") U
theorem NW.same {u U : State} (h : u.vm = U.vm) (z : NW u) : NW U := by
  obtain ⟨a, b, c, d, e, f, g, i⟩ := z
  exact ⟨va_Nw.same rfl h a, va_Nw.same rfl h b, va_Nw.same rfl h c, va_Nw.same rfl h d, va_Nw.same rfl h e, va_Nw.same rfl h f, va_Nw.same rfl h g, va_Nw.same rfl h i⟩
theorem NW.warm {s U : State} (h : s.WarmedH U.vm) (z : NW s) : NW U := by
  obtain ⟨a, b, c, d, e, f, g, i⟩ := z
  exact ⟨va_Nw.warmF h a, va_Nw.warmF h b, va_Nw.warmF h c, va_Nw.warmF h d, va_Nw.warmF h e, va_Nw.warmF h f, va_Nw.warmM h g, va_Nw.warmM h i⟩
/-- a body's fixed context -/
def Cx (p : Program) (s : State) (m : MethodId) (args : Array Value) (meth : Method) (c : Code) (cc : ByteArray) (nL : Nat) (own : String) (ret : Option FieldType) : Prop :=
  p.tables.exec = Jvm.exec ∧ c.code = cc ∧ c.maxLocals = nL ∧ s.vm.findClass own = some m.cls ∧ (∀ w ∈ ALL, w.before args s = true) ∧ meth.sig.returnType = ret ∧ meth.locks = false
def rmK (k : Nat) : Room := { frames := k, cells := 0, slots := 0, locals := 40 * k }
def rmN (k mc ms : Nat) : Room := { frames := k, cells := mc, slots := ms, locals := 40 * k }
def kpre (D : va_G) (tys : List (ClassId × FieldType)) (ws : va_W) (sz : Nat) (U : State) : Prop := U.heap.size = sz ∧ va_P D vwCl ws U.heap ∧ va_K D vwCl tys U ∧ va_D (fun _ => True) ws ∧ NW U
def kpost (D : va_G) (tys : List (ClassId × FieldType)) (A : Nat → Prop) (ws : va_W) (t : State) : Prop := va_P D vwCl ws t.heap ∧ va_K D vwCl tys t ∧ va_D A ws
/-- contracts: KR reads and answers an int, RL a long; KI, KV change the world; KN makes cells -/
def KR (l : Launch) (y : MethodName) (cd : Cond) (k : Nat) (D : va_G) (tys : List (ClassId × FieldType)) (av : List Value) (ws : va_W) (post : Int32 → Prop) : Prop := ∀ sz : Nat, Met l y (cd :: ALL) (rmK k) (va_Pc av (kpre D tys ws sz)) (vp_Si post) 0 0 (fun _ => False)
def RL2 (l : Launch) (y : MethodName) (cd : Cond) (k : Nat) (D : va_G) (tys : List (ClassId × FieldType)) (av : List Value) (ws : va_W) (post : Int64 → Prop) : Prop := ∀ sz : Nat, Met l y (cd :: ALL) (rmK k) (va_Pc av (kpre D tys ws sz)) (vp_Sl post) 0 0 (fun _ => False)
def KI {S : Type} (l : Launch) (y : MethodName) (cd : Cond) (k : Nat) (D : va_G) (tys : List (ClassId × FieldType)) (av : List Value) (ws : va_W) (post : Int32 → S → Prop) (wf : S → va_W) : Prop := ∀ sz : Nat, Met l y (cd :: ALL) (rmK k) (va_Pc av (kpre D tys ws sz)) (va_Qi post (fun u => kpost D tys (va_A ws sz) (wf u)) (va_A ws sz)) 0 0 (va_A ws sz)
def KN {S : Type} (l : Launch) (y : MethodName) (cd : Cond) (k mc ms : Nat) (D : va_G) (tys : List (ClassId × FieldType)) (av : List Value) (ws : va_W) (post : S → Prop) (wf : S → va_W) : Prop := ∀ sz : Nat, Met l y (cd :: ALL) (rmN k mc ms) (va_Pc av (kpre D tys ws sz)) (va_Qv post (fun u => kpost D tys (va_A ws sz) (wf u)) (va_A ws sz)) mc ms (va_A ws sz)
abbrev KV {S : Type} (l : Launch) (y : MethodName) (cd : Cond) (k : Nat) (D : va_G) (tys : List (ClassId × FieldType)) (av : List Value) (ws : va_W) (post : S → Prop) (wf : S → va_W) : Prop := KN l y cd k 0 0 D tys av ws post wf
theorem cx_of {p : Program} {l : Launch} {y : MethodName} {cd : Cond} {rm : Room} {cc : ByteArray} {nL : Nat} {ret : Option FieldType} {e : Env} {s : State} {m : MethodId} {args : Array Value} {below : List Frame} {meth : Method} {c : Code} {s₁ : State} {own : String} (ho : y.cls = own)
    (B : BodyLoose p l y (headSpec (cd :: ALL) rm) cc nL ret e s m args below meth c s₁) (hml : c.maxLocals = nL) : Cx p s m args meth c cc nL own ret := by
  have hts := atoms_spec (ws := cd :: ALL) B.pre
  exact ⟨B.exec, B.bytes, hml, by rw [← ho]; exact findClass_of_methodNamed B.named, fun w h => hts w (List.mem_cons_of_mem _ h), B.returns, B.notSynchronized⟩
section Ends
variable {p : Program} {l : Launch} {e : Env} {R : Room} {s : State} {m : MethodId} {args : Array Value} {below : List Frame} {meth : Method} {c : Code} {H : Heap} {locs : List Loc} {cells slots : Nat} {Q : State → Prop}
variable {cc : ByteArray} {pc nL : Nat} {ls : Array Slot} {own : String} {D : va_G} {tys : List (ClassId × FieldType)} {A : Nat → Prop}
theorem k_retR {post : Int32 → Prop} {v : Int32} (C : Cx p s m args meth c cc nL own (some .int)) (d : decode cc pc = .ok (.ireturn, 1)) (hv : post v) : W p l e R s m args below meth c s.heap [] 0 0 (MQ below (vp_Si post) args s 0 0 (fun _ => False)) (F0 m pc ls [.int v]) :=
  W.iret C.1 C.2.1 C.2.2.2.2.2.1 (fun t ht hW => ⟨v, rfl, hv, ht⟩) (fun q h => by cases h) d C.2.2.2.2.2.2
theorem k_retRz {post : Int32 → Prop} {v : Int32} (C : Cx p s m args meth c cc nL own (some .boolean)) (d : decode cc pc = .ok (.ireturn, 1)) (hz : narrow .boolean (.int v) = .int v) (hv : post v) : W p l e R s m args below meth c s.heap [] 0 0 (MQ below (vp_Si post) args s 0 0 (fun _ => False)) (F0 m pc ls [.int v]) :=
  W.zret C.1 C.2.1 C.2.2.2.2.2.1 hz (fun t ht hW => ⟨v, rfl, hv, ht⟩) (fun q h => by cases h) d C.2.2.2.2.2.2
theorem k_retRl {post : Int64 → Prop} {v : Int64} (C : Cx p s m args meth c cc nL own (some .long)) (d : decode cc pc = .ok (.lreturn, 1)) (hv : post v) : W p l e R s m args below meth c s.heap [] 0 0 (MQ below (vp_Sl post) args s 0 0 (fun _ => False)) (F0 m pc ls [.long v]) :=
  W.lret C.1 C.2.1 C.2.2.2.2.2.1 (fun t ht hW => ⟨v, rfl, hv, ht⟩) (fun q h => by cases h) d C.2.2.2.2.2.2
theorem k_retI {S : Type} {post : Int32 → S → Prop} {wf : S → va_W} {v : Int32} (C : Cx p s m args meth c cc nL own (some .int)) (hK : va_K D vwCl tys s) (d : decode cc pc = .ok (.ireturn, 1)) (u : S) (hP : va_P D vwCl (wf u) H) (hD : va_D A (wf u)) (hS : va_S A s.heap H locs) (hv : post v u) : W p l e R s m args below meth c H locs 0 0 (MQ below (va_Qi post (fun u => kpost D tys A (wf u)) A) args s 0 0 A) (F0 m pc ls [.int v]) :=
  W.iret C.1 C.2.1 C.2.2.2.2.2.1 (fun t ht hW => ⟨⟨v, u, rfl, hv, by rw [ht]; exact hP, va_K.moved hW.alike hK, hD⟩, hS.F ht⟩) hS.2.2 d C.2.2.2.2.2.2
theorem k_retV {S : Type} {post : S → Prop} {wf : S → va_W} (C : Cx p s m args meth c cc nL own none) (hK : va_K D vwCl tys s) (d : decode cc pc = .ok (.return_, 1)) (u : S) (hP : va_P D vwCl (wf u) H) (hD : va_D A (wf u)) (hS : va_S A s.heap H locs) (hv : post u) : W p l e R s m args below meth c H locs cells slots (MQ below (va_Qv post (fun u => kpost D tys A (wf u)) A) args s cells slots A) (F0 m pc ls []) :=
  W.vret C.1 C.2.1 C.2.2.2.2.2.1 (fun t ht hW => ⟨⟨u, rfl, hv, by rw [ht]; exact hP, va_K.moved hW.alike hK, hD⟩, hS.F ht⟩) hS.2.2 d C.2.2.2.2.2.2
theorem k_retIz {S : Type} {post : Int32 → S → Prop} {wf : S → va_W} {v : Int32} (C : Cx p s m args meth c cc nL own (some .boolean)) (hK : va_K D vwCl tys s) (d : decode cc pc = .ok (.ireturn, 1)) (hz : narrow .boolean (.int v) = .int v) (u : S) (hP : va_P D vwCl (wf u) H) (hD : va_D A (wf u)) (hS : va_S A s.heap H locs) (hv : post v u) : W p l e R s m args below meth c H locs 0 0 (MQ below (va_Qi post (fun u => kpost D tys A (wf u)) A) args s 0 0 A) (F0 m pc ls [.int v]) :=
  W.zret C.1 C.2.1 C.2.2.2.2.2.1 hz (fun t ht hW => ⟨⟨v, u, rfl, hv, by rw [ht]; exact hP, va_K.moved hW.alike hK, hD⟩, hS.F ht⟩) hS.2.2 d C.2.2.2.2.2.2
end Ends
theorem narrow_z {v : Int32} (h : v = 0 ∨ v = 1) : narrow .boolean (.int v) = .int v := by rcases h with rfl | rfl <;> rfl
section Entry
variable {l : Launch} {y : MethodName} {k nL : Nat} {D : va_G} {tys : List (ClassId × FieldType)} {av : List Value} {ws : va_W} {cc : ByteArray} {ret : Option FieldType} {own : String} {lvs : List (Nat × Value)}
theorem KR.of {post : Int32 → Prop} (hy : plainName y.cls = true) (ho : y.cls = own) (hn : (lg_sl av).length ≤ nL) (hlv : lv_args 0 av = lvs)
    (body : ∀ p e s m args below meth c (Q : State → Prop), Cx p s m args meth c cc nL own (some .int) → va_K D vwCl tys s → NW s → va_P D vwCl ws s.heap → va_D (fun _ => True) ws → (∀ (v : Int32) (ls : Array Slot) (pc : Nat), decode cc pc = .ok (.ireturn, 1) → post v → W p l e (rmK k) s m args below meth c s.heap [] 0 0 Q (F0 m pc ls [.int v])) → ∀ ls : Array Slot, lv_has ls nL lvs →
      W p l e (rmK k) s m args below meth c s.heap [] 0 0 Q (F0 m 0 ls [])) : KR l y (.code y cc nL (some .int)) k D tys av ws post := by
  intro sz
  refine Met.ofW (cc := cc) (maxL := nL) (ret := some .int) hy rfl ?_
  intro p e s m args below meth c s₁ B hml hv
  obtain ⟨rfl, hsz, hP, hK, hD, hN⟩ := hv
  have hl := lv_entry av (n := nL) hn
  rw [hlv] at hl
  rw [lg_entry_eq]
  have X := cx_of (cd := .code y cc nL (some .int)) ho B hml
  exact body p e s m _ below meth c _ X hK hN hP hD (fun v ls pc d h => k_retR X d h) _ hl
theorem KR.ofz {post : Int32 → Prop} (hy : plainName y.cls = true) (ho : y.cls = own) (hn : (lg_sl av).length ≤ nL) (hlv : lv_args 0 av = lvs)
    (body : ∀ p e s m args below meth c (Q : State → Prop), Cx p s m args meth c cc nL own (some .boolean) → va_K D vwCl tys s → NW s → va_P D vwCl ws s.heap → va_D (fun _ => True) ws → (∀ (v : Int32) (ls : Array Slot) (pc : Nat), decode cc pc = .ok (.ireturn, 1) → (v = 0 ∨ v = 1) → post v → W p l e (rmK k) s m args below meth c s.heap [] 0 0 Q (F0 m pc ls [.int v])) → ∀ ls : Array Slot, lv_has ls nL lvs →
      W p l e (rmK k) s m args below meth c s.heap [] 0 0 Q (F0 m 0 ls [])) : KR l y (.code y cc nL (some .boolean)) k D tys av ws post := by
  intro sz
  refine Met.ofW (cc := cc) (maxL := nL) (ret := some .boolean) hy rfl ?_
  intro p e s m args below meth c s₁ B hml hv
  obtain ⟨rfl, hsz, hP, hK, hD, hN⟩ := hv
  have hl := lv_entry av (n := nL) hn
  rw [hlv] at hl
  rw [lg_entry_eq]
  have X := cx_of (cd := .code y cc nL (some .boolean)) ho B hml
  exact body p e s m _ below meth c _ X hK hN hP hD (fun v ls pc d hz h => k_retRz X d (narrow_z hz) h) _ hl
theorem RL2.of {post : Int64 → Prop} (hy : plainName y.cls = true) (ho : y.cls = own) (hn : (lg_sl av).length ≤ nL) (hlv : lv_args 0 av = lvs)
    (body : ∀ p e s m args below meth c (Q : State → Prop), Cx p s m args meth c cc nL own (some .long) → va_K D vwCl tys s → NW s → va_P D vwCl ws s.heap → va_D (fun _ => True) ws → (∀ (v : Int64) (ls : Array Slot) (pc : Nat), decode cc pc = .ok (.lreturn, 1) → post v → W p l e (rmK k) s m args below meth c s.heap [] 0 0 Q (F0 m pc ls [.long v])) → ∀ ls : Array Slot, lv_has ls nL lvs →
      W p l e (rmK k) s m args below meth c s.heap [] 0 0 Q (F0 m 0 ls [])) : RL2 l y (.code y cc nL (some .long)) k D tys av ws post := by
  intro sz
  refine Met.ofW (cc := cc) (maxL := nL) (ret := some .long) hy rfl ?_
  intro p e s m args below meth c s₁ B hml hv
  obtain ⟨rfl, hsz, hP, hK, hD, hN⟩ := hv
  have hl := lv_entry av (n := nL) hn
  rw [hlv] at hl
  rw [lg_entry_eq]
  have X := cx_of (cd := .code y cc nL (some .long)) ho B hml
  exact body p e s m _ below meth c _ X hK hN hP hD (fun v ls pc d h => k_retRl X d h) _ hl
theorem KI.of {S : Type} {post : Int32 → S → Prop} {wf : S → va_W} (hy : plainName y.cls = true) (ho : y.cls = own) (hn : (lg_sl av).length ≤ nL) (hlv : lv_args 0 av = lvs)
    (body : ∀ p e s m args below meth c (Q : State → Prop), Cx p s m args meth c cc nL own (some .int) → va_K D vwCl tys s → NW s → ∀ A : Nat → Prop, (∀ q : Nat, s.heap.size ≤ q → A q) → va_P D vwCl ws s.heap → va_D A ws → va_S A s.heap s.heap [] → (∀ (v : Int32) (u : S) (H : Heap) (locs : List Loc) (ls : Array Slot) (pc : Nat), decode cc pc = .ok (.ireturn, 1) → va_P D vwCl (wf u) H → va_D A (wf u) → va_S A s.heap H locs → post v u → W p l e (rmK k) s m args below meth c H locs 0 0 Q (F0 m pc ls [.int v])) → ∀ ls : Array Slot, lv_has ls nL lvs →
      W p l e (rmK k) s m args below meth c s.heap [] 0 0 Q (F0 m 0 ls [])) : KI l y (.code y cc nL (some .int)) k D tys av ws post wf := by
  intro sz
  refine Met.ofW (cc := cc) (maxL := nL) (ret := some .int) hy rfl ?_
  intro p e s m args below meth c s₁ B hml hv
  obtain ⟨rfl, hsz, hP, hK, hD, hN⟩ := hv
  subst hsz
  have hl := lv_entry av (n := nL) hn
  rw [hlv] at hl
  rw [lg_entry_eq]
  have X := cx_of (cd := .code y cc nL (some .int)) ho B hml
  exact body p e s m _ below meth c _ X hK hN _ (fun q h => Or.inr h) hP hD.self va_S.rf (fun v u H locs ls pc d hP hD hS h => k_retI X hK d u hP hD hS h) _ hl
theorem KI.ofz {S : Type} {post : Int32 → S → Prop} {wf : S → va_W} (hy : plainName y.cls = true) (ho : y.cls = own) (hn : (lg_sl av).length ≤ nL) (hlv : lv_args 0 av = lvs)
    (body : ∀ p e s m args below meth c (Q : State → Prop), Cx p s m args meth c cc nL own (some .boolean) → va_K D vwCl tys s → NW s → ∀ A : Nat → Prop, (∀ q : Nat, s.heap.size ≤ q → A q) → va_P D vwCl ws s.heap → va_D A ws → va_S A s.heap s.heap [] → (∀ (v : Int32) (u : S) (H : Heap) (locs : List Loc) (ls : Array Slot) (pc : Nat), decode cc pc = .ok (.ireturn, 1) → (v = 0 ∨ v = 1) → va_P D vwCl (wf u) H → va_D A (wf u) → va_S A s.heap H locs → post v u → W p l e (rmK k) s m args below meth c H locs 0 0 Q (F0 m pc ls [.int v])) → ∀ ls : Array Slot, lv_has ls nL lvs →
      W p l e (rmK k) s m args below meth c s.heap [] 0 0 Q (F0 m 0 ls [])) : KI l y (.code y cc nL (some .boolean)) k D tys av ws post wf := by
  intro sz
  refine Met.ofW (cc := cc) (maxL := nL) (ret := some .boolean) hy rfl ?_
  intro p e s m args below meth c s₁ B hml hv
  obtain ⟨rfl, hsz, hP, hK, hD, hN⟩ := hv
  subst hsz
  have hl := lv_entry av (n := nL) hn
  rw [hlv] at hl
  rw [lg_entry_eq]
  have X := cx_of (cd := .code y cc nL (some .boolean)) ho B hml
  exact body p e s m _ below meth c _ X hK hN _ (fun q h => Or.inr h) hP hD.self va_S.rf (fun v u H locs ls pc d hz hP hD hS h => k_retIz X hK d (narrow_z hz) u hP hD hS h) _ hl
theorem KN.of {S : Type} {post : S → Prop} {wf : S → va_W} {mc ms : Nat} (hy : plainName y.cls = true) (ho : y.cls = own) (hn : (lg_sl av).length ≤ nL) (hlv : lv_args 0 av = lvs)
    (body : ∀ p e s m args below meth c (Q : State → Prop), Cx p s m args meth c cc nL own none → va_K D vwCl tys s → NW s → ∀ A : Nat → Prop, (∀ q : Nat, s.heap.size ≤ q → A q) → va_P D vwCl ws s.heap → va_D A ws → va_S A s.heap s.heap [] → meth.name = y.name → (∀ (u : S) (H : Heap) (locs : List Loc) (ls : Array Slot) (pc : Nat), decode cc pc = .ok (.return_, 1) → va_P D vwCl (wf u) H → va_D A (wf u) → va_S A s.heap H locs → post u → W p l e (rmN k mc ms) s m args below meth c H locs mc ms Q (F0 m pc ls [])) → ∀ ls : Array Slot, lv_has ls nL lvs →
      W p l e (rmN k mc ms) s m args below meth c s.heap [] 0 0 Q (F0 m 0 ls [])) : KN l y (.code y cc nL none) k mc ms D tys av ws post wf := by
  intro sz
  refine Met.ofW (cc := cc) (maxL := nL) (ret := none) hy rfl ?_
  intro p e s m args below meth c s₁ B hml hv
  obtain ⟨rfl, hsz, hP, hK, hD, hN⟩ := hv
  subst hsz
  have hl := lv_entry av (n := nL) hn
  rw [hlv] at hl
  rw [lg_entry_eq]
  have X := cx_of (cd := .code y cc nL none) ho B hml
  exact body p e s m _ below meth c _ X hK hN _ (fun q h => Or.inr h) hP hD.self va_S.rf (name_of_methodNamed B.named B.method).1 (fun u H locs ls pc d hP hD hS h => k_retV X hK d u hP hD hS h) _ hl
end Entry
theorem k_blind {D : va_G} {tys : List (ClassId × FieldType)} {av : List Value} {ws : va_W} {sz : Nat} : FrameBlind (va_Pc av (kpre D tys ws sz)) := fun a U g mk q => by
  obtain ⟨q0, q1, qP, qK, qD, qN⟩ := q
  exact ⟨q0, q1, qP, va_K.moved (u := U) (U := U.calling g mk a) (Vm.Alike.refl U.vm) qK, qD, NW.same rfl qN⟩
theorem k_wV {own C : String} {idx : Nat} {y : MethodName} {cd : Cond} (h1 : Cond.methodLink own idx y ∈ ALL) (h2 : Cond.instanceMethod y ∈ ALL) (h3 : Cond.selects C y y ∈ ALL) (h4 : Cond.initialized C ∈ ALL) (h5 : cd ∈ ALL) : GoodIn ALL (wsV own idx C y (cd :: ALL)) := fun w h => by
  rcases List.mem_append.mp h with h | h
  · simp only [List.mem_cons, List.not_mem_nil, or_false] at h
    rcases h with rfl | rfl | rfl | rfl
    · exact all_good _ h1
    · exact all_good _ h2
    · exact all_good _ h3
    · exact all_good _ h4
  · exact all_goodC h5 w h
theorem k_wS {own : String} {idx : Nat} {y : MethodName} {cd : Cond} (h1 : Cond.methodLink own idx y ∈ ALL) (h2 : Cond.static y ∈ ALL) (h4 : Cond.initialized y.cls ∈ ALL) (h5 : cd ∈ ALL) : GoodIn ALL (va_wsS own idx y (cd :: ALL)) := fun w h => by
  rcases List.mem_append.mp h with h | h
  · simp only [List.mem_cons, List.not_mem_nil, or_false] at h
    rcases h with rfl | rfl | rfl
    · exact all_good _ h1
    · exact all_good _ h2
    · exact all_good _ h4
  · exact all_goodC h5 w h
/-- what a call of y, an instance method of C, needs of the tables -/
def CfV (C : String) (y : MethodName) (bytes : ByteArray) (maxL : Nat) (ret : Option FieldType) (n : Nat) : Prop := (Cond.instanceMethod y ∈ ALL ∧ Cond.selects C y y ∈ ALL ∧ Cond.initialized C ∈ ALL ∧ Cond.code y bytes maxL ret ∈ ALL) ∧ (y.cls = C ∧ y.cls ≠ "java/lang/invoke/MethodHandle" ∧ y.cls ≠ "java/lang/invoke/VarHandle" ∧ (parseMethodDescriptor y.desc).map (fun d => d.parameters.length) = some n)
def CfS (y : MethodName) (bytes : ByteArray) (maxL : Nat) (ret : Option FieldType) (n : Nat) : Prop := (Cond.static y ∈ ALL ∧ Cond.initialized y.cls ∈ ALL ∧ Cond.code y bytes maxL ret ∈ ALL) ∧ (y.cls ≠ "java/lang/invoke/MethodHandle" ∧ y.cls ≠ "java/lang/invoke/VarHandle" ∧ (parseMethodDescriptor y.desc).map (fun d => d.parameters.length) = some n)
def CfI (y : MethodName) (bytes : ByteArray) (maxL : Nat) (n : Nat) : Prop := (Cond.instanceMethod y ∈ ALL ∧ Cond.initialized y.cls ∈ ALL ∧ Cond.code y bytes maxL none ∈ ALL ∧ y.name = "<init>") ∧ (y.cls ≠ "java/lang/invoke/MethodHandle" ∧ y.cls ≠ "java/lang/invoke/VarHandle" ∧ (parseMethodDescriptor y.desc).map (fun d => d.parameters.length) = some n)
section Calls
variable {p : Program} {l : Launch} {e : Env} {R : Room} {s : State} {m : MethodId} {args : Array Value} {below : List Frame} {meth : Method} {c : Code} {H : Heap} {locs : List Loc} {cells slots : Nat} {Q : State → Prop}
variable {cc bytes : ByteArray} {pc nL maxL n k idx : Nat} {ls : Array Slot} {own C : String} {ret rt : Option FieldType} {D : va_G} {tys : List (ClassId × FieldType)} {A : Nat → Prop} {H0 : Heap} {y : MethodName} {b : Addr} {As rest st : List Value} {ws : va_W} {lv : List (Nat × Value)}
theorem k_preU (hK : va_K D vwCl tys s) (hN : NW s) (hP : va_P D vwCl ws H) (hD : va_D A ws) (av : List Value) : ∀ U : State, U.heap = H → s.WarmedH U.vm → va_Pc av (kpre D tys ws H.size) av.toArray U :=
  fun U hU hW => ⟨rfl, by rw [hU], by rw [hU]; exact hP, va_K.moved hW.alike hK, hD.weaken (fun _ _ _ _ => trivial), hN.warm hW⟩
/-- an instance method that only reads -/
theorem k_callR {post : Int32 → Prop} (X : Cx p s m args meth c cc nL own rt) (hK : va_K D vwCl tys s) (hN : NW s) (hP : va_P D vwCl ws H) (hD : va_D A ws) (hM : KR l y (.code y bytes maxL ret) k D tys (.ref b :: As) ws post) (hl : lv_has ls nL lv) (F : CfV C y bytes maxL ret n) (hlk : Cond.methodLink own idx y ∈ ALL)
    (q0 ci : Nat) {T : u_T} {N : Nat} {fs : List Value} (hc : vwCl[ci]? = some (C, T, N)) (he : ws[q0]? = some (b, .inr (ci, fs))) (hn : As.length = n) (hst : st = As.reverse ++ .ref b :: rest) (hW : (rest.map fun v => v.category).sum ≤ 8) (hR : k + 1 ≤ R.frames ∧ 8 + (maxL + 11) + 40 * k ≤ R.locals) (hf : cells ≤ R.cells ∧ slots ≤ R.slots) (hdg : decode cc pc = .ok (.invokevirtual idx, 3))
    (kk : ∀ r : Int32, post r → W p l e R s m args below meth c H locs cells slots Q (F0 m (pc + 3) ls (.int r :: rest))) : W p l e R s m args below meth c H locs cells slots Q (F0 m pc ls st) := by
  subst hst
  obtain ⟨hx, hb, hml, ho, hts, -⟩ := X
  obtain ⟨⟨f1, f2, f3, f4⟩, f5⟩ := F
  exact vp_callSi (W.runV (As := As) (rest := rest) (C := C) ⟨hx, hb, hml, ho, hts⟩ (hM H.size) (cwV n hts (k_wV hlk f1 f2 f3 f4) rfl rfl rfl f5 hR) ⟨k_blind, va_recv hK hP hc he, k_preU hK hN hP hD _⟩ rfl hn hl.1 rfl (lv_room hW) hdg hf) kk
theorem k_callRl {post : Int64 → Prop} (X : Cx p s m args meth c cc nL own rt) (hK : va_K D vwCl tys s) (hN : NW s) (hP : va_P D vwCl ws H) (hD : va_D A ws) (hM : RL2 l y (.code y bytes maxL ret) k D tys (.ref b :: As) ws post) (hl : lv_has ls nL lv) (F : CfV C y bytes maxL ret n) (hlk : Cond.methodLink own idx y ∈ ALL)
    (q0 ci : Nat) {T : u_T} {N : Nat} {fs : List Value} (hc : vwCl[ci]? = some (C, T, N)) (he : ws[q0]? = some (b, .inr (ci, fs))) (hn : As.length = n) (hst : st = As.reverse ++ .ref b :: rest) (hW : (rest.map fun v => v.category).sum ≤ 8) (hR : k + 1 ≤ R.frames ∧ 8 + (maxL + 11) + 40 * k ≤ R.locals) (hf : cells ≤ R.cells ∧ slots ≤ R.slots) (hdg : decode cc pc = .ok (.invokevirtual idx, 3))
    (kk : ∀ r : Int64, post r → W p l e R s m args below meth c H locs cells slots Q (F0 m (pc + 3) ls (.long r :: rest))) : W p l e R s m args below meth c H locs cells slots Q (F0 m pc ls st) := by
  subst hst
  obtain ⟨hx, hb, hml, ho, hts, -⟩ := X
  obtain ⟨⟨f1, f2, f3, f4⟩, f5⟩ := F
  exact vp_callSl (W.runV (As := As) (rest := rest) (C := C) ⟨hx, hb, hml, ho, hts⟩ (hM H.size) (cwV n hts (k_wV hlk f1 f2 f3 f4) rfl rfl rfl f5 hR) ⟨k_blind, va_recv hK hP hc he, k_preU hK hN hP hD _⟩ rfl hn hl.1 rfl (lv_room hW) hdg hf) kk
/-- a static method that only reads -/
theorem k_callS {post : Int32 → Prop} (X : Cx p s m args meth c cc nL own rt) (hK : va_K D vwCl tys s) (hN : NW s) (hP : va_P D vwCl ws H) (hD : va_D A ws) (hM : KR l y (.code y bytes maxL ret) k D tys As ws post) (hl : lv_has ls nL lv) (F : CfS y bytes maxL ret n) (hlk : Cond.methodLink own idx y ∈ ALL)
    (hn : As.length = n) (hst : st = As.reverse ++ rest) (hW : (rest.map fun v => v.category).sum ≤ 8) (hR : k + 1 ≤ R.frames ∧ 8 + (maxL + 11) + 40 * k ≤ R.locals) (hf : cells ≤ R.cells ∧ slots ≤ R.slots) (hdg : decode cc pc = .ok (.invokestatic idx, 3))
    (kk : ∀ r : Int32, post r → W p l e R s m args below meth c H locs cells slots Q (F0 m (pc + 3) ls (.int r :: rest))) : W p l e R s m args below meth c H locs cells slots Q (F0 m pc ls st) := by
  subst hst
  obtain ⟨hx, hb, hml, ho, hts, -⟩ := X
  obtain ⟨⟨f1, f2, f3⟩, f5⟩ := F
  exact vp_callSi (W.runS (As := As) (rest := rest) ⟨hx, hb, hml, ho, hts⟩ (hM H.size) (va_cwS n hts (k_wS hlk f1 f2 f3) rfl rfl rfl f5 hR) ⟨k_blind, k_preU hK hN hP hD _⟩ rfl hn hl.1 rfl (lv_room hW) hdg hf) kk
/-- an instance method that changes the world and answers an int -/
theorem k_callI {S : Type} {post : Int32 → S → Prop} {wf : S → va_W} (X : Cx p s m args meth c cc nL own rt) (hK : va_K D vwCl tys s) (hN : NW s) (hP : va_P D vwCl ws H) (hD : va_D A ws) (hS : va_S A H0 H locs) (hA : ∀ q, H0.size ≤ q → A q) (hM : KI l y (.code y bytes maxL ret) k D tys (.ref b :: As) ws post wf) (hl : lv_has ls nL lv) (F : CfV C y bytes maxL ret n) (hlk : Cond.methodLink own idx y ∈ ALL)
    (q0 ci : Nat) {T : u_T} {N : Nat} {fs : List Value} (hc : vwCl[ci]? = some (C, T, N)) (he : ws[q0]? = some (b, .inr (ci, fs))) (hn : As.length = n) (hst : st = As.reverse ++ .ref b :: rest) (hW : (rest.map fun v => v.category).sum ≤ 8) (hR : k + 1 ≤ R.frames ∧ 8 + (maxL + 11) + 40 * k ≤ R.locals) (hf : cells ≤ R.cells ∧ slots ≤ R.slots) (hdg : decode cc pc = .ok (.invokevirtual idx, 3))
    (kk : ∀ (r : Int32) (u : S) (H1 : Heap) (locs1 : List Loc), post r u → va_P D vwCl (wf u) H1 → va_D A (wf u) → va_S A H0 H1 locs1 → va_D (va_A ws H.size) (wf u) → (∀ q : Nat, q < H.size → ¬ va_A ws H.size q → H1[q]? = H[q]?) → W p l e R s m args below meth c H1 locs1 cells slots Q (F0 m (pc + 3) ls (.int r :: rest))) : W p l e R s m args below meth c H locs cells slots Q (F0 m pc ls st) := by
  subst hst
  obtain ⟨hx, hb, hml, ho, hts, -⟩ := X
  obtain ⟨⟨f1, f2, f3, f4⟩, f5⟩ := F
  have hF : ∀ q, va_A ws H.size q → A q := fun q h => by
    rcases h with ⟨j, e, h⟩ | h
    · exact hD.2 j (q, e) h
    · exact hA q (Nat.le_trans hS.1 h)
  refine va_calli (va_runV (As := As) (rest := rest) (C := C) ⟨hx, hb, hml, ho, hts⟩ (hM H.size) (cwV n hts (k_wV hlk f1 f2 f3 f4) rfl rfl rfl f5 hR) ⟨k_blind, va_recv hK hP hc he, k_preU hK hN hP hD _⟩ rfl hn hl.1 rfl (lv_room hW) hdg hf) hS (fun q _ h => hF q h) hF (fun r u t H1 locs1 ht hvm hp hB hz hk hS1 => ?_)
  obtain ⟨hP1, hK1, hD1⟩ := hB
  rw [ht] at hP1
  exact kk r u H1 locs1 hp hP1 (hD1.weaken (fun _ q _ h => hF q.1 h)) hS1 hD1 hk
theorem k_callV {S : Type} {post : S → Prop} {wf : S → va_W} (X : Cx p s m args meth c cc nL own rt) (hK : va_K D vwCl tys s) (hN : NW s) (hP : va_P D vwCl ws H) (hD : va_D A ws) (hS : va_S A H0 H locs) (hA : ∀ q, H0.size ≤ q → A q) (hM : KV l y (.code y bytes maxL ret) k D tys (.ref b :: As) ws post wf) (hl : lv_has ls nL lv) (F : CfV C y bytes maxL ret n) (hlk : Cond.methodLink own idx y ∈ ALL)
    (q0 ci : Nat) {T : u_T} {N : Nat} {fs : List Value} (hc : vwCl[ci]? = some (C, T, N)) (he : ws[q0]? = some (b, .inr (ci, fs))) (hn : As.length = n) (hst : st = As.reverse ++ .ref b :: rest) (hW : (rest.map fun v => v.category).sum ≤ 8) (hR : k + 1 ≤ R.frames ∧ 8 + (maxL + 11) + 40 * k ≤ R.locals) (hf : cells ≤ R.cells ∧ slots ≤ R.slots) (hdg : decode cc pc = .ok (.invokevirtual idx, 3))
    (kk : ∀ (u : S) (H1 : Heap) (locs1 : List Loc), post u → va_P D vwCl (wf u) H1 → va_D A (wf u) → va_S A H0 H1 locs1 → va_D (va_A ws H.size) (wf u) → (∀ q : Nat, q < H.size → ¬ va_A ws H.size q → H1[q]? = H[q]?) → W p l e R s m args below meth c H1 locs1 cells slots Q (F0 m (pc + 3) ls rest)) : W p l e R s m args below meth c H locs cells slots Q (F0 m pc ls st) := by
  subst hst
  obtain ⟨hx, hb, hml, ho, hts, -⟩ := X
  obtain ⟨⟨f1, f2, f3, f4⟩, f5⟩ := F
  have hF : ∀ q, va_A ws H.size q → A q := fun q h => by
    rcases h with ⟨j, e, h⟩ | h
    · exact hD.2 j (q, e) h
    · exact hA q (Nat.le_trans hS.1 h)
  refine va_callv (va_runV (As := As) (rest := rest) (C := C) ⟨hx, hb, hml, ho, hts⟩ (hM H.size) (cwV n hts (k_wV hlk f1 f2 f3 f4) rfl rfl rfl f5 hR) ⟨k_blind, va_recv hK hP hc he, k_preU hK hN hP hD _⟩ rfl hn hl.1 rfl (lv_room hW) hdg hf) hS (fun q _ h => hF q h) hF (fun u t H1 locs1 ht hvm hp hB hz hk hS1 => ?_)
  obtain ⟨hP1, hK1, hD1⟩ := hB
  rw [ht] at hP1
  exact kk u H1 locs1 hp hP1 (hD1.weaken (fun _ q _ h => hF q.1 h)) hS1 hD1 hk
end Calls
end
section
/-! rows with natural indices; the two worlds -/
section KX
variable {p : Program} {l : Launch} {e : Env} {R : Room} {s : State} {m : MethodId} {args : Array Value} {below : List Frame} {meth : Method} {c : Code} {H : Heap} {locs : List Loc} {cells slots : Nat} {Q : State → Prop}
variable {cc : ByteArray} {pc : Nat} {ls : Array Slot} {rest : List Value}
variable {D : va_G} {cl : List vw_C} {tys : List (ClassId × FieldType)} {ws ws' : va_W} {A : Nat → Prop} {H0 : Heap} {a : Nat}
theorem k_iald (hx : p.tables.exec = Jvm.exec) (hb : c.code = cc) (hK : va_K D cl tys s) (hP : va_P D cl ws H) (q0 t0 : Nat) {cA : ClassId} {n : Nat} {f : Nat → Int32} (ha : ws[q0]? = some (a, .inl (cA, n, .inl f))) (ht : tys[t0]? = some (cA, .int)) {i : Int32} (k : Nat) (hi : i = nI k) (hk : k < n) (hn : n < 2147483648) (hdg : decode cc pc = .ok (.iaload, 1))
    (kk : W p l e R s m args below meth c H locs cells slots Q (F0 m (pc + 1) ls (.int (f k) :: rest))) : W p l e R s m args below meth c H locs cells slots Q (F0 m pc ls (.int i :: .ref a :: rest)) := by
  subst hi
  refine va_iald hx hb hK hP q0 t0 ha ht (vp_in_nI hk hn) hdg ?_
  rw [nI_clamp (Nat.lt_trans hk hn)]
  exact kk
theorem k_zald (hx : p.tables.exec = Jvm.exec) (hb : c.code = cc) (hK : va_K D cl tys s) (hP : va_P D cl ws H) (q0 t0 : Nat) {cA : ClassId} {n : Nat} {f : Nat → Int32} (ha : ws[q0]? = some (a, .inl (cA, n, .inl f))) (ht : tys[t0]? = some (cA, .boolean)) {i : Int32} (k : Nat) (hi : i = nI k) (hk : k < n) (hn : n < 2147483648) (hdg : decode cc pc = .ok (.baload, 1))
    (kk : W p l e R s m args below meth c H locs cells slots Q (F0 m (pc + 1) ls (.int (f k) :: rest))) : W p l e R s m args below meth c H locs cells slots Q (F0 m pc ls (.int i :: .ref a :: rest)) := by
  subst hi
  refine va_zald hx hb hK hP q0 t0 ha ht (vp_in_nI hk hn) hdg ?_
  rw [nI_clamp (Nat.lt_trans hk hn)]
  exact kk
theorem k_iast (hx : p.tables.exec = Jvm.exec) (hb : c.code = cc) (hK : va_K D cl tys s) (hP : va_P D cl ws H) (hD : va_D A ws) (hS : va_S A H0 H locs) (q0 t0 : Nat) {cA : ClassId} {n : Nat} {f : Nat → Int32} (ha : ws[q0]? = some (a, .inl (cA, n, .inl f))) (ht : tys[t0]? = some (cA, .int)) {i : Int32} {x : Int32} (k : Nat) (hi : i = nI k) (hk : k < n) (hn : n < 2147483648) (hset : ws.set q0 (a, .inl (cA, n, .inl (upd f k x))) = ws') (hdg : decode cc pc = .ok (.iastore, 1))
    (kk : ∀ (H1 : Heap) (locs1 : List Loc), va_P D cl ws' H1 → va_D A ws' → va_S A H0 H1 locs1 → W p l e R s m args below meth c H1 locs1 cells slots Q (F0 m (pc + 1) ls rest)) : W p l e R s m args below meth c H locs cells slots Q (F0 m pc ls (.int x :: .int i :: .ref a :: rest)) := by
  subst hi
  refine va_iast hx hb hK hP hD hS q0 t0 ha ht (vp_in_nI hk hn) hdg (fun H1 locs1 h1 h2 h3 => ?_)
  rw [nI_clamp (Nat.lt_trans hk hn), hset] at h1 h2
  exact kk H1 locs1 h1 h2 h3
theorem k_zast (hx : p.tables.exec = Jvm.exec) (hb : c.code = cc) (hK : va_K D cl tys s) (hP : va_P D cl ws H) (hD : va_D A ws) (hS : va_S A H0 H locs) (q0 t0 : Nat) {cA : ClassId} {n : Nat} {f : Nat → Int32} (ha : ws[q0]? = some (a, .inl (cA, n, .inl f))) (ht : tys[t0]? = some (cA, .boolean)) {i : Int32} {x : Int32} (k : Nat) (hi : i = nI k) (hk : k < n) (hn : n < 2147483648) (hz : vp_nar .boolean x = x) (hset : ws.set q0 (a, .inl (cA, n, .inl (upd f k x))) = ws') (hdg : decode cc pc = .ok (.bastore, 1))
    (kk : ∀ (H1 : Heap) (locs1 : List Loc), va_P D cl ws' H1 → va_D A ws' → va_S A H0 H1 locs1 → W p l e R s m args below meth c H1 locs1 cells slots Q (F0 m (pc + 1) ls rest)) : W p l e R s m args below meth c H locs cells slots Q (F0 m pc ls (.int x :: .int i :: .ref a :: rest)) := by
  subst hi
  refine va_zast hx hb hK hP hD hS q0 t0 ha ht (vp_in_nI hk hn) hdg (fun H1 locs1 h1 h2 h3 => ?_)
  rw [nI_clamp (Nat.lt_trans hk hn), hz, hset] at h1 h2
  exact kk H1 locs1 h1 h2 h3
theorem k_put (hexec : p.tables.exec = Jvm.exec) (hb : c.code = cc) {own ref C : String} {T : u_T} {N ci index : Nat} {Ts : List Cond} (hts : ∀ w ∈ Ts, w.before args s = true) (hin : ∀ w ∈ u_ws C T N, w ∈ Ts) (ty0 : Nat → FieldType) (hty : ∀ k, k < N → parseFieldDescriptor (T k).2.2.1 = some (ty0 k)) (hnm : ∀ a, a < N → ∀ b, b < N → a ≠ b → (T a).2.1 ≠ (T b).2.1) (hown : s.vm.findClass own = some m.cls) (hK : va_K D cl tys s) (hP : va_P D cl ws H) (hD : va_D A ws) (hS0 : va_S A H0 H locs) (q0 : Nat) {fs : List Value} (he : ws[q0]? = some (a, .inr (ci, fs))) (hc : cl[ci]? = some (C, T, N)) (k : Nat) (hk : k < N) (hlink : (Cond.fieldLink own index ref (T k).2.1 (T k).2.2.1).before args s = true) (hsame : ∀ x, s.fieldFound? (T k).1 (T k).2.1 (T k).2.2.1 = some x → s.fieldFound? ref (T k).2.1 (T k).2.2.1 = some x) (hfin : (T k).2.2.2 = false) {ty : FieldType} {v : Value} (hd : parseFieldDescriptor (T k).2.2.1 = some ty) (hn : narrow ty v = v) (hfit : fits ty v = true) (hl : k < fs.length)
    (hset : ws.set q0 (a, .inr (ci, fs.set k v)) = ws') (hdg : decode cc pc = .ok (.putfield index, 3)) (kk : ∀ (H1 : Heap) (locs1 : List Loc), va_P D cl ws' H1 → va_D A ws' → va_S A H0 H1 locs1 → W p l e R s m args below meth c H1 locs1 cells slots Q (F0 m (pc + 3) ls rest)) : W p l e R s m args below meth c H locs cells slots Q (F0 m pc ls (v :: .ref a :: rest)) := by
  subst hset
  exact va_put hexec hb hts hin ty0 hty hnm hown hK hP hD hS0 q0 he hc k hk hlink hsame hfin hd hn hfit hl hdg kk
theorem k_icmp_lt (hx : p.tables.exec = Jvm.exec) (hb : c.code = cc) {x y : Int32} (a b : Nat) (h1 : x = nI a) (h2 : y = nI b) (ha : a < 2147483648) (hb2 : b < 2147483648) {off : Int} {tgt : Nat} (hdg : decode cc pc = .ok (.if_icmp .lt off, 3)) (ht : (pc : Int) + off = (tgt : Int))
    (kt : a < b → W p l e R s m args below meth c H locs cells slots Q (F0 m tgt ls rest)) (kf : b ≤ a → W p l e R s m args below meth c H locs cells slots Q (F0 m (pc + 3) ls rest)) : W p l e R s m args below meth c H locs cells slots Q (F0 m pc ls (.int y :: .int x :: rest)) := by
  subst h1; subst h2
  refine lv_icmp_lt hx hb hdg ht (fun h => kt ((nI_ltI ha hb2).mp h)) (fun h => kf (Nat.le_of_not_lt (fun z => h ((nI_ltI ha hb2).mpr z))))
theorem k_icmp_ge (hx : p.tables.exec = Jvm.exec) (hb : c.code = cc) {x y : Int32} (a b : Nat) (h1 : x = nI a) (h2 : y = nI b) (ha : a < 2147483648) (hb2 : b < 2147483648) {off : Int} {tgt : Nat} (hdg : decode cc pc = .ok (.if_icmp .ge off, 3)) (ht : (pc : Int) + off = (tgt : Int))
    (kt : b ≤ a → W p l e R s m args below meth c H locs cells slots Q (F0 m tgt ls rest)) (kf : a < b → W p l e R s m args below meth c H locs cells slots Q (F0 m (pc + 3) ls rest)) : W p l e R s m args below meth c H locs cells slots Q (F0 m pc ls (.int y :: .int x :: rest)) := by
  subst h1; subst h2
  refine lv_icmp_ge hx hb hdg ht (fun h => kt ((nI_leI hb2 ha).mp h)) (fun h => kf (Nat.lt_of_not_le (fun z => h ((nI_leI hb2 ha).mpr z))))
theorem k_icmp_gt (hx : p.tables.exec = Jvm.exec) (hb : c.code = cc) {x y : Int32} (a b : Nat) (h1 : x = nI a) (h2 : y = nI b) (ha : a < 2147483648) (hb2 : b < 2147483648) {off : Int} {tgt : Nat} (hdg : decode cc pc = .ok (.if_icmp .gt off, 3)) (ht : (pc : Int) + off = (tgt : Int))
    (kt : b < a → W p l e R s m args below meth c H locs cells slots Q (F0 m tgt ls rest)) (kf : a ≤ b → W p l e R s m args below meth c H locs cells slots Q (F0 m (pc + 3) ls rest)) : W p l e R s m args below meth c H locs cells slots Q (F0 m pc ls (.int y :: .int x :: rest)) := by
  subst h1; subst h2
  refine lv_icmp_gt hx hb hdg ht (fun h => kt ((nI_ltI hb2 ha).mp h)) (fun h => kf (Nat.le_of_not_lt (fun z => h ((nI_ltI hb2 ha).mpr z))))
theorem k_icmp_le (hx : p.tables.exec = Jvm.exec) (hb : c.code = cc) {x y : Int32} (a b : Nat) (h1 : x = nI a) (h2 : y = nI b) (ha : a < 2147483648) (hb2 : b < 2147483648) {off : Int} {tgt : Nat} (hdg : decode cc pc = .ok (.if_icmp .le off, 3)) (ht : (pc : Int) + off = (tgt : Int))
    (kt : a ≤ b → W p l e R s m args below meth c H locs cells slots Q (F0 m tgt ls rest)) (kf : b < a → W p l e R s m args below meth c H locs cells slots Q (F0 m (pc + 3) ls rest)) : W p l e R s m args below meth c H locs cells slots Q (F0 m pc ls (.int y :: .int x :: rest)) := by
  subst h1; subst h2
  refine lv_icmp_le hx hb hdg ht (fun h => kt ((nI_leI ha hb2).mp h)) (fun h => kf (Nat.lt_of_not_le (fun z => h ((nI_leI ha hb2).mpr z))))
theorem k_icmp_eq (hx : p.tables.exec = Jvm.exec) (hb : c.code = cc) {x y : Int32} (a b : Nat) (h1 : x = nI a) (h2 : y = nI b) (ha : a < 2147483648) (hb2 : b < 2147483648) {off : Int} {tgt : Nat} (hdg : decode cc pc = .ok (.if_icmp .eq off, 3)) (ht : (pc : Int) + off = (tgt : Int))
    (kt : a = b → W p l e R s m args below meth c H locs cells slots Q (F0 m tgt ls rest)) (kf : a ≠ b → W p l e R s m args below meth c H locs cells slots Q (F0 m (pc + 3) ls rest)) : W p l e R s m args below meth c H locs cells slots Q (F0 m pc ls (.int y :: .int x :: rest)) := by
  subst h1; subst h2
  refine lv_icmp_eq hx hb hdg ht (fun h => kt ((nI_eq ha hb2).mp h)) (fun h => kf (fun z => h ((nI_eq ha hb2).mpr z)))
theorem k_icmp_ne (hx : p.tables.exec = Jvm.exec) (hb : c.code = cc) {x y : Int32} (a b : Nat) (h1 : x = nI a) (h2 : y = nI b) (ha : a < 2147483648) (hb2 : b < 2147483648) {off : Int} {tgt : Nat} (hdg : decode cc pc = .ok (.if_icmp .ne off, 3)) (ht : (pc : Int) + off = (tgt : Int))
    (kt : a ≠ b → W p l e R s m args below meth c H locs cells slots Q (F0 m tgt ls rest)) (kf : a = b → W p l e R s m args below meth c H locs cells slots Q (F0 m (pc + 3) ls rest)) : W p l e R s m args below meth c H locs cells slots Q (F0 m pc ls (.int y :: .int x :: rest)) := by
  subst h1; subst h2
  refine lv_icmp_ne hx hb hdg ht (fun h => kt (fun z => h (by rw [z]))) (fun h => kf ((nI_eq ha hb2).mp h))
theorem k_if_eq (hx : p.tables.exec = Jvm.exec) (hb : c.code = cc) {x : Int32} (a : Nat) (h1 : x = nI a) (ha : a < 2147483648) {off : Int} {tgt : Nat} (hdg : decode cc pc = .ok (.ifCond .eq off, 3)) (ht : (pc : Int) + off = (tgt : Int))
    (kt : a = 0 → W p l e R s m args below meth c H locs cells slots Q (F0 m tgt ls rest)) (kf : 0 < a → W p l e R s m args below meth c H locs cells slots Q (F0 m (pc + 3) ls rest)) : W p l e R s m args below meth c H locs cells slots Q (F0 m pc ls (.int x :: rest)) := by
  subst h1
  exact lv_if_eq hx hb hdg ht (fun h => kt (by rw [← nI_0] at h; exact (nI_eq ha (by omega)).mp h)) (fun h => kf (Nat.pos_of_ne_zero fun z => h (by rw [z]; rfl)))
theorem k_if_ne (hx : p.tables.exec = Jvm.exec) (hb : c.code = cc) {x : Int32} (a : Nat) (h1 : x = nI a) (ha : a < 2147483648) {off : Int} {tgt : Nat} (hdg : decode cc pc = .ok (.ifCond .ne off, 3)) (ht : (pc : Int) + off = (tgt : Int))
    (kt : 0 < a → W p l e R s m args below meth c H locs cells slots Q (F0 m tgt ls rest)) (kf : a = 0 → W p l e R s m args below meth c H locs cells slots Q (F0 m (pc + 3) ls rest)) : W p l e R s m args below meth c H locs cells slots Q (F0 m pc ls (.int x :: rest)) := by
  subst h1
  exact lv_if_ne hx hb hdg ht (fun h => kt (Nat.pos_of_ne_zero fun z => h (by rw [z]; rfl))) (fun h => kf (by rw [← nI_0] at h; exact (nI_eq ha (by omega)).mp h))
theorem k_if_gt (hx : p.tables.exec = Jvm.exec) (hb : c.code = cc) {x : Int32} (a : Nat) (h1 : x = nI a) (ha : a < 2147483648) {off : Int} {tgt : Nat} (hdg : decode cc pc = .ok (.ifCond .gt off, 3)) (ht : (pc : Int) + off = (tgt : Int))
    (kt : 0 < a → W p l e R s m args below meth c H locs cells slots Q (F0 m tgt ls rest)) (kf : a = 0 → W p l e R s m args below meth c H locs cells slots Q (F0 m (pc + 3) ls rest)) : W p l e R s m args below meth c H locs cells slots Q (F0 m pc ls (.int x :: rest)) := by
  subst h1
  exact lv_if_gt hx hb hdg ht (fun h => kt (by rw [← nI_0] at h; exact (nI_ltI (by omega) ha).mp h)) (fun h => kf (Nat.eq_zero_of_not_pos fun z => h (by rw [← nI_0]; exact (nI_ltI (by omega) ha).mpr z)))
theorem k_if_le (hx : p.tables.exec = Jvm.exec) (hb : c.code = cc) {x : Int32} (a : Nat) (h1 : x = nI a) (ha : a < 2147483648) {off : Int} {tgt : Nat} (hdg : decode cc pc = .ok (.ifCond .le off, 3)) (ht : (pc : Int) + off = (tgt : Int))
    (kt : a = 0 → W p l e R s m args below meth c H locs cells slots Q (F0 m tgt ls rest)) (kf : 0 < a → W p l e R s m args below meth c H locs cells slots Q (F0 m (pc + 3) ls rest)) : W p l e R s m args below meth c H locs cells slots Q (F0 m pc ls (.int x :: rest)) := by
  subst h1
  exact lv_if_le hx hb hdg ht (fun h => kt (by rw [← nI_0] at h; exact Nat.le_zero.mp ((nI_leI ha (by omega)).mp h))) (fun h => kf (Nat.pos_of_ne_zero fun z => h (by rw [z, ← nI_0]; exact (nI_leI (by omega) (by omega)).mpr (Nat.le_refl 0))))
theorem k_iinc (hx : p.tables.exec = Jvm.exec) (hb : c.code = cc) {i nL k : Nat} {x : Int32} (a : Nat) (h1 : x = nI a) {lv lv' : List (Nat × Value)} (hdg : decode cc pc = .ok (.iinc i 1, 3)) (h : lv_has ls nL lv) (hk : lv[k]? = some (i, .int x)) (hn : i < nL) (hl : (i, Value.int (nI (a + 1))) :: lv.filter (fun q => !(q.1 == i) && !(q.1 + 1 == i && q.2.category == 2)) = lv')
    (kk : ∀ ls' : Array Slot, lv_has ls' nL lv' → W p l e R s m args below meth c H locs cells slots Q (F0 m (pc + 3) ls' rest)) : W p l e R s m args below meth c H locs cells slots Q (F0 m pc ls rest) := by
  subst h1
  exact lv_iinc (v := nI (a + 1)) hx hb hdg h hk (nI_1 a) hn hl kk
theorem k_idec (hx : p.tables.exec = Jvm.exec) (hb : c.code = cc) {i nL k : Nat} {x : Int32} (a : Nat) (h1 : x = nI (a + 1)) {lv lv' : List (Nat × Value)} (hdg : decode cc pc = .ok (.iinc i (-1), 3)) (h : lv_has ls nL lv) (hk : lv[k]? = some (i, .int x)) (hn : i < nL) (hl : (i, Value.int (nI a)) :: lv.filter (fun q => !(q.1 == i) && !(q.1 + 1 == i && q.2.category == 2)) = lv')
    (kk : ∀ ls' : Array Slot, lv_has ls' nL lv' → W p l e R s m args below meth c H locs cells slots Q (F0 m (pc + 3) ls' rest)) : W p l e R s m args below meth c H locs cells slots Q (F0 m pc ls rest) := by
  subst h1
  exact lv_iinc (v := nI a) hx hb hdg h hk (pk_m1 a) hn hl kk
theorem k_iadd (hx : p.tables.exec = Jvm.exec) (hb : c.code = cc) {x y : Int32} (a b : Nat) (h1 : x = nI a) (h2 : y = nI b) (hdg : decode cc pc = .ok (.iadd, 1)) (kk : W p l e R s m args below meth c H locs cells slots Q (F0 m (pc + 1) ls (.int (nI (a + b)) :: rest))) : W p l e R s m args below meth c H locs cells slots Q (F0 m pc ls (.int y :: .int x :: rest)) := by
  subst h1; subst h2
  refine lv_iadd hx hb hdg ?_
  rw [nI_add]
  exact kk
theorem k_isub (hx : p.tables.exec = Jvm.exec) (hb : c.code = cc) {x y : Int32} (a b : Nat) (h1 : x = nI a) (h2 : y = nI b) (hle : b ≤ a) (hdg : decode cc pc = .ok (.isub, 1)) (kk : W p l e R s m args below meth c H locs cells slots Q (F0 m (pc + 1) ls (.int (nI (a - b)) :: rest))) : W p l e R s m args below meth c H locs cells slots Q (F0 m pc ls (.int y :: .int x :: rest)) := by
  subst h1; subst h2
  refine lv_isub hx hb hdg ?_
  rw [pk_sub hle]
  exact kk
theorem k_val {v w : Value} (h : v = w) (kk : W p l e R s m args below meth c H locs cells slots Q (F0 m pc ls (w :: rest))) : W p l e R s m args below meth c H locs cells slots Q (F0 m pc ls (v :: rest)) := by
  rw [h]; exact kk
theorem k_int {x y : Int32} (h : x = y) (kk : W p l e R s m args below meth c H locs cells slots Q (F0 m pc ls (.int y :: rest))) : W p l e R s m args below meth c H locs cells slots Q (F0 m pc ls (.int x :: rest)) := by
  rw [h]; exact kk
end KX
/-- array k of a world's arrays, its place j set -/
def sX (X : Nat → Nat → Int32) (k j : Nat) (v : Int32) : Nat → Nat → Int32 := fun a => if a = k then upd (X a) j v else X a
/-- the class: its cells, by their addresses g; the arrays X (1 state, 2 error, 3 drift, 4 rate, 5 cold, 6 listened, 7 heard, 8 newMidpoint, 9 lastMidpoint, 10 activeBefore, 11 deviations; 12 nodes, 13 slots, 14 channels, 15 bases, 16 everies; 17 nodes, 18 identities, 19 lengths; 20 flips), cy cycles, ss, ds, fs sizes -/
def cw (g : Nat → Nat) (cI cZ : ClassId) (sl mi n : Nat) (X : Nat → Nat → Int32) (cy ss ds fs : Nat) : va_W := [(g 0, .inr (6, [.int (nI sl), .int (nI mi), .ref (g 1), .ref (g 2), .ref (g 3), .ref (g 4), .int (nI cy)])), (g 1, .inr (4, [.int (nI n), .ref (g 11), .ref (g 12), .ref (g 13), .ref (g 14), .ref (g 15), .ref (g 16), .ref (g 17), .ref (g 18), .ref (g 19), .ref (g 20), .ref (g 21)])), (g 2, .inr (5, [.ref (g 22), .ref (g 23), .ref (g 24), .ref (g 25), .ref (g 26), .int (nI ss)])), (g 3, .inr (2, [.ref (g 27), .ref (g 28), .ref (g 29), .int (nI ds)])), (g 4, .inr (3, [.ref (g 30), .int (nI fs)])), (g 11, .inl (cI, n + 1, .inl (X 1))), (g 12, .inl (cI, n + 1, .inl (X 2))), (g 13, .inl (cI, n + 1, .inl (X 3))), (g 14, .inl (cI, n + 1, .inl (X 4))), (g 15, .inl (cZ, n + 1, .inl (X 5))), (g 16, .inl (cI, n + 1, .inl (X 6))), (g 17, .inl (cZ, n + 1, .inl (X 7))), (g 18, .inl (cI, n + 1, .inl (X 8))), (g 19, .inl (cI, n + 1, .inl (X 9))), (g 20, .inl (cZ, n + 1, .inl (X 10))), (g 21, .inl (cI, n, .inl (X 11))), (g 22, .inl (cI, 100, .inl (X 12))), (g 23, .inl (cI, 100, .inl (X 13))), (g 24, .inl (cI, 100, .inl (X 14))), (g 25, .inl (cI, 100, .inl (X 15))), (g 26, .inl (cI, 100, .inl (X 16))), (g 27, .inl (cI, 100, .inl (X 17))), (g 28, .inl (cI, 100, .inl (X 18))), (g 29, .inl (cI, 100, .inl (X 19))), (g 30, .inl (cI, sl, .inl (X 20)))]
/-- the reference: object h 0, the array of field k at h k, its contents Y k -/
def mw (h : Nat → Nat) (cI cZ : ClassId) (sl mi n : Nat) (Y : Nat → Nat → Int32) (th fr wt cy : Nat) : va_W := [(h 0, .inr (7, [.int (nI th), .int (nI n), .int (nI sl), .int (nI mi), .ref (h 4), .ref (h 5), .ref (h 6), .ref (h 7), .ref (h 8), .ref (h 9), .ref (h 10), .ref (h 11), .ref (h 12), .ref (h 13), .ref (h 14), .int (nI fr), .ref (h 16), .ref (h 17), .ref (h 18), .ref (h 19), .ref (h 20), .int (nI wt), .ref (h 22), .ref (h 23), .ref (h 24), .ref (h 25), .int (nI cy)])), (h 4, .inl (cI, 17, .inl (Y 4))), (h 5, .inl (cZ, 17, .inl (Y 5))), (h 6, .inl (cI, 17, .inl (Y 6))), (h 7, .inl (cI, 17, .inl (Y 7))), (h 8, .inl (cI, 17, .inl (Y 8))), (h 9, .inl (cI, 17, .inl (Y 9))), (h 10, .inl (cI, 17, .inl (Y 10))), (h 11, .inl (cI, 17, .inl (Y 11))), (h 12, .inl (cZ, 17, .inl (Y 12))), (h 13, .inl (cI, 17, .inl (Y 13))), (h 14, .inl (cI, 17, .inl (Y 14))), (h 16, .inl (cI, 100, .inl (Y 16))), (h 17, .inl (cI, 100, .inl (Y 17))), (h 18, .inl (cI, 100, .inl (Y 18))), (h 19, .inl (cI, 100, .inl (Y 19))), (h 20, .inl (cI, 100, .inl (Y 20))), (h 22, .inl (cI, 100, .inl (Y 22))), (h 23, .inl (cI, 100, .inl (Y 23))), (h 24, .inl (cI, 100, .inl (Y 24))), (h 25, .inl (cI, 60, .inl (Y 25)))]
abbrev tyz (cI cZ cL : ClassId) : List (ClassId × FieldType) := [(cI, .int), (cZ, .boolean), (cL, .long)]
end
section
theorem ite01 (P : Prop) [Decidable P] : (if P then (1 : Int32) else 0) = 0 ∨ (if P then (1 : Int32) else 0) = 1 := by by_cases h : P <;> simp [h]
section KP
variable {p : Program} {l : Launch} {e : Env} {R : Room} {s : State} {m : MethodId} {args : Array Value} {below : List Frame} {meth : Method} {c : Code} {H : Heap} {locs : List Loc} {cells slots : Nat} {Q : State → Prop}
variable {cc : ByteArray} {pc : Nat} {ls : Array Slot} {rest : List Value}
theorem k_ifne_P {P : Prop} [Decidable P] (hx : p.tables.exec = Jvm.exec) (hb : c.code = cc) {x : Int32} (h : x = if P then 1 else 0) {off : Int} {tgt : Nat} (hdg : decode cc pc = .ok (.ifCond .ne off, 3)) (ht : (pc : Int) + off = (tgt : Int))
    (kt : P → W p l e R s m args below meth c H locs cells slots Q (F0 m tgt ls rest)) (kf : ¬ P → W p l e R s m args below meth c H locs cells slots Q (F0 m (pc + 3) ls rest)) : W p l e R s m args below meth c H locs cells slots Q (F0 m pc ls (.int x :: rest)) := by
  by_cases hp : P
  · rw [if_pos hp] at h; subst h
    exact lv_if_ne hx hb hdg ht (fun _ => kt hp) (fun z => absurd z (by decide))
  · rw [if_neg hp] at h; subst h
    exact lv_if_ne hx hb hdg ht (fun z => absurd rfl z) (fun _ => kf hp)
theorem k_ifeq_P {P : Prop} [Decidable P] (hx : p.tables.exec = Jvm.exec) (hb : c.code = cc) {x : Int32} (h : x = if P then 1 else 0) {off : Int} {tgt : Nat} (hdg : decode cc pc = .ok (.ifCond .eq off, 3)) (ht : (pc : Int) + off = (tgt : Int))
    (kt : ¬ P → W p l e R s m args below meth c H locs cells slots Q (F0 m tgt ls rest)) (kf : P → W p l e R s m args below meth c H locs cells slots Q (F0 m (pc + 3) ls rest)) : W p l e R s m args below meth c H locs cells slots Q (F0 m pc ls (.int x :: rest)) := by
  by_cases hp : P
  · rw [if_pos hp] at h; subst h
    exact lv_if_eq hx hb hdg ht (fun z => absurd z (by decide)) (fun _ => kf hp)
  · rw [if_neg hp] at h; subst h
    exact lv_if_eq hx hb hdg ht (fun _ => kt hp) (fun z => absurd rfl z)
end KP
/-- a number between two natural ones -/
abbrev inR (x : Int32) (lo hi : Nat) : Prop := (lo : Int) ≤ x.toInt ∧ x.toInt ≤ (hi : Int)
theorem inR_of {x : Int32} {lo hi : Nat} (h : inR x lo hi) : ∃ j : Nat, lo ≤ j ∧ j ≤ hi ∧ x = nI j := by
  obtain ⟨h1, h2⟩ := h
  have h0 : ¬ x < 0 := fun z => by
    have := Int32.lt_iff_toInt_lt.mp z
    simp at this
    omega
  obtain ⟨j, hj, rfl⟩ := nI_of h0
  rw [nI_toInt hj] at h1 h2
  exact ⟨j, by omega, by omega, rfl⟩
theorem inR_nI {j lo hi : Nat} (hj : j < 2147483648) : inR (nI j) lo hi ↔ lo ≤ j ∧ j ≤ hi := by
  unfold inR
  rw [nI_toInt hj]
  omega
theorem cf_yX4_init : CfI yX4_init cX4_init 4 3 := ⟨⟨wN_yX4_init, wI_X4, wC_yX4_init, rfl⟩, by decide +kernel, by decide +kernel, by decide +kernel⟩
theorem cf_yX4_within : CfS yX4_within cX4_within 3 (some .boolean) 3 := ⟨⟨wT_yX4_within, wI_X4, wC_yX4_within⟩, by decide +kernel, by decide +kernel, by decide +kernel⟩
theorem cf_yX2_init : CfI yX2_init cX2_init 2 1 := ⟨⟨wN_yX2_init, wI_X2, wC_yX2_init, rfl⟩, by decide +kernel, by decide +kernel, by decide +kernel⟩
theorem cf_yX3_init : CfI yX3_init cX3_init 1 0 := ⟨⟨wN_yX3_init, wI_X3, wC_yX3_init, rfl⟩, by decide +kernel, by decide +kernel, by decide +kernel⟩
theorem cf_yX0_init : CfI yX0_init cX0_init 1 0 := ⟨⟨wN_yX0_init, wI_X0, wC_yX0_init, rfl⟩, by decide +kernel, by decide +kernel, by decide +kernel⟩
theorem cf_yX1_init : CfI yX1_init cX1_init 2 1 := ⟨⟨wN_yX1_init, wI_X1, wC_yX1_init, rfl⟩, by decide +kernel, by decide +kernel, by decide +kernel⟩
theorem cf_yX4_frame : CfV RX4 yX4_frame cX4_frame 6 (some .int) 5 := ⟨⟨wN_yX4_frame, wS_yX4_frame, wI_X4, wC_yX4_frame⟩, rfl, by decide +kernel, by decide +kernel, by decide +kernel⟩
theorem cf_yX2_has : CfV RX2 yX2_has cX2_has 2 (some .boolean) 1 := ⟨⟨wN_yX2_has, wS_yX2_has, wI_X2, wC_yX2_has⟩, rfl, by decide +kernel, by decide +kernel, by decide +kernel⟩
theorem cf_yX4_hasSlot : CfV RX4 yX4_hasSlot cX4_hasSlot 2 (some .boolean) 1 := ⟨⟨wN_yX4_hasSlot, wS_yX4_hasSlot, wI_X4, wC_yX4_hasSlot⟩, rfl, by decide +kernel, by decide +kernel, by decide +kernel⟩
theorem cf_yX3_isEvery : CfS yX3_isEvery cX3_isEvery 1 (some .boolean) 1 := ⟨⟨wT_yX3_isEvery, wI_X3, wC_yX3_isEvery⟩, by decide +kernel, by decide +kernel, by decide +kernel⟩
theorem cf_yJ6_bitCount_0f7a4 : CfS yJ6_bitCount_0f7a4 cJ6_bitCount_0f7a4 1 (some .int) 1 := ⟨⟨wT_yJ6_bitCount_0f7a4, wI_J6, wC_yJ6_bitCount_0f7a4⟩, by decide +kernel, by decide +kernel, by decide +kernel⟩
theorem cf_yX3_clashes : CfV RX3 yX3_clashes cX3_clashes 7 (some .boolean) 4 := ⟨⟨wN_yX3_clashes, wS_yX3_clashes, wI_X3, wC_yX3_clashes⟩, rfl, by decide +kernel, by decide +kernel, by decide +kernel⟩
theorem cf_yX3_isOn : CfV RX3 yX3_isOn cX3_isOn 4 (some .boolean) 3 := ⟨⟨wN_yX3_isOn, wS_yX3_isOn, wI_X3, wC_yX3_isOn⟩, rfl, by decide +kernel, by decide +kernel, by decide +kernel⟩
theorem cf_yX3_remainder : CfS yX3_remainder cX3_remainder 2 (some .int) 2 := ⟨⟨wT_yX3_remainder, wI_X3, wC_yX3_remainder⟩, by decide +kernel, by decide +kernel, by decide +kernel⟩
theorem cf_yX3_isFull : CfV RX3 yX3_isFull cX3_isFull 1 (some .boolean) 0 := ⟨⟨wN_yX3_isFull, wS_yX3_isFull, wI_X3, wC_yX3_isFull⟩, rfl, by decide +kernel, by decide +kernel, by decide +kernel⟩
theorem cf_yX3_add : CfV RX3 yX3_add cX3_add 6 (some .int) 5 := ⟨⟨wN_yX3_add, wS_yX3_add, wI_X3, wC_yX3_add⟩, rfl, by decide +kernel, by decide +kernel, by decide +kernel⟩
theorem cf_yX4_dynamic : CfV RX4 yX4_dynamic cX4_dynamic 4 (some .int) 3 := ⟨⟨wN_yX4_dynamic, wS_yX4_dynamic, wI_X4, wC_yX4_dynamic⟩, rfl, by decide +kernel, by decide +kernel, by decide +kernel⟩
theorem cf_yX0_isFull : CfV RX0 yX0_isFull cX0_isFull 1 (some .boolean) 0 := ⟨⟨wN_yX0_isFull, wS_yX0_isFull, wI_X0, wC_yX0_isFull⟩, rfl, by decide +kernel, by decide +kernel, by decide +kernel⟩
theorem cf_yX0_add : CfV RX0 yX0_add cX0_add 4 (some .int) 3 := ⟨⟨wN_yX0_add, wS_yX0_add, wI_X0, wC_yX0_add⟩, rfl, by decide +kernel, by decide +kernel, by decide +kernel⟩
theorem cf_yX4_drift : CfV RX4 yX4_drift cX4_drift 3 (some .int) 2 := ⟨⟨wN_yX4_drift, wS_yX4_drift, wI_X4, wC_yX4_drift⟩, rfl, by decide +kernel, by decide +kernel, by decide +kernel⟩
theorem cf_yX4_run : CfV RX4 yX4_run cX4_run 4 (some .int) 1 := ⟨⟨wN_yX4_run, wS_yX4_run, wI_X4, wC_yX4_run⟩, rfl, by decide +kernel, by decide +kernel, by decide +kernel⟩
theorem cf_yX4_runOne : CfV RX4 yX4_runOne cX4_runOne 2 (some .int) 0 := ⟨⟨wN_yX4_runOne, wS_yX4_runOne, wI_X4, wC_yX4_runOne⟩, rfl, by decide +kernel, by decide +kernel, by decide +kernel⟩
theorem cf_yX2_startUp : CfV RX2 yX2_startUp cX2_startUp 2 none 0 := ⟨⟨wN_yX2_startUp, wS_yX2_startUp, wI_X2, wC_yX2_startUp⟩, rfl, by decide +kernel, by decide +kernel, by decide +kernel⟩
theorem cf_yX2_leastActive : CfV RX2 yX2_leastActive cX2_leastActive 2 (some .int) 0 := ⟨⟨wN_yX2_leastActive, wS_yX2_leastActive, wI_X2, wC_yX2_leastActive⟩, rfl, by decide +kernel, by decide +kernel, by decide +kernel⟩
theorem cf_yX2_isActive : CfV RX2 yX2_isActive cX2_isActive 2 (some .boolean) 1 := ⟨⟨wN_yX2_isActive, wS_yX2_isActive, wI_X2, wC_yX2_isActive⟩, rfl, by decide +kernel, by decide +kernel, by decide +kernel⟩
theorem cf_yX2_integrate : CfV RX2 yX2_integrate cX2_integrate 3 none 1 := ⟨⟨wN_yX2_integrate, wS_yX2_integrate, wI_X2, wC_yX2_integrate⟩, rfl, by decide +kernel, by decide +kernel, by decide +kernel⟩
theorem cf_yX2_listen : CfV RX2 yX2_listen cX2_listen 3 none 2 := ⟨⟨wN_yX2_listen, wS_yX2_listen, wI_X2, wC_yX2_listen⟩, rfl, by decide +kernel, by decide +kernel, by decide +kernel⟩
theorem cf_yX2_countStarters : CfV RX2 yX2_countStarters cX2_countStarters 3 (some .int) 0 := ⟨⟨wN_yX2_countStarters, wS_yX2_countStarters, wI_X2, wC_yX2_countStarters⟩, rfl, by decide +kernel, by decide +kernel, by decide +kernel⟩
theorem cf_yX2_isStarter : CfV RX2 yX2_isStarter cX2_isStarter 2 (some .boolean) 1 := ⟨⟨wN_yX2_isStarter, wS_yX2_isStarter, wI_X2, wC_yX2_isStarter⟩, rfl, by decide +kernel, by decide +kernel, by decide +kernel⟩
theorem cf_yX2_startCold : CfV RX2 yX2_startCold cX2_startCold 2 none 0 := ⟨⟨wN_yX2_startCold, wS_yX2_startCold, wI_X2, wC_yX2_startCold⟩, rfl, by decide +kernel, by decide +kernel, by decide +kernel⟩
theorem cf_yX3_send : CfV RX3 yX3_send cX3_send 7 (some .int) 3 := ⟨⟨wN_yX3_send, wS_yX3_send, wI_X3, wC_yX3_send⟩, rfl, by decide +kernel, by decide +kernel, by decide +kernel⟩
theorem cf_yX2_forgetHeard : CfV RX2 yX2_forgetHeard cX2_forgetHeard 2 none 0 := ⟨⟨wN_yX2_forgetHeard, wS_yX2_forgetHeard, wI_X2, wC_yX2_forgetHeard⟩, rfl, by decide +kernel, by decide +kernel, by decide +kernel⟩
theorem cf_yX3_isIn : CfV RX3 yX3_isIn cX3_isIn 3 (some .boolean) 2 := ⟨⟨wN_yX3_isIn, wS_yX3_isIn, wI_X3, wC_yX3_isIn⟩, rfl, by decide +kernel, by decide +kernel, by decide +kernel⟩
theorem cf_yX1_leavesAny : CfV RX1 yX1_leavesAny cX1_leavesAny 3 (some .boolean) 2 := ⟨⟨wN_yX1_leavesAny, wS_yX1_leavesAny, wI_X1, wC_yX1_leavesAny⟩, rfl, by decide +kernel, by decide +kernel, by decide +kernel⟩
theorem cf_yX0_send : CfV RX0 yX0_send cX0_send 7 (some .int) 2 := ⟨⟨wN_yX0_send, wS_yX0_send, wI_X0, wC_yX0_send⟩, rfl, by decide +kernel, by decide +kernel, by decide +kernel⟩
theorem cf_yX0_firstOf : CfV RX0 yX0_firstOf cX0_firstOf 4 (some .int) 2 := ⟨⟨wN_yX0_firstOf, wS_yX0_firstOf, wI_X0, wC_yX0_firstOf⟩, rfl, by decide +kernel, by decide +kernel, by decide +kernel⟩
theorem cf_yX0_remove : CfV RX0 yX0_remove cX0_remove 3 none 1 := ⟨⟨wN_yX0_remove, wS_yX0_remove, wI_X0, wC_yX0_remove⟩, rfl, by decide +kernel, by decide +kernel, by decide +kernel⟩
theorem cf_yX2_correct : CfV RX2 yX2_correct cX2_correct 3 none 1 := ⟨⟨wN_yX2_correct, wS_yX2_correct, wI_X2, wC_yX2_correct⟩, rfl, by decide +kernel, by decide +kernel, by decide +kernel⟩
theorem cf_yX2_findMidpoint : CfV RX2 yX2_findMidpoint cX2_findMidpoint 4 (some .int) 1 := ⟨⟨wN_yX2_findMidpoint, wS_yX2_findMidpoint, wI_X2, wC_yX2_findMidpoint⟩, rfl, by decide +kernel, by decide +kernel, by decide +kernel⟩
theorem cf_yX2_insertDeviation : CfV RX2 yX2_insertDeviation cX2_insertDeviation 4 none 2 := ⟨⟨wN_yX2_insertDeviation, wS_yX2_insertDeviation, wI_X2, wC_yX2_insertDeviation⟩, rfl, by decide +kernel, by decide +kernel, by decide +kernel⟩
theorem cf_yX2_apply : CfV RX2 yX2_apply cX2_apply 5 none 3 := ⟨⟨wN_yX2_apply, wS_yX2_apply, wI_X2, wC_yX2_apply⟩, rfl, by decide +kernel, by decide +kernel, by decide +kernel⟩
theorem cf_yX2_changeRate : CfV RX2 yX2_changeRate cX2_changeRate 4 none 2 := ⟨⟨wN_yX2_changeRate, wS_yX2_changeRate, wI_X2, wC_yX2_changeRate⟩, rfl, by decide +kernel, by decide +kernel, by decide +kernel⟩
theorem cf_yX2_passTime : CfV RX2 yX2_passTime cX2_passTime 2 none 0 := ⟨⟨wN_yX2_passTime, wS_yX2_passTime, wI_X2, wC_yX2_passTime⟩, rfl, by decide +kernel, by decide +kernel, by decide +kernel⟩
theorem cf_yX1_clear : CfV RX1 yX1_clear cX1_clear 2 none 0 := ⟨⟨wN_yX1_clear, wS_yX1_clear, wI_X1, wC_yX1_clear⟩, rfl, by decide +kernel, by decide +kernel, by decide +kernel⟩
theorem cf_yX4_state : CfV RX4 yX4_state cX4_state 2 (some .int) 1 := ⟨⟨wN_yX4_state, wS_yX4_state, wI_X4, wC_yX4_state⟩, rfl, by decide +kernel, by decide +kernel, by decide +kernel⟩
theorem cf_yX4_offset : CfV RX4 yX4_offset cX4_offset 2 (some .int) 1 := ⟨⟨wN_yX4_offset, wS_yX4_offset, wI_X4, wC_yX4_offset⟩, rfl, by decide +kernel, by decide +kernel, by decide +kernel⟩
theorem cf_yX4_rate : CfV RX4 yX4_rate cX4_rate 2 (some .int) 1 := ⟨⟨wN_yX4_rate, wS_yX4_rate, wI_X4, wC_yX4_rate⟩, rfl, by decide +kernel, by decide +kernel, by decide +kernel⟩
theorem cf_yX4_cold : CfV RX4 yX4_cold cX4_cold 3 (some .int) 2 := ⟨⟨wN_yX4_cold, wS_yX4_cold, wI_X4, wC_yX4_cold⟩, rfl, by decide +kernel, by decide +kernel, by decide +kernel⟩
theorem cf_yX2_tellCold : CfV RX2 yX2_tellCold cX2_tellCold 3 none 2 := ⟨⟨wN_yX2_tellCold, wS_yX2_tellCold, wI_X2, wC_yX2_tellCold⟩, rfl, by decide +kernel, by decide +kernel, by decide +kernel⟩
theorem cf_yX2_countCold : CfV RX2 yX2_countCold cX2_countCold 3 (some .int) 0 := ⟨⟨wN_yX2_countCold, wS_yX2_countCold, wI_X2, wC_yX2_countCold⟩, rfl, by decide +kernel, by decide +kernel, by decide +kernel⟩
theorem cf_yX4_flip : CfV RX4 yX4_flip cX4_flip 3 (some .int) 2 := ⟨⟨wN_yX4_flip, wS_yX4_flip, wI_X4, wC_yX4_flip⟩, rfl, by decide +kernel, by decide +kernel, by decide +kernel⟩
theorem cf_yX1_has : CfV RX1 yX1_has cX1_has 3 (some .boolean) 2 := ⟨⟨wN_yX1_has, wS_yX1_has, wI_X1, wC_yX1_has⟩, rfl, by decide +kernel, by decide +kernel, by decide +kernel⟩
theorem cf_yX1_add : CfV RX1 yX1_add cX1_add 3 (some .int) 2 := ⟨⟨wN_yX1_add, wS_yX1_add, wI_X1, wC_yX1_add⟩, rfl, by decide +kernel, by decide +kernel, by decide +kernel⟩
theorem cf_yX4_close : CfV RX4 yX4_close cX4_close 2 (some .boolean) 1 := ⟨⟨wN_yX4_close, wS_yX4_close, wI_X4, wC_yX4_close⟩, rfl, by decide +kernel, by decide +kernel, by decide +kernel⟩
theorem cf_yX2_areWithin : CfV RX2 yX2_areWithin cX2_areWithin 4 (some .boolean) 1 := ⟨⟨wN_yX2_areWithin, wS_yX2_areWithin, wI_X2, wC_yX2_areWithin⟩, rfl, by decide +kernel, by decide +kernel, by decide +kernel⟩
theorem cf_yX2_distance : CfV RX2 yX2_distance cX2_distance 3 (some .long) 2 := ⟨⟨wN_yX2_distance, wS_yX2_distance, wI_X2, wC_yX2_distance⟩, rfl, by decide +kernel, by decide +kernel, by decide +kernel⟩
theorem cf_yX4_midpoint : CfV RX4 yX4_midpoint cX4_midpoint 2 (some .int) 1 := ⟨⟨wN_yX4_midpoint, wS_yX4_midpoint, wI_X4, wC_yX4_midpoint⟩, rfl, by decide +kernel, by decide +kernel, by decide +kernel⟩
theorem cf_yL_cell : CfS yL_cell cL_cell 2 (some .int) 2 := ⟨⟨wT_yL_cell, wI_L, wC_yL_cell⟩, by decide +kernel, by decide +kernel, by decide +kernel⟩
theorem cf_yJx00060_init_a7421 : CfI yJx00060_init_a7421 cJx00060_init_a7421 2 1 := ⟨⟨wN_yJx00060_init_a7421, wI_Jx00060, wC_yJx00060_init_a7421, rfl⟩, by decide +kernel, by decide +kernel, by decide +kernel⟩
theorem cf_yX4_place : CfV RX4 yX4_place cX4_place 4 (some .int) 2 := ⟨⟨wN_yX4_place, wS_yX4_place, wI_X4, wC_yX4_place⟩, rfl, by decide +kernel, by decide +kernel, by decide +kernel⟩
theorem cf_yJx00060_init_da8c8 : CfI yJx00060_init_da8c8 cJx00060_init_da8c8 1 0 := ⟨⟨wN_yJx00060_init_da8c8, wI_Jx00060, wC_yJx00060_init_da8c8, rfl⟩, by decide +kernel, by decide +kernel, by decide +kernel⟩
theorem cf_yX3_nodeAt : CfV RX3 yX3_nodeAt cX3_nodeAt 5 (some .int) 3 := ⟨⟨wN_yX3_nodeAt, wS_yX3_nodeAt, wI_X3, wC_yX3_nodeAt⟩, rfl, by decide +kernel, by decide +kernel, by decide +kernel⟩
theorem cf_yX5_init : CfI yX5_init cX5_init 5 3 := ⟨⟨wN_yX5_init, wI_X5, wC_yX5_init, rfl⟩, by decide +kernel, by decide +kernel, by decide +kernel⟩
theorem cf_yX5_thrown : CfV RX5 yX5_thrown cX5_thrown 1 (some .int) 0 := ⟨⟨wN_yX5_thrown, wS_yX5_thrown, wI_X5, wC_yX5_thrown⟩, rfl, by decide +kernel, by decide +kernel, by decide +kernel⟩
theorem cf_yX5_frame : CfV RX5 yX5_frame cX5_frame 9 (some .int) 5 := ⟨⟨wN_yX5_frame, wS_yX5_frame, wI_X5, wC_yX5_frame⟩, rfl, by decide +kernel, by decide +kernel, by decide +kernel⟩
theorem cf_yX5_isNode : CfV RX5 yX5_isNode cX5_isNode 2 (some .boolean) 1 := ⟨⟨wN_yX5_isNode, wS_yX5_isNode, wI_X5, wC_yX5_isNode⟩, rfl, by decide +kernel, by decide +kernel, by decide +kernel⟩
theorem cf_yX5_isSlot : CfV RX5 yX5_isSlot cX5_isSlot 2 (some .boolean) 1 := ⟨⟨wN_yX5_isSlot, wS_yX5_isSlot, wI_X5, wC_yX5_isSlot⟩, rfl, by decide +kernel, by decide +kernel, by decide +kernel⟩
theorem cf_yX5_dynamic : CfV RX5 yX5_dynamic cX5_dynamic 4 (some .int) 3 := ⟨⟨wN_yX5_dynamic, wS_yX5_dynamic, wI_X5, wC_yX5_dynamic⟩, rfl, by decide +kernel, by decide +kernel, by decide +kernel⟩
theorem cf_yX5_drift : CfV RX5 yX5_drift cX5_drift 3 (some .int) 2 := ⟨⟨wN_yX5_drift, wS_yX5_drift, wI_X5, wC_yX5_drift⟩, rfl, by decide +kernel, by decide +kernel, by decide +kernel⟩
theorem cf_yX5_run : CfV RX5 yX5_run cX5_run 5 (some .int) 1 := ⟨⟨wN_yX5_run, wS_yX5_run, wI_X5, wC_yX5_run⟩, rfl, by decide +kernel, by decide +kernel, by decide +kernel⟩
theorem cf_yX5_startUp : CfV RX5 yX5_startUp cX5_startUp 5 none 0 := ⟨⟨wN_yX5_startUp, wS_yX5_startUp, wI_X5, wC_yX5_startUp⟩, rfl, by decide +kernel, by decide +kernel, by decide +kernel⟩
theorem cf_yX5_sendStatic : CfV RX5 yX5_sendStatic cX5_sendStatic 5 (some .int) 0 := ⟨⟨wN_yX5_sendStatic, wS_yX5_sendStatic, wI_X5, wC_yX5_sendStatic⟩, rfl, by decide +kernel, by decide +kernel, by decide +kernel⟩
theorem cf_yX5_sendDynamic : CfV RX5 yX5_sendDynamic cX5_sendDynamic 6 (some .int) 0 := ⟨⟨wN_yX5_sendDynamic, wS_yX5_sendDynamic, wI_X5, wC_yX5_sendDynamic⟩, rfl, by decide +kernel, by decide +kernel, by decide +kernel⟩
theorem cf_yX5_waitingOne : CfV RX5 yX5_waitingOne cX5_waitingOne 3 (some .int) 1 := ⟨⟨wN_yX5_waitingOne, wS_yX5_waitingOne, wI_X5, wC_yX5_waitingOne⟩, rfl, by decide +kernel, by decide +kernel, by decide +kernel⟩
theorem cf_yX5_correct : CfV RX5 yX5_correct cX5_correct 3 none 0 := ⟨⟨wN_yX5_correct, wS_yX5_correct, wI_X5, wC_yX5_correct⟩, rfl, by decide +kernel, by decide +kernel, by decide +kernel⟩
theorem cf_yX5_midpointOf : CfV RX5 yX5_midpointOf cX5_midpointOf 6 (some .int) 1 := ⟨⟨wN_yX5_midpointOf, wS_yX5_midpointOf, wI_X5, wC_yX5_midpointOf⟩, rfl, by decide +kernel, by decide +kernel, by decide +kernel⟩
theorem cf_yX5_state : CfV RX5 yX5_state cX5_state 2 (some .int) 1 := ⟨⟨wN_yX5_state, wS_yX5_state, wI_X5, wC_yX5_state⟩, rfl, by decide +kernel, by decide +kernel, by decide +kernel⟩
theorem cf_yX5_offset : CfV RX5 yX5_offset cX5_offset 2 (some .int) 1 := ⟨⟨wN_yX5_offset, wS_yX5_offset, wI_X5, wC_yX5_offset⟩, rfl, by decide +kernel, by decide +kernel, by decide +kernel⟩
theorem cf_yX5_rate : CfV RX5 yX5_rate cX5_rate 2 (some .int) 1 := ⟨⟨wN_yX5_rate, wS_yX5_rate, wI_X5, wC_yX5_rate⟩, rfl, by decide +kernel, by decide +kernel, by decide +kernel⟩
theorem cf_yX5_place : CfV RX5 yX5_place cX5_place 7 (some .int) 2 := ⟨⟨wN_yX5_place, wS_yX5_place, wI_X5, wC_yX5_place⟩, rfl, by decide +kernel, by decide +kernel, by decide +kernel⟩
theorem cf_yX5_cold : CfV RX5 yX5_cold cX5_cold 5 (some .int) 2 := ⟨⟨wN_yX5_cold, wS_yX5_cold, wI_X5, wC_yX5_cold⟩, rfl, by decide +kernel, by decide +kernel, by decide +kernel⟩
theorem cf_yX5_flip : CfV RX5 yX5_flip cX5_flip 5 (some .int) 2 := ⟨⟨wN_yX5_flip, wS_yX5_flip, wI_X5, wC_yX5_flip⟩, rfl, by decide +kernel, by decide +kernel, by decide +kernel⟩
theorem cf_yX5_close : CfV RX5 yX5_close cX5_close 7 (some .boolean) 1 := ⟨⟨wN_yX5_close, wS_yX5_close, wI_X5, wC_yX5_close⟩, rfl, by decide +kernel, by decide +kernel, by decide +kernel⟩
theorem cf_yX5_midpoint : CfV RX5 yX5_midpoint cX5_midpoint 2 (some .int) 1 := ⟨⟨wN_yX5_midpoint, wS_yX5_midpoint, wI_X5, wC_yX5_midpoint⟩, rfl, by decide +kernel, by decide +kernel, by decide +kernel⟩
end
section
/-! words for the state: pure -/
theorem sX_app (X : Nat → Nat → Int32) (k j : Nat) (v : Int32) (a b : Nat) : sX X k j v a b = if a = k ∧ b = j then v else X a b := by
  unfold sX
  by_cases h : a = k
  · subst h
    by_cases hb : b = j <;> simp [upd, hb]
  · simp [h]
theorem sX_ne {X : Nat → Nat → Int32} {k j : Nat} {v : Int32} {a : Nat} (h : a ≠ k) : sX X k j v a = X a := by
  unfold sX
  rw [if_neg h]
theorem sX_at {X : Nat → Nat → Int32} {k j : Nat} {v : Int32} : sX X k j v k j = v := by rw [sX_app]; simp
/-- array k as a whole -/
def sA (X : Nat → Nat → Int32) (k : Nat) (f : Nat → Int32) : Nat → Nat → Int32 := fun a => if a = k then f else X a
theorem sA_ne {X : Nat → Nat → Int32} {k : Nat} {f : Nat → Int32} {a : Nat} (h : a ≠ k) : sA X k f a = X a := by unfold sA; rw [if_neg h]
theorem sA_at {X : Nat → Nat → Int32} {k : Nat} {f : Nat → Int32} : sA X k f k = f := by unfold sA; rw [if_pos rfl]
theorem sA_self {X : Nat → Nat → Int32} {k : Nat} : sA X k (X k) = X := by
  funext a
  by_cases h : a = k
  · subst h; rw [sA_at]
  · rw [sA_ne h]
theorem sX_sA {X : Nat → Nat → Int32} {k j : Nat} {v : Int32} : sX X k j v = sA X k (upd (X k) j v) := by
  funext a
  by_cases h : a = k
  · subst h; simp [sX, sA]
  · rw [sX_ne h, sA_ne h]
theorem sA_sA {X : Nat → Nat → Int32} {k : Nat} {f f' : Nat → Int32} : sA (sA X k f) k f' = sA X k f' := by
  funext a
  by_cases h : a = k
  · subst h; rw [sA_at, sA_at]
  · rw [sA_ne h, sA_ne h, sA_ne h]
theorem not_lt_1 {x : Int32} (h : ¬ x < 1) : 1 ≤ x.toInt := by
  have := Int32.not_lt.mp h
  have := Int32.le_iff_toInt_le.mp this
  simpa using this
theorem has_1 {x : Int32} {n : Nat} (hn : n < 2147483648) (h1 : ¬ x < 1) (h2 : ¬ nI n < x) : (1 : Int32) = if inR x 1 n then 1 else 0 := by
  have b := Int32.le_iff_toInt_le.mp (Int32.not_lt.mp h2)
  rw [nI_toInt hn] at b
  rw [if_pos (⟨by simpa using not_lt_1 h1, b⟩ : inR x 1 n)]
theorem has_0 {x : Int32} {n : Nat} (hn : n < 2147483648) (h : x < 1 ∨ nI n < x) : (0 : Int32) = if inR x 1 n then 1 else 0 := by
  rw [if_neg]
  rintro ⟨a, b⟩
  rcases h with h | h
  · have := Int32.lt_iff_toInt_lt.mp h
    simp at this
    omega
  · have := Int32.lt_iff_toInt_lt.mp h
    rw [nI_toInt hn] at this
    omega
/-- k is the least ACTIVE node, 0 if there is none -/
def isLA (f : Nat → Int32) (n k : Nat) : Prop := (k = 0 ∧ ∀ j, 1 ≤ j → j ≤ n → f j ≠ 2) ∨ (1 ≤ k ∧ k ≤ n ∧ f k = 2 ∧ ∀ j, 1 ≤ j → j < k → f j ≠ 2)
theorem isLA_le {f : Nat → Int32} {n k : Nat} (h : isLA f n k) : k ≤ n := by
  rcases h with h | h
  · omega
  · exact h.2.1
theorem isLA_uniq {f f' : Nat → Int32} {n k k' : Nat} (hf : ∀ j, 1 ≤ j → j ≤ n → f j = f' j) (h : isLA f n k) (h' : isLA f' n k') : k = k' := by
  rcases h with ⟨rfl, h⟩ | ⟨h1, h2, h3, h4⟩ <;> rcases h' with ⟨rfl, h'⟩ | ⟨h1', h2', h3', h4'⟩
  · rfl
  · exact absurd h3' (by rw [← hf _ h1' h2']; exact h _ h1' h2')
  · exact absurd h3 (by rw [hf _ h1 h2]; exact h' _ h1 h2)
  · rcases Nat.lt_trichotomy k k' with q | q | q
    · exact absurd (by rw [← hf _ h1 h2]; exact h3) (h4' k h1 q)
    · exact q
    · exact absurd (by rw [hf _ h1' h2']; exact h3') (h4 k' h1' q)
/-- how many of 1 .. k - 1 -/
def cnt (f : Nat → Bool) : Nat → Nat
  | 0 => 0
  | k + 1 => cnt f k + (if 1 ≤ k ∧ f k = true then 1 else 0)
theorem cnt_1 (f : Nat → Bool) : cnt f 1 = 0 := by simp [cnt]
theorem cnt_t {f : Nat → Bool} {k : Nat} (h1 : 1 ≤ k) (h : f k = true) : cnt f (k + 1) = cnt f k + 1 := by simp [cnt, h1, h]
theorem cnt_f {f : Nat → Bool} {k : Nat} (h : f k = false) : cnt f (k + 1) = cnt f k := by simp [cnt, h]
theorem cnt_le (f : Nat → Bool) (k : Nat) : cnt f k ≤ k := by
  induction k with
  | zero => simp [cnt]
  | succ k ih => unfold cnt; split <;> omega
theorem cnt_congr {f g : Nat → Bool} {k : Nat} (h : ∀ j, 1 ≤ j → j < k → f j = g j) : cnt f k = cnt g k := by
  induction k with
  | zero => rfl
  | succ k ih =>
    unfold cnt
    rw [ih (fun j a b => h j a (by omega))]
    by_cases hk : 1 ≤ k
    · rw [h k hk (by omega)]
    · simp [hk]
/-- a starter: COLD, and READY or INTEGRATING -/
abbrev isSt (st co : Nat → Int32) (j : Nat) : Prop := co j ≠ 0 ∧ (st j = 0 ∨ st j = 1)
def nSt (st co : Nat → Int32) (k : Nat) : Nat := cnt (fun j => decide (isSt st co j)) k
def nCo (co : Nat → Int32) (k : Nat) : Nat := cnt (fun j => decide (co j ≠ 0)) k
/-- the sorting of deviations -/
def insF : Nat → (Nat → Int32) → Int32 → (Nat → Int32)
  | 0, a, d => upd a 0 d
  | k + 1, a, d => if a k ≤ d then upd a (k + 1) d else insF k (upd a (k + 1) (a k)) d
theorem insF_hi {k : Nat} : ∀ {a : Nat → Int32} {d : Int32} {t : Nat}, k < t → insF k a d t = a t := by
  induction k with
  | zero => intro a d t h; unfold insF; rw [pk_un (by omega)]
  | succ k ih =>
    intro a d t h
    unfold insF
    split
    · rw [pk_un (by omega)]
    · rw [ih (by omega), pk_un (by omega)]
theorem insF_congr {k : Nat} : ∀ {a b : Nat → Int32} {d : Int32}, (∀ t, t < k → a t = b t) → ∀ t, t ≤ k → insF k a d t = insF k b d t := by
  induction k with
  | zero => intro a b d h t ht; unfold insF; rw [show t = 0 by omega, pk_us, pk_us]
  | succ k ih =>
    intro a b d h t ht
    unfold insF
    rw [h k (by omega)]
    split
    · by_cases e : t = k + 1
      · rw [e, pk_us, pk_us]
      · rw [pk_un e, pk_un e]; exact h t (by omega)
    · by_cases e : t = k + 1
      · rw [e, insF_hi (by omega), insF_hi (by omega), pk_us, pk_us]
      · exact ih (fun t ht => by rw [pk_un (by omega), pk_un (by omega)]; exact h t (by omega)) t (by omega)
def srt (e : Nat → Int32) : Nat → (Nat → Int32)
  | 0 => fun _ => 0
  | m + 1 => insF m (srt e m) (e m)
theorem srt_congr {e e' : Nat → Int32} {m : Nat} (h : ∀ t, t < m → e t = e' t) : srt e m = srt e' m := by
  induction m with
  | zero => rfl
  | succ m ih => unfold srt; rw [ih (fun t ht => h t (by omega)), h m (by omega)]
abbrev dvP (st he : Nat → Int32) (i j : Nat) : Prop := j ≠ i ∧ st j = 2 ∧ he j ≠ 0
def dc (st he : Nat → Int32) (i k : Nat) : Nat := 1 + cnt (fun j => decide (dvP st he i j)) k
def de (st he er : Nat → Int32) (i : Nat) : Nat → (Nat → Int32)
  | 0 => fun _ => 0
  | k + 1 => if 1 ≤ k ∧ dvP st he i k then upd (de st he er i k) (dc st he i k) (er k - er i) else de st he er i k
def mpv (st he er : Nat → Int32) (n i : Nat) : Int32 :=
  let m := dc st he i (n + 1)
  let s := srt (de st he er i (n + 1)) m
  let k := if m < 3 then 0 else if m < 8 then 1 else 2
  (s k + s (m - 1 - k)) / 2
theorem dc_1 (st he : Nat → Int32) (i : Nat) : dc st he i 1 = 1 := by unfold dc; rw [cnt_1]
theorem dc_t {st he : Nat → Int32} {i k : Nat} (h1 : 1 ≤ k) (h : dvP st he i k) : dc st he i (k + 1) = dc st he i k + 1 := by unfold dc; rw [cnt_t h1 (decide_eq_true h)]; omega
theorem dc_f {st he : Nat → Int32} {i k : Nat} (h : ¬ dvP st he i k) : dc st he i (k + 1) = dc st he i k := by unfold dc; rw [cnt_f (decide_eq_false h)]
theorem dc_le (st he : Nat → Int32) (i k : Nat) : dc st he i (k + 1) ≤ k + 1 ∧ (1 ≤ i → i ≤ k → dc st he i (k + 1) ≤ k) := by
  induction k with
  | zero => rw [dc_1]; omega
  | succ k ih =>
    by_cases h : dvP st he i (k + 1)
    · rw [dc_t (by omega) h]
      have := h.1
      refine ⟨by omega, fun a b => ?_⟩
      have := ih.2 a (by omega)
      omega
    · rw [dc_f h]
      refine ⟨by omega, fun a b => ?_⟩
      omega
theorem dc_pos (st he : Nat → Int32) (i k : Nat) : 1 ≤ dc st he i k := by unfold dc; omega
theorem de_t {st he er : Nat → Int32} {i k : Nat} (h1 : 1 ≤ k) (h : dvP st he i k) : de st he er i (k + 1) = upd (de st he er i k) (dc st he i k) (er k - er i) := by conv => lhs; unfold de; rw [if_pos ⟨h1, h⟩]
theorem de_f {st he er : Nat → Int32} {i k : Nat} (h : ¬ dvP st he i k) : de st he er i (k + 1) = de st he er i k := by conv => lhs; unfold de; rw [if_neg (fun z => h z.2)]
/-- sorted so far: one more deviation -/
theorem srt_step {st he er : Nat → Int32} {i k : Nat} {a : Nat → Int32} (h1 : 1 ≤ k) (h : dvP st he i k) (ha : ∀ t, t < dc st he i k → a t = srt (de st he er i k) (dc st he i k) t) :
    ∀ t, t < dc st he i (k + 1) → insF (dc st he i k) a (er k - er i) t = srt (de st he er i (k + 1)) (dc st he i (k + 1)) t := by
  intro t ht
  rw [dc_t h1 h] at ht ⊢
  rw [de_t h1 h]
  show _ = insF (dc st he i k) (srt _ (dc st he i k)) _ t
  rw [pk_us, srt_congr (e' := de st he er i k) (fun t ht => pk_un (by omega))]
  exact insF_congr ha t (by omega)
theorem i32_nlt {a b : Int32} (h : a < b) : ¬ b ≤ a := Int32.not_le.mpr h
theorem i32_nle {a b : Int32} (h : a ≤ b) : ¬ b < a := Int32.not_lt.mpr h
theorem insF_0 {a : Nat} {f : Nat → Int32} {d : Int32} (h : a = 0) : insF a f d = upd f a d := by subst h; rfl
theorem insF_stop {a : Nat} {f : Nat → Int32} {d : Int32} (h : 0 < a) (hd : f (a - 1) ≤ d) : insF a f d = upd f a d := by
  obtain ⟨k, rfl⟩ : ∃ k, a = k + 1 := ⟨a - 1, by omega⟩
  rw [Nat.add_sub_cancel] at hd
  conv => lhs; unfold insF
  rw [if_pos hd]
theorem insF_go {a : Nat} {f : Nat → Int32} {d : Int32} (h : 0 < a) (hd : ¬ f (a - 1) ≤ d) : insF a f d = insF (a - 1) (upd f a (f (a - 1))) d := by
  obtain ⟨k, rfl⟩ : ∃ k, a = k + 1 := ⟨a - 1, by omega⟩
  rw [Nat.add_sub_cancel] at hd ⊢
  conv => lhs; unfold insF
  rw [if_neg hd]
/-- integration of node j, the leader ld -/
def Ig (X u : Nat → Nat → Int32) (ld j : Nat) : Prop := u 1 j = (if X 1 j = 0 then 1 else if X 1 j = 1 then (if 2 ≤ X 6 j + 1 then 2 else 1) else X 1 j) ∧ u 6 j = (if X 1 j = 0 then 0 else if X 1 j = 1 then X 6 j + 1 else X 6 j) ∧ u 2 j = (if X 1 j = 1 ∧ 2 ≤ X 6 j + 1 then X 2 ld else X 2 j)
def SU (X u : Nat → Nat → Int32) (n : Nat) : Prop := ∃ k, isLA (X 1) n k ∧ ((k ≠ 0 ∧ (∀ j, 1 ≤ j → j ≤ n → Ig X u k j) ∧ ∀ a, a ≠ 1 → a ≠ 2 → a ≠ 6 → u a = X a) ∨
  (k = 0 ∧ 2 ≤ nSt (X 1) (X 5) (n + 1) ∧ (∀ j, 1 ≤ j → j ≤ n → u 1 j = if isSt (X 1) (X 5) j then 2 else X 1 j) ∧ ∀ a, a ≠ 1 → u a = X a) ∨ (k = 0 ∧ nSt (X 1) (X 5) (n + 1) < 2 ∧ u = X))
def clp (w : Int32) : Int32 := if (-100) < (if w < 100 then w else 100) then (if w < 100 then w else 100) else (-100)
def apSum (mid ab lm : Int32) : Int32 := mid + (if ab ≠ 0 then lm else 0)
abbrev big (mid : Int32) : Prop := 500 < mid ∨ mid < (-500)
def zSt (st ra mid sm odd : Int32) : Int32 := if big mid then 4 else if odd ≠ 0 ∧ clp (ra + sm / 4) ≠ ra + sm / 4 then 3 else st
def zEr (er mid : Int32) : Int32 := if big mid then er else er + mid
def zRa (ra mid sm odd : Int32) : Int32 := if ¬ big mid ∧ odd ≠ 0 then clp (ra + sm / 4) else ra
/-- a node that is ACTIVE takes its midpoint -/
def AP (X u : Nat → Nat → Int32) (j : Nat) (mid odd : Int32) : Prop := u 1 j = zSt (X 1 j) (X 4 j) mid (apSum mid (X 10 j) (X 9 j)) odd ∧ u 2 j = zEr (X 2 j) mid ∧ u 4 j = zRa (X 4 j) mid (apSum mid (X 10 j) (X 9 j)) odd ∧ u 9 j = mid ∧ u 10 j = 1
def CR (X u : Nat → Nat → Int32) (n j : Nat) (odd : Int32) : Prop := (X 1 j = 2 → AP X u j (mpv (X 1) (X 7) (X 2) n j) odd) ∧ (X 1 j ≠ 2 → u 1 j = X 1 j ∧ u 2 j = X 2 j ∧ u 4 j = X 4 j ∧ u 9 j = X 9 j ∧ u 10 j = 0)
end
section
/-! the class's nodes -/
theorem ite_n {α : Type} {c : Prop} [Decidable c] {a b : α} (h : ¬ c) : b = if c then a else b := (if_neg h).symm
theorem ite_p {α : Type} {c : Prop} [Decidable c] {a b : α} (h : c) : a = if c then a else b := (if_pos h).symm
theorem ap_post {X u : Nat → Nat → Int32} {j : Nat} {mid odd q : Int32} (hq : q = if X 10 j ≠ 0 then X 9 j else 0)
    (h : (big mid ∧ u = sX (sX (sX X 9 j mid) 10 j 1) 1 j 4) ∨ (¬ big mid ∧ ((odd = 0 ∧ u = sX (sX (sX X 9 j mid) 10 j 1) 2 j (X 2 j + mid)) ∨
      (odd ≠ 0 ∧ u = if clp (X 4 j + (mid + q) / 4) ≠ X 4 j + (mid + q) / 4 then sX (sX (sX (sX (sX X 9 j mid) 10 j 1) 2 j (X 2 j + mid)) 4 j (clp (X 4 j + (mid + q) / 4))) 1 j 3 else sX (sX (sX (sX X 9 j mid) 10 j 1) 2 j (X 2 j + mid)) 4 j (clp (X 4 j + (mid + q) / 4)))))) :
    AP X u j mid odd ∧ (∀ i, i ≠ j → ∀ a, u a i = X a i) ∧ ∀ a, a ≠ 1 → a ≠ 2 → a ≠ 4 → a ≠ 9 → a ≠ 10 → u a = X a := by
  have hs : apSum mid (X 10 j) (X 9 j) = mid + q := by rw [hq]; rfl
  unfold AP zSt zEr zRa
  rw [hs]
  have six : ∀ {Y : Nat → Nat → Int32} {a b i : Nat} {v : Int32}, i ≠ j → sX Y b j v a i = Y a i := fun {Y a b i v} h => by rw [sX_app, if_neg (fun z => h z.2)]
  rcases h with ⟨hb, rfl⟩ | ⟨hb, ⟨ho, rfl⟩ | ⟨ho, hu⟩⟩
  · refine ⟨⟨?_, ?_, ?_, ?_, ?_⟩, fun i hi a => by rw [six hi, six hi, six hi], fun a h1 h2 h4 h9 h10 => by rw [sX_ne h1, sX_ne h10, sX_ne h9]⟩
    · rw [if_pos hb]; simp [sX_app]
    · rw [if_pos hb]; simp [sX_app]
    · rw [if_neg (fun z => z.1 hb)]; simp [sX_app]
    · simp [sX_app]
    · simp [sX_app]
  · refine ⟨⟨?_, ?_, ?_, ?_, ?_⟩, fun i hi a => by rw [six hi, six hi, six hi], fun a h1 h2 h4 h9 h10 => by rw [sX_ne h2, sX_ne h10, sX_ne h9]⟩
    · rw [if_neg hb, if_neg (fun z => z.1 ho)]; simp [sX_app]
    · rw [if_neg hb]; simp [sX_app]
    · rw [if_neg (fun z => z.2 ho)]; simp [sX_app]
    · simp [sX_app]
    · simp [sX_app]
  · by_cases hc : clp (X 4 j + (mid + q) / 4) ≠ X 4 j + (mid + q) / 4
    · rw [if_pos hc] at hu; subst hu
      refine ⟨⟨?_, ?_, ?_, ?_, ?_⟩, fun i hi a => by rw [six hi, six hi, six hi, six hi, six hi], fun a h1 h2 h4 h9 h10 => by rw [sX_ne h1, sX_ne h4, sX_ne h2, sX_ne h10, sX_ne h9]⟩
      · rw [if_neg hb, if_pos ⟨ho, hc⟩]; simp [sX_app]
      · rw [if_neg hb]; simp [sX_app]
      · rw [if_pos ⟨hb, ho⟩]; simp [sX_app]
      · simp [sX_app]
      · simp [sX_app]
    · rw [if_neg hc] at hu; subst hu
      refine ⟨⟨?_, ?_, ?_, ?_, ?_⟩, fun i hi a => by rw [six hi, six hi, six hi, six hi], fun a h1 h2 h4 h9 h10 => by rw [sX_ne h4, sX_ne h2, sX_ne h10, sX_ne h9]⟩
      · rw [if_neg hb, if_neg (fun z => hc z.2)]; simp [sX_app]
      · rw [if_neg hb]; simp [sX_app]
      · rw [if_pos ⟨hb, ho⟩]; simp [sX_app]
      · simp [sX_app]
      · simp [sX_app]
theorem co_keep {X X' : Nat → Nat → Int32} {n i : Nat} (h3 : ∀ j, 1 ≤ j → j < i → X 1 j = 2 → X' 8 j = mpv (X 1) (X 7) (X 2) n j) (h5 : ∀ a, a ≠ 8 → a ≠ 11 → X' a = X a) (c : ¬ X' 1 i = 2) : ∀ j, 1 ≤ j → j < i + 1 → X 1 j = 2 → X' 8 j = mpv (X 1) (X 7) (X 2) n j := by
  intro j a b z
  by_cases e : j = i
  · subst e; rw [h5 1 (by decide) (by decide)] at c; exact absurd z c
  · exact h3 j a (by omega) z
theorem co_set {X X' u : Nat → Nat → Int32} {n i : Nat} {r : Int32} (h3 : ∀ j, 1 ≤ j → j < i → X 1 j = 2 → X' 8 j = mpv (X 1) (X 7) (X 2) n j) (h5 : ∀ a, a ≠ 8 → a ≠ 11 → X' a = X a) (hr : r = mpv (X' 1) (X' 7) (X' 2) n i ∧ ∀ a, a ≠ 11 → u a = X' a) : ∀ j, 1 ≤ j → j < i + 1 → X 1 j = 2 → (sX u 8 i r) 8 j = mpv (X 1) (X 7) (X 2) n j := by
  intro j a b z
  rw [sX_app]
  by_cases e : j = i
  · subst e; rw [if_pos ⟨rfl, rfl⟩, hr.1, h5 1 (by decide) (by decide), h5 7 (by decide) (by decide), h5 2 (by decide) (by decide)]
  · rw [if_neg (fun z => e z.2), hr.2 8 (by decide)]; exact h3 j a (by omega) z
theorem co_set5 {X X' u : Nat → Nat → Int32} {n i : Nat} {r : Int32} (h5 : ∀ a, a ≠ 8 → a ≠ 11 → X' a = X a) (hr : r = mpv (X' 1) (X' 7) (X' 2) n i ∧ ∀ a, a ≠ 11 → u a = X' a) : ∀ a, a ≠ 8 → a ≠ 11 → (sX u 8 i r) a = X a := fun a h8 h11 => by rw [sX_ne h8, hr.2 a h11, h5 a h8 h11]
theorem cb_keep3 {X Z : Nat → Nat → Int32} {n i : Nat} {odd : Int32} (k3 : ∀ j, 1 ≤ j → j < i → CR X Z n j odd) (k4 : ∀ j, i ≤ j → ∀ a, a ≠ 8 → a ≠ 11 → Z a j = X a j) (c : ¬ Z 1 i = 2) : ∀ j, 1 ≤ j → j < i + 1 → CR X (sX Z 10 i 0) n j odd := by
  intro j a b
  by_cases e : j = i
  · subst e
    have q := fun a h8 h11 => k4 j (Nat.le_refl j) a h8 h11
    rw [q 1 (by decide) (by decide)] at c
    refine ⟨fun z => absurd z c, fun _ => ⟨?_, ?_, ?_, ?_, sX_at⟩⟩ <;> (rw [sX_ne (by decide)]; exact q _ (by decide) (by decide))
  · have h := k3 j a (by omega)
    unfold CR AP at h ⊢
    simpa [sX_app, e] using h
theorem cb_keep4 {X Z : Nat → Nat → Int32} {i : Nat} {v : Int32} (k4 : ∀ j, i ≤ j → ∀ a, a ≠ 8 → a ≠ 11 → Z a j = X a j) : ∀ j, i + 1 ≤ j → ∀ a, a ≠ 8 → a ≠ 11 → (sX Z 10 i v) a j = X a j := fun j h a h8 h11 => by rw [sX_app, if_neg (by omega)]; exact k4 j (by omega) a h8 h11
theorem cb_set3 {X Z u : Nat → Nat → Int32} {n i : Nat} {odd : Int32} (h1 : 1 ≤ i) (h2 : i ≤ n + 1) (k3 : ∀ j, 1 ≤ j → j < i → CR X Z n j odd) (k4 : ∀ j, i ≤ j → ∀ a, a ≠ 8 → a ≠ 11 → Z a j = X a j) (k6 : ∀ j, 1 ≤ j → j ≤ n → X 1 j = 2 → Z 8 j = mpv (X 1) (X 7) (X 2) n j) (c : Z 1 i = 2)
    (hr : AP Z u i (Z 8 i) odd ∧ (∀ j, j ≠ i → ∀ a, u a j = Z a j) ∧ ∀ a, a ≠ 1 → a ≠ 2 → a ≠ 4 → a ≠ 9 → a ≠ 10 → u a = Z a) (hi : i ≤ n := by omega) : ∀ j, 1 ≤ j → j < i + 1 → CR X u n j odd := by
  intro j a b
  by_cases e : j = i
  · subst e
    have q := fun a h8 h11 => k4 j (Nat.le_refl j) a h8 h11
    have c' := c
    rw [q 1 (by decide) (by decide)] at c'
    have h := hr.1
    unfold AP at h
    rw [k6 j a hi c', q 1 (by decide) (by decide), q 2 (by decide) (by decide), q 4 (by decide) (by decide), q 9 (by decide) (by decide), q 10 (by decide) (by decide)] at h
    exact ⟨fun _ => h, fun z => absurd c' z⟩
  · have h := k3 j a (by omega)
    unfold CR AP at h ⊢
    have q := hr.2.1 j e
    rw [q 1, q 2, q 4, q 9, q 10]
    exact h
theorem cb_set4 {X Z u : Nat → Nat → Int32} {i : Nat} {mid odd : Int32} (k4 : ∀ j, i ≤ j → ∀ a, a ≠ 8 → a ≠ 11 → Z a j = X a j) (hr : AP Z u i mid odd ∧ (∀ j, j ≠ i → ∀ a, u a j = Z a j) ∧ ∀ a, a ≠ 1 → a ≠ 2 → a ≠ 4 → a ≠ 9 → a ≠ 10 → u a = Z a) : ∀ j, i + 1 ≤ j → ∀ a, a ≠ 8 → a ≠ 11 → u a j = X a j := fun j h a h8 h11 => (hr.2.1 j (by omega) a).trans (k4 j (by omega) a h8 h11)
theorem cb_set6 {X Z u : Nat → Nat → Int32} {n i : Nat} {mid odd : Int32} (k6 : ∀ j, 1 ≤ j → j ≤ n → X 1 j = 2 → Z 8 j = mpv (X 1) (X 7) (X 2) n j) (hr : AP Z u i mid odd ∧ (∀ j, j ≠ i → ∀ a, u a j = Z a j) ∧ ∀ a, a ≠ 1 → a ≠ 2 → a ≠ 4 → a ≠ 9 → a ≠ 10 → u a = Z a) : ∀ j, 1 ≤ j → j ≤ n → X 1 j = 2 → u 8 j = mpv (X 1) (X 7) (X 2) n j := fun j a b z => by rw [hr.2.2 8 (by decide) (by decide) (by decide) (by decide) (by decide)]; exact k6 j a b z
theorem cb_set5 {X Z u : Nat → Nat → Int32} {i : Nat} {mid odd : Int32} (k5 : ∀ a, a ≠ 1 → a ≠ 2 → a ≠ 4 → a ≠ 8 → a ≠ 9 → a ≠ 10 → a ≠ 11 → Z a = X a) (hr : AP Z u i mid odd ∧ (∀ j, j ≠ i → ∀ a, u a j = Z a j) ∧ ∀ a, a ≠ 1 → a ≠ 2 → a ≠ 4 → a ≠ 9 → a ≠ 10 → u a = Z a) : ∀ a, a ≠ 1 → a ≠ 2 → a ≠ 4 → a ≠ 8 → a ≠ 9 → a ≠ 10 → a ≠ 11 → u a = X a := fun a h1 h2 h4 h8 h9 h10 h11 => (hr.2.2 a h1 h2 h4 h9 h10).trans (k5 a h1 h2 h4 h8 h9 h10 h11)
set_option maxHeartbeats 4000000 in
set_option maxRecDepth 100000 in
theorem c_X4_within {l : Launch} {D : va_G} {cI cZ cL : ClassId} {g : Nat → Nat} {sl mi n : Nat} {X : Nat → Nat → Int32} {cy ss ds fs : Nat} (x a b : Int32) : KR l yX4_within (.code yX4_within cX4_within 3 (some .boolean)) 0 D (tyz cI cZ cL) [.int x, .int a, .int b] (cw g cI cZ sl mi n X cy ss ds fs) (fun r => r = if a ≤ x ∧ x ≤ b then 1 else 0) := by
  refine KR.ofz (own := RX4) (lvs := [(0, .int x), (1, .int a), (2, .int b)]) (by decide) rfl (Nat.le_of_ble_eq_true rfl) rfl ?_
  intro p e s m args below meth c Q C hK hN hP hD ret ls hl
  obtain ⟨hx, hb, hml, hown, hts, hr9, hlk9⟩ := id C
  refine lv_iload_n hx hb dX4_within_0 rfl (lv_at hl 0 rfl) ?_
  refine lv_iload_n hx hb dX4_within_1 rfl (lv_at hl 1 rfl) ?_
  refine lv_icmp_lt (tgt := 14) hx hb dX4_within_2 (by decide) (fun c2 => ?_) (fun c2 => ?_)
  · skip
    refine lv_iconst (v := 0) hx hb dX4_within_14 (by decide) ?_
    exact ret _ _ _ dX4_within_15 (Or.inl rfl) (by first | exact ite_n (fun h => absurd h.1 (i32_nlt c2)) | exact ite_n (fun h => absurd h.2 (i32_nlt c7)))
  · skip
    refine lv_iload_n hx hb dX4_within_5 rfl (lv_at hl 0 rfl) ?_
    refine lv_iload_n hx hb dX4_within_6 rfl (lv_at hl 2 rfl) ?_
    refine lv_icmp_gt (tgt := 14) hx hb dX4_within_7 (by decide) (fun c7 => ?_) (fun c7 => ?_)
    · skip
      refine lv_iconst (v := 0) hx hb dX4_within_14 (by decide) ?_
      exact ret _ _ _ dX4_within_15 (Or.inl rfl) (by first | exact ite_n (fun h => absurd h.1 (i32_nlt c2)) | exact ite_n (fun h => absurd h.2 (i32_nlt c7)))
    · skip
      refine lv_iconst (v := 1) hx hb dX4_within_10 (by decide) ?_
      refine lv_goto (tgt := 15) hx hb dX4_within_11 (by decide) ?_
      exact ret _ _ _ dX4_within_15 (Or.inr rfl) (by exact ite_p ⟨Int32.not_lt.mp c2, Int32.not_lt.mp c7⟩)
set_option maxHeartbeats 4000000 in
set_option maxRecDepth 100000 in
theorem c_X2_has {l : Launch} {D : va_G} {cI cZ cL : ClassId} {g : Nat → Nat} {sl mi n : Nat} {X : Nat → Nat → Int32} {cy ss ds fs : Nat} (hn : n ≤ 16) (x : Int32) : KR l yX2_has (.code yX2_has cX2_has 2 (some .boolean)) 0 D (tyz cI cZ cL) [.ref (g 1), .int x] (cw g cI cZ sl mi n X cy ss ds fs) (fun r => r = if inR x 1 n then 1 else 0) := by
  refine KR.ofz (own := RX2) (lvs := [(0, .ref (g 1)), (1, .int x)]) (by decide) rfl (Nat.le_of_ble_eq_true rfl) rfl ?_
  intro p e s m args below meth c Q C hK hN hP hD ret ls hl
  obtain ⟨hx, hb, hml, hown, hts, hr9, hlk9⟩ := id C
  refine lv_iload_n hx hb dX2_has_0 rfl (lv_at hl 1 rfl) ?_
  refine lv_iconst (v := 1) hx hb dX2_has_1 (by decide) ?_
  refine lv_icmp_lt (tgt := 17) hx hb dX2_has_2 (by decide) (fun c2 => ?_) (fun c2 => ?_)
  · skip
    refine lv_iconst (v := 0) hx hb dX2_has_17 (by decide) ?_
    exact ret _ _ _ dX2_has_18 (Or.inl rfl) (has_0 (by omega) (by first | exact Or.inl c2 | exact Or.inr c10))
  · skip
    refine lv_iload_n hx hb dX2_has_5 rfl (lv_at hl 1 rfl) ?_
    refine lv_aload_n hx hb dX2_has_6 rfl (lv_at hl 0 rfl) ?_
    refine va_get (D := D) (ci := 4) (v := .int (nI n)) (C := RX2) (T := TX2) (N := 12) hx hb hts inX2 hown hK hP 1 rfl rfl 0 (by decide) (hts _ wF_X2_7) (fun _ h9 => h9) rfl dX2_has_7 ?_
    refine lv_icmp_gt (tgt := 17) hx hb dX2_has_10 (by decide) (fun c10 => ?_) (fun c10 => ?_)
    · skip
      refine lv_iconst (v := 0) hx hb dX2_has_17 (by decide) ?_
      exact ret _ _ _ dX2_has_18 (Or.inl rfl) (has_0 (by omega) (by first | exact Or.inl c2 | exact Or.inr c10))
    · skip
      refine lv_iconst (v := 1) hx hb dX2_has_13 (by decide) ?_
      refine lv_goto (tgt := 18) hx hb dX2_has_14 (by decide) ?_
      exact ret _ _ _ dX2_has_18 (Or.inr rfl) (has_1 (by omega) c2 c10)
set_option maxHeartbeats 4000000 in
set_option maxRecDepth 100000 in
theorem c_X2_isActive {l : Launch} {D : va_G} {cI cZ cL : ClassId} {g : Nat → Nat} {sl mi n : Nat} {X : Nat → Nat → Int32} {cy ss ds fs : Nat} (hn : n ≤ 16) (j : Nat) (hj : j ≤ n) : KR l yX2_isActive (.code yX2_isActive cX2_isActive 2 (some .boolean)) 0 D (tyz cI cZ cL) [.ref (g 1), .int (nI j)] (cw g cI cZ sl mi n X cy ss ds fs) (fun r => r = if X 1 j = 2 then 1 else 0) := by
  refine KR.ofz (own := RX2) (lvs := [(0, .ref (g 1)), (1, .int (nI j))]) (by decide) rfl (Nat.le_of_ble_eq_true rfl) rfl ?_
  intro p e s m args below meth c Q C hK hN hP hD ret ls hl
  obtain ⟨hx, hb, hml, hown, hts, hr9, hlk9⟩ := id C
  refine lv_aload_n hx hb dX2_isActive_0 rfl (lv_at hl 0 rfl) ?_
  refine va_get (D := D) (ci := 4) (v := .ref (g 11)) (C := RX2) (T := TX2) (N := 12) hx hb hts inX2 hown hK hP 1 rfl rfl 1 (by decide) (hts _ wF_X2_13) (fun _ h9 => h9) rfl dX2_isActive_1 ?_
  refine lv_iload_n hx hb dX2_isActive_4 rfl (lv_at hl 1 rfl) ?_
  refine k_iald (D := D) (f := X 1) hx hb hK hP 5 0 rfl rfl j rfl (by omega) (by omega) dX2_isActive_5 ?_
  refine lv_iconst (v := 2) hx hb dX2_isActive_6 (by decide) ?_
  refine lv_icmp_ne (tgt := 14) hx hb dX2_isActive_7 (by decide) (fun c7 => ?_) (fun c7 => ?_)
  · skip
    refine lv_iconst (v := 0) hx hb dX2_isActive_14 (by decide) ?_
    exact ret _ _ _ dX2_isActive_15 (Or.inl rfl) (by exact ite_n c7)
  · skip
    refine lv_iconst (v := 1) hx hb dX2_isActive_10 (by decide) ?_
    refine lv_goto (tgt := 15) hx hb dX2_isActive_11 (by decide) ?_
    exact ret _ _ _ dX2_isActive_15 (Or.inr rfl) (by exact ite_p c7)
set_option maxHeartbeats 4000000 in
set_option maxRecDepth 100000 in
theorem c_X2_leastActive {l : Launch} {D : va_G} {cI cZ cL : ClassId} {g : Nat → Nat} {sl mi n : Nat} {X : Nat → Nat → Int32} {cy ss ds fs : Nat} (hn : n ≤ 16) : KR l yX2_leastActive (.code yX2_leastActive cX2_leastActive 2 (some .int)) 1 D (tyz cI cZ cL) [.ref (g 1)] (cw g cI cZ sl mi n X cy ss ds fs) (fun r => ∃ k : Nat, r = nI k ∧ isLA (X 1) n k) := by
  refine KR.of (own := RX2) (lvs := [(0, .ref (g 1))]) (by decide) rfl (Nat.le_of_ble_eq_true rfl) rfl ?_
  intro p e s m args below meth c Q C hK hN hP hD ret ls hl
  obtain ⟨hx, hb, hml, hown, hts, hr9, hlk9⟩ := id C
  refine lv_iconst (v := 1) hx hb dX2_leastActive_0 (by decide) ?_
  refine lv_istore_n (lv' := [(1, .int 1), (0, .ref (g 1))]) hx hb dX2_leastActive_1 rfl hl (by decide) rfl (fun ls hl => ?_)
  have L2 : ∀ (kf : Nat) (i : Nat) (ls : Array Slot), (n + 1 - i < kf) → (1 ≤ i) → (i ≤ n + 1) → (∀ j, 1 ≤ j → j < i → X 1 j ≠ 2) → (lv_has ls 2 [(0, .ref (g 1)), (1, .int (nI i))]) → W p l e (rmK 1) s m args below meth c s.heap [] 0 0 Q (F0 m 2 ls []) := by
    intro kf
    induction kf with
    | zero =>
      intro i ls hm
      exact absurd hm (Nat.not_lt_zero _)
    | succ kf ih2 =>
      intro i ls hm h1 h2 h3 hl
      refine lv_iload_n hx hb dX2_leastActive_2 rfl (lv_at hl 1 rfl) ?_
      refine lv_aload_n hx hb dX2_leastActive_3 rfl (lv_at hl 0 rfl) ?_
      refine va_get (D := D) (ci := 4) (v := .int (nI n)) (C := RX2) (T := TX2) (N := 12) hx hb hts inX2 hown hK hP 1 rfl rfl 0 (by decide) (hts _ wF_X2_7) (fun _ h9 => h9) rfl dX2_leastActive_4 ?_
      refine k_icmp_gt (tgt := 26) hx hb i n rfl rfl (by omega) (by omega) dX2_leastActive_7 (by decide) (fun c7 => ?_) (fun c7 => ?_)
      · skip
        refine lv_iconst (v := 0) hx hb dX2_leastActive_26 (by decide) ?_
        exact ret _ _ _ dX2_leastActive_27 ⟨0, rfl, Or.inl ⟨rfl, fun j a b => h3 j a (by omega)⟩⟩
      · skip
        refine lv_aload_n hx hb dX2_leastActive_10 rfl (lv_at hl 0 rfl) ?_
        refine lv_iload_n hx hb dX2_leastActive_11 rfl (lv_at hl 1 rfl) ?_
        refine k_callR (D := D) C hK hN hP hD (c_X2_isActive hn i (by omega)) hl cf_yX2_isActive wM_X2_48 1 4 rfl rfl rfl rfl (Nat.le_of_ble_eq_true rfl) ⟨by decide, by decide⟩ ⟨Nat.zero_le _, Nat.zero_le _⟩ dX2_leastActive_12 (fun r12 hr12 => ?_)
        have hr12 : r12 = (if X 1 i = 2 then 1 else 0) := hr12
        subst hr12
        refine k_ifeq_P (P := (X 1 i = 2)) (tgt := 20) hx hb rfl dX2_leastActive_15 (by decide) (fun c15 => ?_) (fun c15 => ?_)
        · skip
          refine k_iinc (k := 1) (lv' := [(1, .int (nI (i + 1))), (0, .ref (g 1))]) hx hb i rfl dX2_leastActive_20 hl rfl (by decide) rfl (fun ls hl => ?_)
          refine lv_goto (tgt := 2) hx hb dX2_leastActive_23 (by decide) ?_
          exact ih2 (i + 1) _ (by omega) (by omega) (by omega) (by grind) (lv_sub hl [1, 0] rfl)
        · skip
          refine lv_iload_n hx hb dX2_leastActive_18 rfl (lv_at hl 1 rfl) ?_
          exact ret _ _ _ dX2_leastActive_19 ⟨i, rfl, Or.inr ⟨h1, by omega, c15, h3⟩⟩
  exact L2 ((n + 1 - 1) + 1) 1 _ (Nat.lt_succ_self _) (Nat.le_refl 1) (by omega) (fun j a b => absurd b (by omega)) (lv_sub hl [1, 0] rfl)
set_option maxHeartbeats 4000000 in
set_option maxRecDepth 100000 in
theorem c_X2_countCold {l : Launch} {D : va_G} {cI cZ cL : ClassId} {g : Nat → Nat} {sl mi n : Nat} {X : Nat → Nat → Int32} {cy ss ds fs : Nat} (hn : n ≤ 16) : KR l yX2_countCold (.code yX2_countCold cX2_countCold 3 (some .int)) 0 D (tyz cI cZ cL) [.ref (g 1)] (cw g cI cZ sl mi n X cy ss ds fs) (fun r => r = nI (nCo (X 5) (n + 1))) := by
  refine KR.of (own := RX2) (lvs := [(0, .ref (g 1))]) (by decide) rfl (Nat.le_of_ble_eq_true rfl) rfl ?_
  intro p e s m args below meth c Q C hK hN hP hD ret ls hl
  obtain ⟨hx, hb, hml, hown, hts, hr9, hlk9⟩ := id C
  refine lv_iconst (v := 0) hx hb dX2_countCold_0 (by decide) ?_
  refine lv_istore_n (lv' := [(1, .int 0), (0, .ref (g 1))]) hx hb dX2_countCold_1 rfl hl (by decide) rfl (fun ls hl => ?_)
  refine lv_iconst (v := 1) hx hb dX2_countCold_2 (by decide) ?_
  refine lv_istore_n (lv' := [(2, .int 1), (1, .int 0), (0, .ref (g 1))]) hx hb dX2_countCold_3 rfl hl (by decide) rfl (fun ls hl => ?_)
  have L4 : ∀ (kf : Nat) (i : Nat) (f : Nat) (ls : Array Slot), (n + 1 - i < kf) → (1 ≤ i) → (i ≤ n + 1) → (f = nCo (X 5) i) → (lv_has ls 3 [(0, .ref (g 1)), (1, .int (nI f)), (2, .int (nI i))]) → W p l e (rmK 0) s m args below meth c s.heap [] 0 0 Q (F0 m 4 ls []) := by
    intro kf
    induction kf with
    | zero =>
      intro i f ls hm
      exact absurd hm (Nat.not_lt_zero _)
    | succ kf ih4 =>
      intro i f ls hm h1 h2 h3 hl
      refine lv_iload_n hx hb dX2_countCold_4 rfl (lv_at hl 2 rfl) ?_
      refine lv_aload_n hx hb dX2_countCold_5 rfl (lv_at hl 0 rfl) ?_
      refine va_get (D := D) (ci := 4) (v := .int (nI n)) (C := RX2) (T := TX2) (N := 12) hx hb hts inX2 hown hK hP 1 rfl rfl 0 (by decide) (hts _ wF_X2_7) (fun _ h9 => h9) rfl dX2_countCold_6 ?_
      refine k_icmp_gt (tgt := 30) hx hb i n rfl rfl (by omega) (by omega) dX2_countCold_9 (by decide) (fun c9 => ?_) (fun c9 => ?_)
      · skip
        refine lv_iload_n hx hb dX2_countCold_30 rfl (lv_at hl 1 rfl) ?_
        exact ret _ _ _ dX2_countCold_31 (by rw [h3, show i = n + 1 by omega])
      · skip
        refine lv_aload_n hx hb dX2_countCold_12 rfl (lv_at hl 0 rfl) ?_
        refine va_get (D := D) (ci := 4) (v := .ref (g 15)) (C := RX2) (T := TX2) (N := 12) hx hb hts inX2 hown hK hP 1 rfl rfl 5 (by decide) (hts _ wF_X2_26) (fun _ h9 => h9) rfl dX2_countCold_13 ?_
        refine lv_iload_n hx hb dX2_countCold_16 rfl (lv_at hl 2 rfl) ?_
        refine k_zald (D := D) (f := X 5) hx hb hK hP 9 1 rfl rfl i rfl (by omega) (by omega) dX2_countCold_17 ?_
        refine lv_if_eq (tgt := 24) hx hb dX2_countCold_18 (by decide) (fun c18 => ?_) (fun c18 => ?_)
        · skip
          refine k_iinc (k := 2) (lv' := [(2, .int (nI (i + 1))), (0, .ref (g 1)), (1, .int (nI f))]) hx hb i rfl dX2_countCold_24 hl rfl (by decide) rfl (fun ls hl => ?_)
          refine lv_goto (tgt := 4) hx hb dX2_countCold_27 (by decide) ?_
          exact ih4 (i + 1) f _ (by omega) (by omega) (by omega) (by subst h3; first | exact (cnt_t h1 (decide_eq_true c18)).symm | exact (cnt_f (decide_eq_false (fun z => z c18))).symm) (lv_sub hl [1, 2, 0] rfl)
        · skip
          refine k_iinc (k := 1) (lv' := [(1, .int (nI (f + 1))), (0, .ref (g 1)), (2, .int (nI i))]) hx hb f rfl dX2_countCold_21 hl rfl (by decide) rfl (fun ls hl => ?_)
          refine k_iinc (k := 2) (lv' := [(2, .int (nI (i + 1))), (1, .int (nI (f + 1))), (0, .ref (g 1))]) hx hb i rfl dX2_countCold_24 hl rfl (by decide) rfl (fun ls hl => ?_)
          refine lv_goto (tgt := 4) hx hb dX2_countCold_27 (by decide) ?_
          exact ih4 (i + 1) (f + 1) _ (by omega) (by omega) (by omega) (by subst h3; first | exact (cnt_t h1 (decide_eq_true c18)).symm | exact (cnt_f (decide_eq_false (fun z => z c18))).symm) (lv_sub hl [2, 1, 0] rfl)
  exact L4 ((n + 1 - 1) + 1) 1 0 _ (Nat.lt_succ_self _) (Nat.le_refl 1) (by omega) (cnt_1 _).symm (lv_sub hl [2, 1, 0] rfl)
set_option maxHeartbeats 4000000 in
set_option maxRecDepth 100000 in
theorem c_X2_isStarter {l : Launch} {D : va_G} {cI cZ cL : ClassId} {g : Nat → Nat} {sl mi n : Nat} {X : Nat → Nat → Int32} {cy ss ds fs : Nat} (hn : n ≤ 16) (j : Nat) (hj : j ≤ n) : KR l yX2_isStarter (.code yX2_isStarter cX2_isStarter 2 (some .boolean)) 0 D (tyz cI cZ cL) [.ref (g 1), .int (nI j)] (cw g cI cZ sl mi n X cy ss ds fs) (fun r => r = if isSt (X 1) (X 5) j then 1 else 0) := by
  refine KR.ofz (own := RX2) (lvs := [(0, .ref (g 1)), (1, .int (nI j))]) (by decide) rfl (Nat.le_of_ble_eq_true rfl) rfl ?_
  intro p e s m args below meth c Q C hK hN hP hD ret ls hl
  obtain ⟨hx, hb, hml, hown, hts, hr9, hlk9⟩ := id C
  refine lv_aload_n hx hb dX2_isStarter_0 rfl (lv_at hl 0 rfl) ?_
  refine va_get (D := D) (ci := 4) (v := .ref (g 15)) (C := RX2) (T := TX2) (N := 12) hx hb hts inX2 hown hK hP 1 rfl rfl 5 (by decide) (hts _ wF_X2_26) (fun _ h9 => h9) rfl dX2_isStarter_1 ?_
  refine lv_iload_n hx hb dX2_isStarter_4 rfl (lv_at hl 1 rfl) ?_
  refine k_zald (D := D) (f := X 5) hx hb hK hP 9 1 rfl rfl j rfl (by omega) (by omega) dX2_isStarter_5 ?_
  refine lv_if_eq (tgt := 32) hx hb dX2_isStarter_6 (by decide) (fun c6 => ?_) (fun c6 => ?_)
  · skip
    refine lv_iconst (v := 0) hx hb dX2_isStarter_32 (by decide) ?_
    exact ret _ _ _ dX2_isStarter_33 (Or.inl rfl) (by first | exact ite_n (fun h : isSt (X 1) (X 5) j => h.1 c6) | exact ite_n (fun h : isSt (X 1) (X 5) j => h.2.elim c15 c25))
  · skip
    refine lv_aload_n hx hb dX2_isStarter_9 rfl (lv_at hl 0 rfl) ?_
    refine va_get (D := D) (ci := 4) (v := .ref (g 11)) (C := RX2) (T := TX2) (N := 12) hx hb hts inX2 hown hK hP 1 rfl rfl 1 (by decide) (hts _ wF_X2_13) (fun _ h9 => h9) rfl dX2_isStarter_10 ?_
    refine lv_iload_n hx hb dX2_isStarter_13 rfl (lv_at hl 1 rfl) ?_
    refine k_iald (D := D) (f := X 1) hx hb hK hP 5 0 rfl rfl j rfl (by omega) (by omega) dX2_isStarter_14 ?_
    refine lv_if_eq (tgt := 28) hx hb dX2_isStarter_15 (by decide) (fun c15 => ?_) (fun c15 => ?_)
    · skip
      refine lv_iconst (v := 1) hx hb dX2_isStarter_28 (by decide) ?_
      refine lv_goto (tgt := 33) hx hb dX2_isStarter_29 (by decide) ?_
      exact ret _ _ _ dX2_isStarter_33 (Or.inr rfl) (by first | exact ite_p (⟨c6, Or.inl c15⟩ : isSt (X 1) (X 5) j) | exact ite_p (⟨c6, Or.inr c25⟩ : isSt (X 1) (X 5) j))
    · skip
      refine lv_aload_n hx hb dX2_isStarter_18 rfl (lv_at hl 0 rfl) ?_
      refine va_get (D := D) (ci := 4) (v := .ref (g 11)) (C := RX2) (T := TX2) (N := 12) hx hb hts inX2 hown hK hP 1 rfl rfl 1 (by decide) (hts _ wF_X2_13) (fun _ h9 => h9) rfl dX2_isStarter_19 ?_
      refine lv_iload_n hx hb dX2_isStarter_22 rfl (lv_at hl 1 rfl) ?_
      refine k_iald (D := D) (f := X 1) hx hb hK hP 5 0 rfl rfl j rfl (by omega) (by omega) dX2_isStarter_23 ?_
      refine lv_iconst (v := 1) hx hb dX2_isStarter_24 (by decide) ?_
      refine lv_icmp_ne (tgt := 32) hx hb dX2_isStarter_25 (by decide) (fun c25 => ?_) (fun c25 => ?_)
      · skip
        refine lv_iconst (v := 0) hx hb dX2_isStarter_32 (by decide) ?_
        exact ret _ _ _ dX2_isStarter_33 (Or.inl rfl) (by first | exact ite_n (fun h : isSt (X 1) (X 5) j => h.1 c6) | exact ite_n (fun h : isSt (X 1) (X 5) j => h.2.elim c15 c25))
      · skip
        refine lv_iconst (v := 1) hx hb dX2_isStarter_28 (by decide) ?_
        refine lv_goto (tgt := 33) hx hb dX2_isStarter_29 (by decide) ?_
        exact ret _ _ _ dX2_isStarter_33 (Or.inr rfl) (by first | exact ite_p (⟨c6, Or.inl c15⟩ : isSt (X 1) (X 5) j) | exact ite_p (⟨c6, Or.inr c25⟩ : isSt (X 1) (X 5) j))
set_option maxHeartbeats 4000000 in
set_option maxRecDepth 100000 in
theorem c_X2_countStarters {l : Launch} {D : va_G} {cI cZ cL : ClassId} {g : Nat → Nat} {sl mi n : Nat} {X : Nat → Nat → Int32} {cy ss ds fs : Nat} (hn : n ≤ 16) : KR l yX2_countStarters (.code yX2_countStarters cX2_countStarters 3 (some .int)) 1 D (tyz cI cZ cL) [.ref (g 1)] (cw g cI cZ sl mi n X cy ss ds fs) (fun r => r = nI (nSt (X 1) (X 5) (n + 1))) := by
  refine KR.of (own := RX2) (lvs := [(0, .ref (g 1))]) (by decide) rfl (Nat.le_of_ble_eq_true rfl) rfl ?_
  intro p e s m args below meth c Q C hK hN hP hD ret ls hl
  obtain ⟨hx, hb, hml, hown, hts, hr9, hlk9⟩ := id C
  refine lv_iconst (v := 0) hx hb dX2_countStarters_0 (by decide) ?_
  refine lv_istore_n (lv' := [(1, .int 0), (0, .ref (g 1))]) hx hb dX2_countStarters_1 rfl hl (by decide) rfl (fun ls hl => ?_)
  refine lv_iconst (v := 1) hx hb dX2_countStarters_2 (by decide) ?_
  refine lv_istore_n (lv' := [(2, .int 1), (1, .int 0), (0, .ref (g 1))]) hx hb dX2_countStarters_3 rfl hl (by decide) rfl (fun ls hl => ?_)
  have L4 : ∀ (kf : Nat) (i : Nat) (f : Nat) (ls : Array Slot), (n + 1 - i < kf) → (1 ≤ i) → (i ≤ n + 1) → (f = nSt (X 1) (X 5) i) → (lv_has ls 3 [(0, .ref (g 1)), (1, .int (nI f)), (2, .int (nI i))]) → W p l e (rmK 1) s m args below meth c s.heap [] 0 0 Q (F0 m 4 ls []) := by
    intro kf
    induction kf with
    | zero =>
      intro i f ls hm
      exact absurd hm (Nat.not_lt_zero _)
    | succ kf ih4 =>
      intro i f ls hm h1 h2 h3 hl
      refine lv_iload_n hx hb dX2_countStarters_4 rfl (lv_at hl 2 rfl) ?_
      refine lv_aload_n hx hb dX2_countStarters_5 rfl (lv_at hl 0 rfl) ?_
      refine va_get (D := D) (ci := 4) (v := .int (nI n)) (C := RX2) (T := TX2) (N := 12) hx hb hts inX2 hown hK hP 1 rfl rfl 0 (by decide) (hts _ wF_X2_7) (fun _ h9 => h9) rfl dX2_countStarters_6 ?_
      refine k_icmp_gt (tgt := 29) hx hb i n rfl rfl (by omega) (by omega) dX2_countStarters_9 (by decide) (fun c9 => ?_) (fun c9 => ?_)
      · skip
        refine lv_iload_n hx hb dX2_countStarters_29 rfl (lv_at hl 1 rfl) ?_
        exact ret _ _ _ dX2_countStarters_30 (by rw [h3, show i = n + 1 by omega])
      · skip
        refine lv_aload_n hx hb dX2_countStarters_12 rfl (lv_at hl 0 rfl) ?_
        refine lv_iload_n hx hb dX2_countStarters_13 rfl (lv_at hl 2 rfl) ?_
        refine k_callR (D := D) C hK hN hP hD (c_X2_isStarter hn i (by omega)) hl cf_yX2_isStarter wM_X2_80 1 4 rfl rfl rfl rfl (Nat.le_of_ble_eq_true rfl) ⟨by decide, by decide⟩ ⟨Nat.zero_le _, Nat.zero_le _⟩ dX2_countStarters_14 (fun r14 hr14 => ?_)
        have hr14 : r14 = (if isSt (X 1) (X 5) i then 1 else 0) := hr14
        subst hr14
        refine k_ifeq_P (P := (isSt (X 1) (X 5) i)) (tgt := 23) hx hb rfl dX2_countStarters_17 (by decide) (fun c17 => ?_) (fun c17 => ?_)
        · skip
          refine k_iinc (k := 2) (lv' := [(2, .int (nI (i + 1))), (0, .ref (g 1)), (1, .int (nI f))]) hx hb i rfl dX2_countStarters_23 hl rfl (by decide) rfl (fun ls hl => ?_)
          refine lv_goto (tgt := 4) hx hb dX2_countStarters_26 (by decide) ?_
          exact ih4 (i + 1) f _ (by omega) (by omega) (by omega) (by subst h3; first | exact (cnt_t h1 (decide_eq_true c17)).symm | exact (cnt_f (decide_eq_false c17)).symm) (lv_sub hl [1, 2, 0] rfl)
        · skip
          refine k_iinc (k := 1) (lv' := [(1, .int (nI (f + 1))), (0, .ref (g 1)), (2, .int (nI i))]) hx hb f rfl dX2_countStarters_20 hl rfl (by decide) rfl (fun ls hl => ?_)
          refine k_iinc (k := 2) (lv' := [(2, .int (nI (i + 1))), (1, .int (nI (f + 1))), (0, .ref (g 1))]) hx hb i rfl dX2_countStarters_23 hl rfl (by decide) rfl (fun ls hl => ?_)
          refine lv_goto (tgt := 4) hx hb dX2_countStarters_26 (by decide) ?_
          exact ih4 (i + 1) (f + 1) _ (by omega) (by omega) (by omega) (by subst h3; first | exact (cnt_t h1 (decide_eq_true c17)).symm | exact (cnt_f (decide_eq_false c17)).symm) (lv_sub hl [2, 1, 0] rfl)
  exact L4 ((n + 1 - 1) + 1) 1 0 _ (Nat.lt_succ_self _) (Nat.le_refl 1) (by omega) (cnt_1 _).symm (lv_sub hl [2, 1, 0] rfl)
set_option maxHeartbeats 4000000 in
set_option maxRecDepth 100000 in
theorem c_X2_tellCold {l : Launch} {D : va_G} {cI cZ cL : ClassId} {g : Nat → Nat} {sl mi n : Nat} {X : Nat → Nat → Int32} {cy ss ds fs : Nat} (hn : n ≤ 16) (j : Nat) (hj : j ≤ n) (on : Int32) (ho : on = 0 ∨ on = 1) : KV l yX2_tellCold (.code yX2_tellCold cX2_tellCold 3 none) 0 D (tyz cI cZ cL) [.ref (g 1), .int (nI j), .int on] (cw g cI cZ sl mi n X cy ss ds fs) (fun u => u = if on ≠ 0 ∧ (X 1 j = 3 ∨ X 1 j = 4) then sX (sX (sX (sX X 5 j on) 1 j 0) 2 j 0) 4 j 0 else sX X 5 j on) (fun u : Nat → Nat → Int32 => cw g cI cZ sl mi n u cy ss ds fs) := by
  refine KN.of (own := RX2) (lvs := [(0, .ref (g 1)), (1, .int (nI j)), (2, .int on)]) (by decide) rfl (Nat.le_of_ble_eq_true rfl) rfl ?_
  intro p e s m args below meth c Q C hK hN A hA hP hD hS hin ret ls hl
  obtain ⟨hx, hb, hml, hown, hts, hr9, hlk9⟩ := id C
  refine lv_aload_n hx hb dX2_tellCold_0 rfl (lv_at hl 0 rfl) ?_
  refine va_get (D := D) (ci := 4) (v := .ref (g 15)) (C := RX2) (T := TX2) (N := 12) hx hb hts inX2 hown hK hP 1 rfl rfl 5 (by decide) (hts _ wF_X2_26) (fun _ h9 => h9) rfl dX2_tellCold_1 ?_
  refine lv_iload_n hx hb dX2_tellCold_4 rfl (lv_at hl 1 rfl) ?_
  refine lv_iload_n hx hb dX2_tellCold_5 rfl (lv_at hl 2 rfl) ?_
  refine k_zast (D := D) (f := X 5) (ws' := cw g cI cZ sl mi n (sX X 5 j on) cy ss ds fs) hx hb hK hP hD hS 9 1 rfl rfl j rfl (by omega) (by omega) (by rcases ho with rfl | rfl <;> rfl) rfl dX2_tellCold_6 (fun H locs hP hD hS => ?_)
  refine lv_iload_n hx hb dX2_tellCold_7 rfl (lv_at hl 2 rfl) ?_
  refine lv_if_eq (tgt := 52) hx hb dX2_tellCold_8 (by decide) (fun c8 => ?_) (fun c8 => ?_)
  · skip
    exact ret (sX X 5 j on) _ _ _ _ dX2_tellCold_52 hP hD hS (by first | exact ite_n (fun h => h.1 c8) | exact ite_n (fun h => h.2.elim c18 c28) | exact ite_p ⟨c8, Or.inl c18⟩ | exact ite_p ⟨c8, Or.inr c28⟩)
  · skip
    refine lv_aload_n hx hb dX2_tellCold_11 rfl (lv_at hl 0 rfl) ?_
    refine va_get (D := D) (ci := 4) (v := .ref (g 11)) (C := RX2) (T := TX2) (N := 12) hx hb hts inX2 hown hK hP 1 rfl rfl 1 (by decide) (hts _ wF_X2_13) (fun _ h9 => h9) rfl dX2_tellCold_12 ?_
    refine lv_iload_n hx hb dX2_tellCold_15 rfl (lv_at hl 1 rfl) ?_
    refine k_iald (D := D) (f := X 1) hx hb hK hP 5 0 rfl rfl j rfl (by omega) (by omega) dX2_tellCold_16 ?_
    refine lv_iconst (v := 3) hx hb dX2_tellCold_17 (by decide) ?_
    refine lv_icmp_eq (tgt := 31) hx hb dX2_tellCold_18 (by decide) (fun c18 => ?_) (fun c18 => ?_)
    · skip
      refine lv_aload_n hx hb dX2_tellCold_31 rfl (lv_at hl 0 rfl) ?_
      refine va_get (D := D) (ci := 4) (v := .ref (g 11)) (C := RX2) (T := TX2) (N := 12) hx hb hts inX2 hown hK hP 1 rfl rfl 1 (by decide) (hts _ wF_X2_13) (fun _ h9 => h9) rfl dX2_tellCold_32 ?_
      refine lv_iload_n hx hb dX2_tellCold_35 rfl (lv_at hl 1 rfl) ?_
      refine lv_iconst (v := 0) hx hb dX2_tellCold_36 (by decide) ?_
      refine k_iast (D := D) (f := X 1) (ws' := cw g cI cZ sl mi n (sX (sX X 5 j on) 1 j 0) cy ss ds fs) hx hb hK hP hD hS 5 0 rfl rfl j rfl (by omega) (by omega) rfl dX2_tellCold_37 (fun H locs hP hD hS => ?_)
      refine lv_aload_n hx hb dX2_tellCold_38 rfl (lv_at hl 0 rfl) ?_
      refine va_get (D := D) (ci := 4) (v := .ref (g 12)) (C := RX2) (T := TX2) (N := 12) hx hb hts inX2 hown hK hP 1 rfl rfl 2 (by decide) (hts _ wF_X2_17) (fun _ h9 => h9) rfl dX2_tellCold_39 ?_
      refine lv_iload_n hx hb dX2_tellCold_42 rfl (lv_at hl 1 rfl) ?_
      refine lv_iconst (v := 0) hx hb dX2_tellCold_43 (by decide) ?_
      refine k_iast (D := D) (f := X 2) (ws' := cw g cI cZ sl mi n (sX (sX (sX X 5 j on) 1 j 0) 2 j 0) cy ss ds fs) hx hb hK hP hD hS 6 0 rfl rfl j rfl (by omega) (by omega) rfl dX2_tellCold_44 (fun H locs hP hD hS => ?_)
      refine lv_aload_n hx hb dX2_tellCold_45 rfl (lv_at hl 0 rfl) ?_
      refine va_get (D := D) (ci := 4) (v := .ref (g 14)) (C := RX2) (T := TX2) (N := 12) hx hb hts inX2 hown hK hP 1 rfl rfl 4 (by decide) (hts _ wF_X2_23) (fun _ h9 => h9) rfl dX2_tellCold_46 ?_
      refine lv_iload_n hx hb dX2_tellCold_49 rfl (lv_at hl 1 rfl) ?_
      refine lv_iconst (v := 0) hx hb dX2_tellCold_50 (by decide) ?_
      refine k_iast (D := D) (f := X 4) (ws' := cw g cI cZ sl mi n (sX (sX (sX (sX X 5 j on) 1 j 0) 2 j 0) 4 j 0) cy ss ds fs) hx hb hK hP hD hS 8 0 rfl rfl j rfl (by omega) (by omega) rfl dX2_tellCold_51 (fun H locs hP hD hS => ?_)
      exact ret (sX (sX (sX (sX X 5 j on) 1 j 0) 2 j 0) 4 j 0) _ _ _ _ dX2_tellCold_52 hP hD hS (by first | exact ite_n (fun h => h.1 c8) | exact ite_n (fun h => h.2.elim c18 c28) | exact ite_p ⟨c8, Or.inl c18⟩ | exact ite_p ⟨c8, Or.inr c28⟩)
    · skip
      refine lv_aload_n hx hb dX2_tellCold_21 rfl (lv_at hl 0 rfl) ?_
      refine va_get (D := D) (ci := 4) (v := .ref (g 11)) (C := RX2) (T := TX2) (N := 12) hx hb hts inX2 hown hK hP 1 rfl rfl 1 (by decide) (hts _ wF_X2_13) (fun _ h9 => h9) rfl dX2_tellCold_22 ?_
      refine lv_iload_n hx hb dX2_tellCold_25 rfl (lv_at hl 1 rfl) ?_
      refine k_iald (D := D) (f := X 1) hx hb hK hP 5 0 rfl rfl j rfl (by omega) (by omega) dX2_tellCold_26 ?_
      refine lv_iconst (v := 4) hx hb dX2_tellCold_27 (by decide) ?_
      refine lv_icmp_ne (tgt := 52) hx hb dX2_tellCold_28 (by decide) (fun c28 => ?_) (fun c28 => ?_)
      · skip
        exact ret (sX X 5 j on) _ _ _ _ dX2_tellCold_52 hP hD hS (by first | exact ite_n (fun h => h.1 c8) | exact ite_n (fun h => h.2.elim c18 c28) | exact ite_p ⟨c8, Or.inl c18⟩ | exact ite_p ⟨c8, Or.inr c28⟩)
      · skip
        refine lv_aload_n hx hb dX2_tellCold_31 rfl (lv_at hl 0 rfl) ?_
        refine va_get (D := D) (ci := 4) (v := .ref (g 11)) (C := RX2) (T := TX2) (N := 12) hx hb hts inX2 hown hK hP 1 rfl rfl 1 (by decide) (hts _ wF_X2_13) (fun _ h9 => h9) rfl dX2_tellCold_32 ?_
        refine lv_iload_n hx hb dX2_tellCold_35 rfl (lv_at hl 1 rfl) ?_
        refine lv_iconst (v := 0) hx hb dX2_tellCold_36 (by decide) ?_
        refine k_iast (D := D) (f := X 1) (ws' := cw g cI cZ sl mi n (sX (sX X 5 j on) 1 j 0) cy ss ds fs) hx hb hK hP hD hS 5 0 rfl rfl j rfl (by omega) (by omega) rfl dX2_tellCold_37 (fun H locs hP hD hS => ?_)
        refine lv_aload_n hx hb dX2_tellCold_38 rfl (lv_at hl 0 rfl) ?_
        refine va_get (D := D) (ci := 4) (v := .ref (g 12)) (C := RX2) (T := TX2) (N := 12) hx hb hts inX2 hown hK hP 1 rfl rfl 2 (by decide) (hts _ wF_X2_17) (fun _ h9 => h9) rfl dX2_tellCold_39 ?_
        refine lv_iload_n hx hb dX2_tellCold_42 rfl (lv_at hl 1 rfl) ?_
        refine lv_iconst (v := 0) hx hb dX2_tellCold_43 (by decide) ?_
        refine k_iast (D := D) (f := X 2) (ws' := cw g cI cZ sl mi n (sX (sX (sX X 5 j on) 1 j 0) 2 j 0) cy ss ds fs) hx hb hK hP hD hS 6 0 rfl rfl j rfl (by omega) (by omega) rfl dX2_tellCold_44 (fun H locs hP hD hS => ?_)
        refine lv_aload_n hx hb dX2_tellCold_45 rfl (lv_at hl 0 rfl) ?_
        refine va_get (D := D) (ci := 4) (v := .ref (g 14)) (C := RX2) (T := TX2) (N := 12) hx hb hts inX2 hown hK hP 1 rfl rfl 4 (by decide) (hts _ wF_X2_23) (fun _ h9 => h9) rfl dX2_tellCold_46 ?_
        refine lv_iload_n hx hb dX2_tellCold_49 rfl (lv_at hl 1 rfl) ?_
        refine lv_iconst (v := 0) hx hb dX2_tellCold_50 (by decide) ?_
        refine k_iast (D := D) (f := X 4) (ws' := cw g cI cZ sl mi n (sX (sX (sX (sX X 5 j on) 1 j 0) 2 j 0) 4 j 0) cy ss ds fs) hx hb hK hP hD hS 8 0 rfl rfl j rfl (by omega) (by omega) rfl dX2_tellCold_51 (fun H locs hP hD hS => ?_)
        exact ret (sX (sX (sX (sX X 5 j on) 1 j 0) 2 j 0) 4 j 0) _ _ _ _ dX2_tellCold_52 hP hD hS (by first | exact ite_n (fun h => h.1 c8) | exact ite_n (fun h => h.2.elim c18 c28) | exact ite_p ⟨c8, Or.inl c18⟩ | exact ite_p ⟨c8, Or.inr c28⟩)
set_option maxHeartbeats 4000000 in
set_option maxRecDepth 100000 in
theorem c_X2_forgetHeard {l : Launch} {D : va_G} {cI cZ cL : ClassId} {g : Nat → Nat} {sl mi n : Nat} {X : Nat → Nat → Int32} {cy ss ds fs : Nat} (hn : n ≤ 16) : KV l yX2_forgetHeard (.code yX2_forgetHeard cX2_forgetHeard 2 none) 0 D (tyz cI cZ cL) [.ref (g 1)] (cw g cI cZ sl mi n X cy ss ds fs) (fun u => (∀ j, 1 ≤ j → j ≤ n → u 7 j = 0) ∧ ∀ a, a ≠ 7 → u a = X a) (fun u : Nat → Nat → Int32 => cw g cI cZ sl mi n u cy ss ds fs) := by
  refine KN.of (own := RX2) (lvs := [(0, .ref (g 1))]) (by decide) rfl (Nat.le_of_ble_eq_true rfl) rfl ?_
  intro p e s m args below meth c Q C hK hN A hA hP hD hS hin ret ls hl
  obtain ⟨hx, hb, hml, hown, hts, hr9, hlk9⟩ := id C
  refine lv_iconst (v := 1) hx hb dX2_forgetHeard_0 (by decide) ?_
  refine lv_istore_n (lv' := [(1, .int 1), (0, .ref (g 1))]) hx hb dX2_forgetHeard_1 rfl hl (by decide) rfl (fun ls hl => ?_)
  have L2 : ∀ (kf : Nat) (i : Nat) (X' : Nat → Nat → Int32) (H : Heap) (locs : List Loc) (ls : Array Slot), (n + 1 - i < kf) → (1 ≤ i) → (i ≤ n + 1) → (∀ j, 1 ≤ j → j < i → X' 7 j = 0) → (∀ a, a ≠ 7 → X' a = X a) → (va_P D vwCl (cw g cI cZ sl mi n X' cy ss ds fs) H) → (va_D A (cw g cI cZ sl mi n X' cy ss ds fs)) → (va_S A s.heap H locs) → (lv_has ls 2 [(0, .ref (g 1)), (1, .int (nI i))]) → W p l e (rmK 0) s m args below meth c H locs 0 0 Q (F0 m 2 ls []) := by
    intro kf
    induction kf with
    | zero =>
      intro i X' H locs ls hm
      exact absurd hm (Nat.not_lt_zero _)
    | succ kf ih2 =>
      intro i X' H locs ls hm h1 h2 h3 h5 hP hD hS hl
      refine lv_iload_n hx hb dX2_forgetHeard_2 rfl (lv_at hl 1 rfl) ?_
      refine lv_aload_n hx hb dX2_forgetHeard_3 rfl (lv_at hl 0 rfl) ?_
      refine va_get (D := D) (ci := 4) (v := .int (nI n)) (C := RX2) (T := TX2) (N := 12) hx hb hts inX2 hown hK hP 1 rfl rfl 0 (by decide) (hts _ wF_X2_7) (fun _ h9 => h9) rfl dX2_forgetHeard_4 ?_
      refine k_icmp_gt (tgt := 23) hx hb i n rfl rfl (by omega) (by omega) dX2_forgetHeard_7 (by decide) (fun c7 => ?_) (fun c7 => ?_)
      · skip
        exact ret X' _ _ _ _ dX2_forgetHeard_23 hP hD hS ⟨fun j a b => h3 j a (by omega), h5⟩
      · skip
        refine lv_aload_n hx hb dX2_forgetHeard_10 rfl (lv_at hl 0 rfl) ?_
        refine va_get (D := D) (ci := 4) (v := .ref (g 17)) (C := RX2) (T := TX2) (N := 12) hx hb hts inX2 hown hK hP 1 rfl rfl 7 (by decide) (hts _ wF_X2_33) (fun _ h9 => h9) rfl dX2_forgetHeard_11 ?_
        refine lv_iload_n hx hb dX2_forgetHeard_14 rfl (lv_at hl 1 rfl) ?_
        refine lv_iconst (v := 0) hx hb dX2_forgetHeard_15 (by decide) ?_
        refine k_zast (D := D) (f := X' 7) (ws' := cw g cI cZ sl mi n (sX X' 7 i 0) cy ss ds fs) hx hb hK hP hD hS 11 1 rfl rfl i rfl (by omega) (by omega) rfl rfl dX2_forgetHeard_16 (fun H locs hP hD hS => ?_)
        refine k_iinc (k := 1) (lv' := [(1, .int (nI (i + 1))), (0, .ref (g 1))]) hx hb i rfl dX2_forgetHeard_17 hl rfl (by decide) rfl (fun ls hl => ?_)
        refine lv_goto (tgt := 2) hx hb dX2_forgetHeard_20 (by decide) ?_
        exact ih2 (i + 1) (sX X' 7 i 0) _ _ _ (by omega) (by omega) (by omega) (by intro j a b; rw [sX_app]; grind) (fun a ha => by rw [sX_ne ha]; exact h5 a ha) hP hD hS (lv_sub hl [1, 0] rfl)
  exact L2 ((n + 1 - 1) + 1) 1 X _ _ _ (Nat.lt_succ_self _) (Nat.le_refl 1) (by omega) (fun j a b => absurd b (by omega)) (fun _ _ => rfl) hP hD hS (lv_sub hl [1, 0] rfl)
set_option maxHeartbeats 4000000 in
set_option maxRecDepth 100000 in
theorem c_X2_startCold {l : Launch} {D : va_G} {cI cZ cL : ClassId} {g : Nat → Nat} {sl mi n : Nat} {X : Nat → Nat → Int32} {cy ss ds fs : Nat} (hn : n ≤ 16) : KV l yX2_startCold (.code yX2_startCold cX2_startCold 2 none) 1 D (tyz cI cZ cL) [.ref (g 1)] (cw g cI cZ sl mi n X cy ss ds fs) (fun u => (∀ j, 1 ≤ j → j ≤ n → u 1 j = if isSt (X 1) (X 5) j then 2 else X 1 j) ∧ ∀ a, a ≠ 1 → u a = X a) (fun u : Nat → Nat → Int32 => cw g cI cZ sl mi n u cy ss ds fs) := by
  refine KN.of (own := RX2) (lvs := [(0, .ref (g 1))]) (by decide) rfl (Nat.le_of_ble_eq_true rfl) rfl ?_
  intro p e s m args below meth c Q C hK hN A hA hP hD hS hin ret ls hl
  obtain ⟨hx, hb, hml, hown, hts, hr9, hlk9⟩ := id C
  refine lv_iconst (v := 1) hx hb dX2_startCold_0 (by decide) ?_
  refine lv_istore_n (lv' := [(1, .int 1), (0, .ref (g 1))]) hx hb dX2_startCold_1 rfl hl (by decide) rfl (fun ls hl => ?_)
  have L2 : ∀ (kf : Nat) (i : Nat) (X' : Nat → Nat → Int32) (H : Heap) (locs : List Loc) (ls : Array Slot), (n + 1 - i < kf) → (1 ≤ i) → (i ≤ n + 1) → (∀ j, 1 ≤ j → j < i → X' 1 j = if isSt (X 1) (X 5) j then 2 else X 1 j) → (∀ j, i ≤ j → X' 1 j = X 1 j) → (∀ a, a ≠ 1 → X' a = X a) → (va_P D vwCl (cw g cI cZ sl mi n X' cy ss ds fs) H) → (va_D A (cw g cI cZ sl mi n X' cy ss ds fs)) → (va_S A s.heap H locs) → (lv_has ls 2 [(0, .ref (g 1)), (1, .int (nI i))]) → W p l e (rmK 1) s m args below meth c H locs 0 0 Q (F0 m 2 ls []) := by
    intro kf
    induction kf with
    | zero =>
      intro i X' H locs ls hm
      exact absurd hm (Nat.not_lt_zero _)
    | succ kf ih2 =>
      intro i X' H locs ls hm h1 h2 h3 h4 h5 hP hD hS hl
      refine lv_iload_n hx hb dX2_startCold_2 rfl (lv_at hl 1 rfl) ?_
      refine lv_aload_n hx hb dX2_startCold_3 rfl (lv_at hl 0 rfl) ?_
      refine va_get (D := D) (ci := 4) (v := .int (nI n)) (C := RX2) (T := TX2) (N := 12) hx hb hts inX2 hown hK hP 1 rfl rfl 0 (by decide) (hts _ wF_X2_7) (fun _ h9 => h9) rfl dX2_startCold_4 ?_
      refine k_icmp_gt (tgt := 31) hx hb i n rfl rfl (by omega) (by omega) dX2_startCold_7 (by decide) (fun c7 => ?_) (fun c7 => ?_)
      · skip
        exact ret X' _ _ _ _ dX2_startCold_31 hP hD hS ⟨fun j a b => h3 j a (by omega), h5⟩
      · skip
        refine lv_aload_n hx hb dX2_startCold_10 rfl (lv_at hl 0 rfl) ?_
        refine lv_iload_n hx hb dX2_startCold_11 rfl (lv_at hl 1 rfl) ?_
        refine k_callR (D := D) C hK hN hP hD (c_X2_isStarter hn i (by omega)) hl cf_yX2_isStarter wM_X2_80 1 4 rfl rfl rfl rfl (Nat.le_of_ble_eq_true rfl) ⟨by decide, by decide⟩ ⟨Nat.zero_le _, Nat.zero_le _⟩ dX2_startCold_12 (fun r12 hr12 => ?_)
        have hr12 : r12 = (if isSt (X' 1) (X' 5) i then 1 else 0) := hr12
        subst hr12
        refine k_ifeq_P (P := (isSt (X' 1) (X' 5) i)) (tgt := 25) hx hb rfl dX2_startCold_15 (by decide) (fun c15 => ?_) (fun c15 => ?_)
        · skip
          have hs : ¬ isSt (X 1) (X 5) i := by rw [← h5 5 (by decide)]; exact fun z => c15 ⟨z.1, by rw [h4 i (Nat.le_refl i)]; exact z.2⟩
          refine k_iinc (k := 1) (lv' := [(1, .int (nI (i + 1))), (0, .ref (g 1))]) hx hb i rfl dX2_startCold_25 hl rfl (by decide) rfl (fun ls hl => ?_)
          refine lv_goto (tgt := 2) hx hb dX2_startCold_28 (by decide) ?_
          exact ih2 (i + 1) X' _ _ _ (by omega) (by omega) (by omega) (by intro j a b; (try rw [sX_app]); grind) (by intro j a; (try rw [sX_app]); grind) (by first | exact h5 | exact fun a ha => by rw [sX_ne ha]; exact h5 a ha) hP hD hS (lv_sub hl [1, 0] rfl)
        · skip
          have hs : isSt (X 1) (X 5) i := by rw [← h5 5 (by decide)]; exact ⟨c15.1, by rw [← h4 i (Nat.le_refl i)]; exact c15.2⟩
          refine lv_aload_n hx hb dX2_startCold_18 rfl (lv_at hl 0 rfl) ?_
          refine va_get (D := D) (ci := 4) (v := .ref (g 11)) (C := RX2) (T := TX2) (N := 12) hx hb hts inX2 hown hK hP 1 rfl rfl 1 (by decide) (hts _ wF_X2_13) (fun _ h9 => h9) rfl dX2_startCold_19 ?_
          refine lv_iload_n hx hb dX2_startCold_22 rfl (lv_at hl 1 rfl) ?_
          refine lv_iconst (v := 2) hx hb dX2_startCold_23 (by decide) ?_
          refine k_iast (D := D) (f := X' 1) (ws' := cw g cI cZ sl mi n (sX X' 1 i 2) cy ss ds fs) hx hb hK hP hD hS 5 0 rfl rfl i rfl (by omega) (by omega) rfl dX2_startCold_24 (fun H locs hP hD hS => ?_)
          refine k_iinc (k := 1) (lv' := [(1, .int (nI (i + 1))), (0, .ref (g 1))]) hx hb i rfl dX2_startCold_25 hl rfl (by decide) rfl (fun ls hl => ?_)
          refine lv_goto (tgt := 2) hx hb dX2_startCold_28 (by decide) ?_
          exact ih2 (i + 1) (sX X' 1 i 2) _ _ _ (by omega) (by omega) (by omega) (by intro j a b; (try rw [sX_app]); grind) (by intro j a; (try rw [sX_app]); grind) (by first | exact h5 | exact fun a ha => by rw [sX_ne ha]; exact h5 a ha) hP hD hS (lv_sub hl [1, 0] rfl)
  exact L2 ((n + 1 - 1) + 1) 1 X _ _ _ (Nat.lt_succ_self _) (Nat.le_refl 1) (by omega) (fun j a b => absurd b (by omega)) (fun _ _ => rfl) (fun _ _ => rfl) hP hD hS (lv_sub hl [1, 0] rfl)
set_option maxHeartbeats 4000000 in
set_option maxRecDepth 100000 in
theorem c_X2_listen {l : Launch} {D : va_G} {cI cZ cL : ClassId} {g : Nat → Nat} {sl mi n : Nat} {X : Nat → Nat → Int32} {cy ss ds fs : Nat} (hn : n ≤ 16) (j : Nat) (hj : j ≤ n) (ld : Nat) (hld : ld ≤ n) : KV l yX2_listen (.code yX2_listen cX2_listen 3 none) 0 D (tyz cI cZ cL) [.ref (g 1), .int (nI j), .int (nI ld)] (cw g cI cZ sl mi n X cy ss ds fs) (fun u => u = if 2 ≤ X 6 j + 1 then sX (sX (sX X 6 j (X 6 j + 1)) 1 j 2) 2 j (X 2 ld) else sX X 6 j (X 6 j + 1)) (fun u : Nat → Nat → Int32 => cw g cI cZ sl mi n u cy ss ds fs) := by
  refine KN.of (own := RX2) (lvs := [(0, .ref (g 1)), (1, .int (nI j)), (2, .int (nI ld))]) (by decide) rfl (Nat.le_of_ble_eq_true rfl) rfl ?_
  intro p e s m args below meth c Q C hK hN A hA hP hD hS hin ret ls hl
  obtain ⟨hx, hb, hml, hown, hts, hr9, hlk9⟩ := id C
  refine lv_aload_n hx hb dX2_listen_0 rfl (lv_at hl 0 rfl) ?_
  refine va_get (D := D) (ci := 4) (v := .ref (g 16)) (C := RX2) (T := TX2) (N := 12) hx hb hts inX2 hown hK hP 1 rfl rfl 6 (by decide) (hts _ wF_X2_30) (fun _ h9 => h9) rfl dX2_listen_1 ?_
  refine lv_iload_n hx hb dX2_listen_4 rfl (lv_at hl 1 rfl) ?_
  refine lv_dup2_11 hx hb dX2_listen_5 rfl rfl ?_
  refine k_iald (D := D) (f := X 6) hx hb hK hP 10 0 rfl rfl j rfl (by omega) (by omega) dX2_listen_6 ?_
  refine lv_iconst (v := 1) hx hb dX2_listen_7 (by decide) ?_
  refine lv_iadd hx hb dX2_listen_8 ?_
  refine k_iast (D := D) (f := X 6) (ws' := cw g cI cZ sl mi n (sX X 6 j ((X 6 j) + 1)) cy ss ds fs) hx hb hK hP hD hS 10 0 rfl rfl j rfl (by omega) (by omega) rfl dX2_listen_9 (fun H locs hP hD hS => ?_)
  refine lv_aload_n hx hb dX2_listen_10 rfl (lv_at hl 0 rfl) ?_
  refine va_get (D := D) (ci := 4) (v := .ref (g 16)) (C := RX2) (T := TX2) (N := 12) hx hb hts inX2 hown hK hP 1 rfl rfl 6 (by decide) (hts _ wF_X2_30) (fun _ h9 => h9) rfl dX2_listen_11 ?_
  refine lv_iload_n hx hb dX2_listen_14 rfl (lv_at hl 1 rfl) ?_
  refine k_iald (D := D) (f := (sX X 6 j ((X 6 j) + 1)) 6) hx hb hK hP 10 0 rfl rfl j rfl (by omega) (by omega) dX2_listen_15 ?_
  refine k_int (y := (X 6 j + 1)) sX_at ?_
  refine lv_iconst (v := 2) hx hb dX2_listen_16 (by decide) ?_
  refine lv_icmp_lt (tgt := 39) hx hb dX2_listen_17 (by decide) (fun c17 => ?_) (fun c17 => ?_)
  · skip
    exact ret (sX X 6 j ((X 6 j) + 1)) _ _ _ _ dX2_listen_39 hP hD hS (by first | exact ite_n (i32_nlt c17) | exact ite_p (Int32.not_lt.mp c17))
  · skip
    refine lv_aload_n hx hb dX2_listen_20 rfl (lv_at hl 0 rfl) ?_
    refine va_get (D := D) (ci := 4) (v := .ref (g 11)) (C := RX2) (T := TX2) (N := 12) hx hb hts inX2 hown hK hP 1 rfl rfl 1 (by decide) (hts _ wF_X2_13) (fun _ h9 => h9) rfl dX2_listen_21 ?_
    refine lv_iload_n hx hb dX2_listen_24 rfl (lv_at hl 1 rfl) ?_
    refine lv_iconst (v := 2) hx hb dX2_listen_25 (by decide) ?_
    refine k_iast (D := D) (f := X 1) (ws' := cw g cI cZ sl mi n (sX (sX X 6 j ((X 6 j) + 1)) 1 j 2) cy ss ds fs) hx hb hK hP hD hS 5 0 rfl rfl j rfl (by omega) (by omega) rfl dX2_listen_26 (fun H locs hP hD hS => ?_)
    refine lv_aload_n hx hb dX2_listen_27 rfl (lv_at hl 0 rfl) ?_
    refine va_get (D := D) (ci := 4) (v := .ref (g 12)) (C := RX2) (T := TX2) (N := 12) hx hb hts inX2 hown hK hP 1 rfl rfl 2 (by decide) (hts _ wF_X2_17) (fun _ h9 => h9) rfl dX2_listen_28 ?_
    refine lv_iload_n hx hb dX2_listen_31 rfl (lv_at hl 1 rfl) ?_
    refine lv_aload_n hx hb dX2_listen_32 rfl (lv_at hl 0 rfl) ?_
    refine va_get (D := D) (ci := 4) (v := .ref (g 12)) (C := RX2) (T := TX2) (N := 12) hx hb hts inX2 hown hK hP 1 rfl rfl 2 (by decide) (hts _ wF_X2_17) (fun _ h9 => h9) rfl dX2_listen_33 ?_
    refine lv_iload_n hx hb dX2_listen_36 rfl (lv_at hl 2 rfl) ?_
    refine k_iald (D := D) (f := X 2) hx hb hK hP 6 0 rfl rfl ld rfl (by omega) (by omega) dX2_listen_37 ?_
    refine k_iast (D := D) (f := X 2) (ws' := cw g cI cZ sl mi n (sX (sX (sX X 6 j ((X 6 j) + 1)) 1 j 2) 2 j (X 2 ld)) cy ss ds fs) hx hb hK hP hD hS 6 0 rfl rfl j rfl (by omega) (by omega) rfl dX2_listen_38 (fun H locs hP hD hS => ?_)
    exact ret (sX (sX (sX X 6 j ((X 6 j) + 1)) 1 j 2) 2 j (X 2 ld)) _ _ _ _ dX2_listen_39 hP hD hS (by first | exact ite_n (i32_nlt c17) | exact ite_p (Int32.not_lt.mp c17))
end
section
set_option maxHeartbeats 4000000 in
set_option maxRecDepth 100000 in
theorem c_X2_integrate {l : Launch} {D : va_G} {cI cZ cL : ClassId} {g : Nat → Nat} {sl mi n : Nat} {X : Nat → Nat → Int32} {cy ss ds fs : Nat} (hn : n ≤ 16) (ld : Nat) (hl1 : 1 ≤ ld) (hld : ld ≤ n) (hla : X 1 ld = 2) : KV l yX2_integrate (.code yX2_integrate cX2_integrate 3 none) 1 D (tyz cI cZ cL) [.ref (g 1), .int (nI ld)] (cw g cI cZ sl mi n X cy ss ds fs) (fun u => (∀ j, 1 ≤ j → j ≤ n → Ig X u ld j) ∧ ∀ a, a ≠ 1 → a ≠ 2 → a ≠ 6 → u a = X a) (fun u : Nat → Nat → Int32 => cw g cI cZ sl mi n u cy ss ds fs) := by
  refine KN.of (own := RX2) (lvs := [(0, .ref (g 1)), (1, .int (nI ld))]) (by decide) rfl (Nat.le_of_ble_eq_true rfl) rfl ?_
  intro p e s m args below meth c Q C hK hN A hA hP hD hS hin ret ls hl
  obtain ⟨hx, hb, hml, hown, hts, hr9, hlk9⟩ := id C
  refine lv_iconst (v := 1) hx hb dX2_integrate_0 (by decide) ?_
  refine lv_istore_n (lv' := [(2, .int 1), (0, .ref (g 1)), (1, .int (nI ld))]) hx hb dX2_integrate_1 rfl hl (by decide) rfl (fun ls hl => ?_)
  have L2 : ∀ (kf : Nat) (i : Nat) (X' : Nat → Nat → Int32) (H : Heap) (locs : List Loc) (ls : Array Slot), (n + 1 - i < kf) → (1 ≤ i) → (i ≤ n + 1) → (∀ j, 1 ≤ j → j < i → Ig X X' ld j) → (∀ j, i ≤ j → X' 1 j = X 1 j ∧ X' 2 j = X 2 j ∧ X' 6 j = X 6 j) → (∀ a, a ≠ 1 → a ≠ 2 → a ≠ 6 → X' a = X a) → (va_P D vwCl (cw g cI cZ sl mi n X' cy ss ds fs) H) → (va_D A (cw g cI cZ sl mi n X' cy ss ds fs)) → (va_S A s.heap H locs) → (lv_has ls 3 [(0, .ref (g 1)), (1, .int (nI ld)), (2, .int (nI i))]) → W p l e (rmK 1) s m args below meth c H locs 0 0 Q (F0 m 2 ls []) := by
    intro kf
    induction kf with
    | zero =>
      intro i X' H locs ls hm
      exact absurd hm (Nat.not_lt_zero _)
    | succ kf ih2 =>
      intro i X' H locs ls hm h1 h2 h3 h4 h5 hP hD hS hl
      refine lv_iload_n hx hb dX2_integrate_2 rfl (lv_at hl 2 rfl) ?_
      refine lv_aload_n hx hb dX2_integrate_3 rfl (lv_at hl 0 rfl) ?_
      refine va_get (D := D) (ci := 4) (v := .int (nI n)) (C := RX2) (T := TX2) (N := 12) hx hb hts inX2 hown hK hP 1 rfl rfl 0 (by decide) (hts _ wF_X2_7) (fun _ h9 => h9) rfl dX2_integrate_4 ?_
      refine k_icmp_gt (tgt := 58) hx hb i n rfl rfl (by omega) (by omega) dX2_integrate_7 (by decide) (fun c7 => ?_) (fun c7 => ?_)
      · skip
        exact ret X' _ _ _ _ dX2_integrate_58 hP hD hS ⟨fun j a b => h3 j a (by omega), h5⟩
      · skip
        refine lv_aload_n hx hb dX2_integrate_10 rfl (lv_at hl 0 rfl) ?_
        refine va_get (D := D) (ci := 4) (v := .ref (g 11)) (C := RX2) (T := TX2) (N := 12) hx hb hts inX2 hown hK hP 1 rfl rfl 1 (by decide) (hts _ wF_X2_13) (fun _ h9 => h9) rfl dX2_integrate_11 ?_
        refine lv_iload_n hx hb dX2_integrate_14 rfl (lv_at hl 2 rfl) ?_
        refine k_iald (D := D) (f := X' 1) hx hb hK hP 5 0 rfl rfl i rfl (by omega) (by omega) dX2_integrate_15 ?_
        refine lv_if_ne (tgt := 36) hx hb dX2_integrate_16 (by decide) (fun c16 => ?_) (fun c16 => ?_)
        · skip
          refine lv_aload_n hx hb dX2_integrate_36 rfl (lv_at hl 0 rfl) ?_
          refine va_get (D := D) (ci := 4) (v := .ref (g 11)) (C := RX2) (T := TX2) (N := 12) hx hb hts inX2 hown hK hP 1 rfl rfl 1 (by decide) (hts _ wF_X2_13) (fun _ h9 => h9) rfl dX2_integrate_37 ?_
          refine lv_iload_n hx hb dX2_integrate_40 rfl (lv_at hl 2 rfl) ?_
          refine k_iald (D := D) (f := X' 1) hx hb hK hP 5 0 rfl rfl i rfl (by omega) (by omega) dX2_integrate_41 ?_
          refine lv_iconst (v := 1) hx hb dX2_integrate_42 (by decide) ?_
          refine lv_icmp_ne (tgt := 52) hx hb dX2_integrate_43 (by decide) (fun c43 => ?_) (fun c43 => ?_)
          · skip
            refine k_iinc (k := 2) (lv' := [(2, .int (nI (i + 1))), (0, .ref (g 1)), (1, .int (nI ld))]) hx hb i rfl dX2_integrate_52 hl rfl (by decide) rfl (fun ls hl => ?_)
            refine lv_goto (tgt := 2) hx hb dX2_integrate_55 (by decide) ?_
            exact ih2 (i + 1) X' _ _ _ (by omega) (by omega) (by omega) (by intro j a b; have hj := h3 j a; unfold Ig at hj ⊢; obtain ⟨q1, q2, q6⟩ := h4 i (Nat.le_refl i); (try subst hr49); grind [sX_app]) (by intro j a; have hj := h4 j (by omega); (try subst hr49); grind [sX_app]) (by intro a a1 a2 a6; have := h5 a a1 a2 a6; (try subst hr49); grind [sX_ne]) hP hD hS (lv_sub hl [1, 2, 0] rfl)
          · skip
            refine lv_aload_n hx hb dX2_integrate_46 rfl (lv_at hl 0 rfl) ?_
            refine lv_iload_n hx hb dX2_integrate_47 rfl (lv_at hl 2 rfl) ?_
            refine lv_iload_n hx hb dX2_integrate_48 rfl (lv_at hl 1 rfl) ?_
            refine k_callV (D := D) C hK hN hP hD hS hA (c_X2_listen hn i (by omega) ld (by omega)) hl cf_yX2_listen wM_X2_76 1 4 rfl rfl rfl rfl (Nat.le_of_ble_eq_true rfl) ⟨by decide, by decide⟩ ⟨Nat.zero_le _, Nat.zero_le _⟩ dX2_integrate_49 (fun u49 H locs hr49 hP hD hS _ _ => ?_)
            have hP : va_P D vwCl (cw g cI cZ sl mi n u49 cy ss ds fs) H := hP
            have hD : va_D A (cw g cI cZ sl mi n u49 cy ss ds fs) := hD
            have hld2 : X' 2 ld = X 2 ld := by
              rcases Nat.lt_or_ge ld i with q | q
              · have := (h3 ld hl1 q).2.2; rw [this, if_neg (fun z => absurd z.1 (by rw [hla]; decide))]
              · exact (h4 ld q).2.1
            refine k_iinc (k := 2) (lv' := [(2, .int (nI (i + 1))), (0, .ref (g 1)), (1, .int (nI ld))]) hx hb i rfl dX2_integrate_52 hl rfl (by decide) rfl (fun ls hl => ?_)
            refine lv_goto (tgt := 2) hx hb dX2_integrate_55 (by decide) ?_
            exact ih2 (i + 1) u49 _ _ _ (by omega) (by omega) (by omega) (by intro j a b; have hj := h3 j a; unfold Ig at hj ⊢; obtain ⟨q1, q2, q6⟩ := h4 i (Nat.le_refl i); (try subst hr49); grind [sX_app]) (by intro j a; have hj := h4 j (by omega); (try subst hr49); grind [sX_app]) (by intro a a1 a2 a6; have := h5 a a1 a2 a6; (try subst hr49); grind [sX_ne]) hP hD hS (lv_sub hl [1, 2, 0] rfl)
        · skip
          refine lv_aload_n hx hb dX2_integrate_19 rfl (lv_at hl 0 rfl) ?_
          refine va_get (D := D) (ci := 4) (v := .ref (g 11)) (C := RX2) (T := TX2) (N := 12) hx hb hts inX2 hown hK hP 1 rfl rfl 1 (by decide) (hts _ wF_X2_13) (fun _ h9 => h9) rfl dX2_integrate_20 ?_
          refine lv_iload_n hx hb dX2_integrate_23 rfl (lv_at hl 2 rfl) ?_
          refine lv_iconst (v := 1) hx hb dX2_integrate_24 (by decide) ?_
          refine k_iast (D := D) (f := X' 1) (ws' := cw g cI cZ sl mi n (sX X' 1 i 1) cy ss ds fs) hx hb hK hP hD hS 5 0 rfl rfl i rfl (by omega) (by omega) rfl dX2_integrate_25 (fun H locs hP hD hS => ?_)
          refine lv_aload_n hx hb dX2_integrate_26 rfl (lv_at hl 0 rfl) ?_
          refine va_get (D := D) (ci := 4) (v := .ref (g 16)) (C := RX2) (T := TX2) (N := 12) hx hb hts inX2 hown hK hP 1 rfl rfl 6 (by decide) (hts _ wF_X2_30) (fun _ h9 => h9) rfl dX2_integrate_27 ?_
          refine lv_iload_n hx hb dX2_integrate_30 rfl (lv_at hl 2 rfl) ?_
          refine lv_iconst (v := 0) hx hb dX2_integrate_31 (by decide) ?_
          refine k_iast (D := D) (f := X' 6) (ws' := cw g cI cZ sl mi n (sX (sX X' 1 i 1) 6 i 0) cy ss ds fs) hx hb hK hP hD hS 10 0 rfl rfl i rfl (by omega) (by omega) rfl dX2_integrate_32 (fun H locs hP hD hS => ?_)
          refine lv_goto (tgt := 52) hx hb dX2_integrate_33 (by decide) ?_
          refine k_iinc (k := 2) (lv' := [(2, .int (nI (i + 1))), (0, .ref (g 1)), (1, .int (nI ld))]) hx hb i rfl dX2_integrate_52 hl rfl (by decide) rfl (fun ls hl => ?_)
          refine lv_goto (tgt := 2) hx hb dX2_integrate_55 (by decide) ?_
          exact ih2 (i + 1) (sX (sX X' 1 i 1) 6 i 0) _ _ _ (by omega) (by omega) (by omega) (by intro j a b; have hj := h3 j a; unfold Ig at hj ⊢; obtain ⟨q1, q2, q6⟩ := h4 i (Nat.le_refl i); (try subst hr49); grind [sX_app]) (by intro j a; have hj := h4 j (by omega); (try subst hr49); grind [sX_app]) (by intro a a1 a2 a6; have := h5 a a1 a2 a6; (try subst hr49); grind [sX_ne]) hP hD hS (lv_sub hl [1, 2, 0] rfl)
  exact L2 ((n + 1 - 1) + 1) 1 X _ _ _ (Nat.lt_succ_self _) (Nat.le_refl 1) (by omega) (fun j a b => absurd b (by omega)) (fun _ _ => ⟨rfl, rfl, rfl⟩) (fun _ _ _ _ => rfl) hP hD hS (lv_sub hl [1, 2, 0] rfl)
set_option maxHeartbeats 4000000 in
set_option maxRecDepth 100000 in
theorem c_X2_startUp {l : Launch} {D : va_G} {cI cZ cL : ClassId} {g : Nat → Nat} {sl mi n : Nat} {X : Nat → Nat → Int32} {cy ss ds fs : Nat} (hn : n ≤ 16) : KV l yX2_startUp (.code yX2_startUp cX2_startUp 2 none) 2 D (tyz cI cZ cL) [.ref (g 1)] (cw g cI cZ sl mi n X cy ss ds fs) (fun u => SU X u n) (fun u : Nat → Nat → Int32 => cw g cI cZ sl mi n u cy ss ds fs) := by
  refine KN.of (own := RX2) (lvs := [(0, .ref (g 1))]) (by decide) rfl (Nat.le_of_ble_eq_true rfl) rfl ?_
  intro p e s m args below meth c Q C hK hN A hA hP hD hS hin ret ls hl
  obtain ⟨hx, hb, hml, hown, hts, hr9, hlk9⟩ := id C
  refine lv_aload_n hx hb dX2_startUp_0 rfl (lv_at hl 0 rfl) ?_
  refine k_callR (D := D) C hK hN hP hD (c_X2_leastActive hn) hl cf_yX2_leastActive wM_X2_62 1 4 rfl rfl rfl rfl (Nat.le_of_ble_eq_true rfl) ⟨by decide, by decide⟩ ⟨Nat.zero_le _, Nat.zero_le _⟩ dX2_startUp_1 (fun r1 hr1 => ?_)
  obtain ⟨k, rfl, hk⟩ := hr1
  have hkn := isLA_le hk
  refine lv_istore_n (lv' := [(1, .int (nI k)), (0, .ref (g 1))]) hx hb dX2_startUp_4 rfl hl (by decide) rfl (fun ls hl => ?_)
  refine lv_iload_n hx hb dX2_startUp_5 rfl (lv_at hl 0 rfl) ?_
  refine k_if_eq (tgt := 17) hx hb k rfl (by omega) dX2_startUp_6 (by decide) (fun c6 => ?_) (fun c6 => ?_)
  · skip
    refine lv_aload_n hx hb dX2_startUp_17 rfl (lv_at hl 1 rfl) ?_
    refine k_callR (D := D) C hK hN hP hD (c_X2_countStarters hn) hl cf_yX2_countStarters wM_X2_70 1 4 rfl rfl rfl rfl (Nat.le_of_ble_eq_true rfl) ⟨by decide, by decide⟩ ⟨Nat.zero_le _, Nat.zero_le _⟩ dX2_startUp_18 (fun r18 hr18 => ?_)
    have hr18 : r18 = (nI (nSt (X 1) (X 5) (n + 1))) := hr18
    subst hr18
    have hs : nSt (X 1) (X 5) (n + 1) ≤ n + 1 := cnt_le _ _
    refine lv_iconst (v := 2) hx hb dX2_startUp_21 (by decide) ?_
    refine k_icmp_lt (tgt := 29) hx hb (nSt (X 1) (X 5) (n + 1)) 2 rfl rfl (by omega) (by omega) dX2_startUp_22 (by decide) (fun c22 => ?_) (fun c22 => ?_)
    · skip
      exact ret X _ _ _ _ dX2_startUp_29 hP hD hS ⟨k, hk, (by first | exact Or.inl ⟨by omega, hr11⟩ | exact Or.inr (Or.inl ⟨c6, by omega, hr26⟩) | exact Or.inr (Or.inr ⟨c6, by omega, rfl⟩))⟩
    · skip
      refine lv_aload_n hx hb dX2_startUp_25 rfl (lv_at hl 1 rfl) ?_
      refine k_callV (D := D) C hK hN hP hD hS hA (c_X2_startCold hn) hl cf_yX2_startCold wM_X2_73 1 4 rfl rfl rfl rfl (Nat.le_of_ble_eq_true rfl) ⟨by decide, by decide⟩ ⟨Nat.zero_le _, Nat.zero_le _⟩ dX2_startUp_26 (fun u26 H locs hr26 hP hD hS _ _ => ?_)
      have hP : va_P D vwCl (cw g cI cZ sl mi n u26 cy ss ds fs) H := hP
      have hD : va_D A (cw g cI cZ sl mi n u26 cy ss ds fs) := hD
      exact ret u26 _ _ _ _ dX2_startUp_29 hP hD hS ⟨k, hk, (by first | exact Or.inl ⟨by omega, hr11⟩ | exact Or.inr (Or.inl ⟨c6, by omega, hr26⟩) | exact Or.inr (Or.inr ⟨c6, by omega, rfl⟩))⟩
  · skip
    have hk2 : X 1 k = 2 := by
      rcases hk with h | h
      · omega
      · exact h.2.2.1
    refine lv_aload_n hx hb dX2_startUp_9 rfl (lv_at hl 1 rfl) ?_
    refine lv_iload_n hx hb dX2_startUp_10 rfl (lv_at hl 0 rfl) ?_
    refine k_callV (D := D) C hK hN hP hD hS hA (c_X2_integrate hn k (by omega) hkn hk2) hl cf_yX2_integrate wM_X2_66 1 4 rfl rfl rfl rfl (Nat.le_of_ble_eq_true rfl) ⟨by decide, by decide⟩ ⟨Nat.zero_le _, Nat.zero_le _⟩ dX2_startUp_11 (fun u11 H locs hr11 hP hD hS _ _ => ?_)
    have hP : va_P D vwCl (cw g cI cZ sl mi n u11 cy ss ds fs) H := hP
    have hD : va_D A (cw g cI cZ sl mi n u11 cy ss ds fs) := hD
    refine lv_goto (tgt := 29) hx hb dX2_startUp_14 (by decide) ?_
    exact ret u11 _ _ _ _ dX2_startUp_29 hP hD hS ⟨k, hk, (by first | exact Or.inl ⟨by omega, hr11⟩ | exact Or.inr (Or.inl ⟨c6, by omega, hr26⟩) | exact Or.inr (Or.inr ⟨c6, by omega, rfl⟩))⟩
set_option maxHeartbeats 4000000 in
set_option maxRecDepth 100000 in
theorem c_X2_insertDeviation {l : Launch} {D : va_G} {cI cZ cL : ClassId} {g : Nat → Nat} {sl mi n : Nat} {X : Nat → Nat → Int32} {cy ss ds fs : Nat} (hn : n ≤ 16) (f : Nat) (hf : f < n) (dv : Int32) : KV l yX2_insertDeviation (.code yX2_insertDeviation cX2_insertDeviation 4 none) 0 D (tyz cI cZ cL) [.ref (g 1), .int (nI f), .int dv] (cw g cI cZ sl mi n X cy ss ds fs) (fun u => (∀ a, a ≠ 11 → u a = X a) ∧ u 11 = insF f (X 11) dv) (fun u : Nat → Nat → Int32 => cw g cI cZ sl mi n u cy ss ds fs) := by
  refine KN.of (own := RX2) (lvs := [(0, .ref (g 1)), (1, .int (nI f)), (2, .int dv)]) (by decide) rfl (Nat.le_of_ble_eq_true rfl) rfl ?_
  intro p e s m args below meth c Q C hK hN A hA hP hD hS hin ret ls hl
  obtain ⟨hx, hb, hml, hown, hts, hr9, hlk9⟩ := id C
  refine lv_iload_n hx hb dX2_insertDeviation_0 rfl (lv_at hl 1 rfl) ?_
  refine lv_istore_n (lv' := [(3, .int (nI f)), (0, .ref (g 1)), (1, .int (nI f)), (2, .int dv)]) hx hb dX2_insertDeviation_1 rfl hl (by decide) rfl (fun ls hl => ?_)
  have L2 : ∀ (kf : Nat) (a : Nat) (X' : Nat → Nat → Int32) (H : Heap) (locs : List Loc) (ls : Array Slot), (a < kf) → (a ≤ f) → (∀ k, k ≠ 11 → X' k = X k) → (insF a (X' 11) dv = insF f (X 11) dv) → (va_P D vwCl (cw g cI cZ sl mi n X' cy ss ds fs) H) → (va_D A (cw g cI cZ sl mi n X' cy ss ds fs)) → (va_S A s.heap H locs) → (lv_has ls 4 [(0, .ref (g 1)), (1, .int (nI f)), (2, .int dv), (3, .int (nI a))]) → W p l e (rmK 0) s m args below meth c H locs 0 0 Q (F0 m 2 ls []) := by
    intro kf
    induction kf with
    | zero =>
      intro a X' H locs ls hm
      exact absurd hm (Nat.not_lt_zero _)
    | succ kf ih2 =>
      intro a X' H locs ls hm h1 h2 h3 hP hD hS hl
      refine lv_iload_n hx hb dX2_insertDeviation_2 rfl (lv_at hl 3 rfl) ?_
      refine k_if_le (tgt := 38) hx hb a rfl (by omega) dX2_insertDeviation_3 (by decide) (fun c3 => ?_) (fun c3 => ?_)
      · skip
        refine lv_aload_n hx hb dX2_insertDeviation_38 rfl (lv_at hl 0 rfl) ?_
        refine va_get (D := D) (ci := 4) (v := .ref (g 21)) (C := RX2) (T := TX2) (N := 12) hx hb hts inX2 hown hK hP 1 rfl rfl 11 (by decide) (hts _ wF_X2_45) (fun _ h9 => h9) rfl dX2_insertDeviation_39 ?_
        refine lv_iload_n hx hb dX2_insertDeviation_42 rfl (lv_at hl 3 rfl) ?_
        refine lv_iload_n hx hb dX2_insertDeviation_43 rfl (lv_at hl 2 rfl) ?_
        refine k_iast (D := D) (f := X' 11) (ws' := cw g cI cZ sl mi n (sX X' 11 a dv) cy ss ds fs) hx hb hK hP hD hS 15 0 rfl rfl a rfl (by omega) (by omega) rfl dX2_insertDeviation_44 (fun H locs hP hD hS => ?_)
        exact ret (sX X' 11 a dv) _ _ _ _ dX2_insertDeviation_45 hP hD hS ⟨fun k hk => by rw [sX_ne hk]; exact h2 k hk, (by rw [← h3]; first | exact (insF_0 c3).symm | exact (insF_stop c3 c15).symm)⟩
      · skip
        refine lv_aload_n hx hb dX2_insertDeviation_6 rfl (lv_at hl 0 rfl) ?_
        refine va_get (D := D) (ci := 4) (v := .ref (g 21)) (C := RX2) (T := TX2) (N := 12) hx hb hts inX2 hown hK hP 1 rfl rfl 11 (by decide) (hts _ wF_X2_45) (fun _ h9 => h9) rfl dX2_insertDeviation_7 ?_
        refine lv_iload_n hx hb dX2_insertDeviation_10 rfl (lv_at hl 3 rfl) ?_
        refine lv_iconst (v := 1) hx hb dX2_insertDeviation_11 (by decide) ?_
        refine k_isub hx hb a 1 rfl rfl (by omega) dX2_insertDeviation_12 ?_
        refine k_iald (D := D) (f := X' 11) hx hb hK hP 15 0 rfl rfl (a - 1) rfl (by omega) (by omega) dX2_insertDeviation_13 ?_
        refine lv_iload_n hx hb dX2_insertDeviation_14 rfl (lv_at hl 2 rfl) ?_
        refine lv_icmp_le (tgt := 38) hx hb dX2_insertDeviation_15 (by decide) (fun c15 => ?_) (fun c15 => ?_)
        · skip
          refine lv_aload_n hx hb dX2_insertDeviation_38 rfl (lv_at hl 0 rfl) ?_
          refine va_get (D := D) (ci := 4) (v := .ref (g 21)) (C := RX2) (T := TX2) (N := 12) hx hb hts inX2 hown hK hP 1 rfl rfl 11 (by decide) (hts _ wF_X2_45) (fun _ h9 => h9) rfl dX2_insertDeviation_39 ?_
          refine lv_iload_n hx hb dX2_insertDeviation_42 rfl (lv_at hl 3 rfl) ?_
          refine lv_iload_n hx hb dX2_insertDeviation_43 rfl (lv_at hl 2 rfl) ?_
          refine k_iast (D := D) (f := X' 11) (ws' := cw g cI cZ sl mi n (sX X' 11 a dv) cy ss ds fs) hx hb hK hP hD hS 15 0 rfl rfl a rfl (by omega) (by omega) rfl dX2_insertDeviation_44 (fun H locs hP hD hS => ?_)
          exact ret (sX X' 11 a dv) _ _ _ _ dX2_insertDeviation_45 hP hD hS ⟨fun k hk => by rw [sX_ne hk]; exact h2 k hk, (by rw [← h3]; first | exact (insF_0 c3).symm | exact (insF_stop c3 c15).symm)⟩
        · skip
          refine lv_aload_n hx hb dX2_insertDeviation_18 rfl (lv_at hl 0 rfl) ?_
          refine va_get (D := D) (ci := 4) (v := .ref (g 21)) (C := RX2) (T := TX2) (N := 12) hx hb hts inX2 hown hK hP 1 rfl rfl 11 (by decide) (hts _ wF_X2_45) (fun _ h9 => h9) rfl dX2_insertDeviation_19 ?_
          refine lv_iload_n hx hb dX2_insertDeviation_22 rfl (lv_at hl 3 rfl) ?_
          refine lv_aload_n hx hb dX2_insertDeviation_23 rfl (lv_at hl 0 rfl) ?_
          refine va_get (D := D) (ci := 4) (v := .ref (g 21)) (C := RX2) (T := TX2) (N := 12) hx hb hts inX2 hown hK hP 1 rfl rfl 11 (by decide) (hts _ wF_X2_45) (fun _ h9 => h9) rfl dX2_insertDeviation_24 ?_
          refine lv_iload_n hx hb dX2_insertDeviation_27 rfl (lv_at hl 3 rfl) ?_
          refine lv_iconst (v := 1) hx hb dX2_insertDeviation_28 (by decide) ?_
          refine k_isub hx hb a 1 rfl rfl (by omega) dX2_insertDeviation_29 ?_
          refine k_iald (D := D) (f := X' 11) hx hb hK hP 15 0 rfl rfl (a - 1) rfl (by omega) (by omega) dX2_insertDeviation_30 ?_
          refine k_iast (D := D) (f := X' 11) (ws' := cw g cI cZ sl mi n (sX X' 11 a (X' 11 (a - 1))) cy ss ds fs) hx hb hK hP hD hS 15 0 rfl rfl a rfl (by omega) (by omega) rfl dX2_insertDeviation_31 (fun H locs hP hD hS => ?_)
          refine k_idec (k := 3) (lv' := [(3, .int (nI (a - 1))), (0, .ref (g 1)), (1, .int (nI f)), (2, .int dv)]) hx hb (a - 1) (by rw [Nat.sub_add_cancel c3]) dX2_insertDeviation_32 hl rfl (by decide) rfl (fun ls hl => ?_)
          refine lv_goto (tgt := 2) hx hb dX2_insertDeviation_35 (by decide) ?_
          exact ih2 (a - 1) (sX X' 11 a (X' 11 (a - 1))) _ _ _ (by omega) (by omega) (fun k hk => by rw [sX_ne hk]; exact h2 k hk) ((insF_go c3 c15).symm.trans h3) hP hD hS (lv_sub hl [1, 2, 3, 0] rfl)
  exact L2 (f + 1) f X _ _ _ (Nat.lt_succ_self _) (Nat.le_refl _) (fun _ _ => rfl) rfl hP hD hS (lv_sub hl [1, 2, 3, 0] rfl)
set_option maxHeartbeats 4000000 in
set_option maxRecDepth 100000 in
theorem c_X2_findMidpoint {l : Launch} {D : va_G} {cI cZ cL : ClassId} {g : Nat → Nat} {sl mi n : Nat} {X : Nat → Nat → Int32} {cy ss ds fs : Nat} (hn : n ≤ 16) (j : Nat) (h1j : 1 ≤ j) (hj : j ≤ n) : KI l yX2_findMidpoint (.code yX2_findMidpoint cX2_findMidpoint 4 (some .int)) 1 D (tyz cI cZ cL) [.ref (g 1), .int (nI j)] (cw g cI cZ sl mi n X cy ss ds fs) (fun r u => r = mpv (X 1) (X 7) (X 2) n j ∧ ∀ a, a ≠ 11 → u a = X a) (fun u : Nat → Nat → Int32 => cw g cI cZ sl mi n u cy ss ds fs) := by
  refine KI.of (own := RX2) (lvs := [(0, .ref (g 1)), (1, .int (nI j))]) (by decide) rfl (Nat.le_of_ble_eq_true rfl) rfl ?_
  intro p e s m args below meth c Q C hK hN A hA hP hD hS ret ls hl
  obtain ⟨hx, hb, hml, hown, hts, hr9, hlk9⟩ := id C
  refine lv_aload_n hx hb dX2_findMidpoint_0 rfl (lv_at hl 0 rfl) ?_
  refine va_get (D := D) (ci := 4) (v := .ref (g 21)) (C := RX2) (T := TX2) (N := 12) hx hb hts inX2 hown hK hP 1 rfl rfl 11 (by decide) (hts _ wF_X2_45) (fun _ h9 => h9) rfl dX2_findMidpoint_1 ?_
  refine lv_iconst (v := 0) hx hb dX2_findMidpoint_4 (by decide) ?_
  refine lv_iconst (v := 0) hx hb dX2_findMidpoint_5 (by decide) ?_
  refine k_iast (D := D) (f := X 11) (ws' := cw g cI cZ sl mi n (sX X 11 0 0) cy ss ds fs) hx hb hK hP hD hS 15 0 rfl rfl 0 rfl (by omega) (by omega) rfl dX2_findMidpoint_6 (fun H locs hP hD hS => ?_)
  refine lv_iconst (v := 1) hx hb dX2_findMidpoint_7 (by decide) ?_
  refine lv_istore_n (lv' := [(2, .int 1), (0, .ref (g 1)), (1, .int (nI j))]) hx hb dX2_findMidpoint_8 rfl hl (by decide) rfl (fun ls hl => ?_)
  refine lv_iconst (v := 1) hx hb dX2_findMidpoint_9 (by decide) ?_
  refine lv_istore_n (lv' := [(3, .int 1), (2, .int 1), (0, .ref (g 1)), (1, .int (nI j))]) hx hb dX2_findMidpoint_10 rfl hl (by decide) rfl (fun ls hl => ?_)
  have L11 : ∀ (kf : Nat) (i : Nat) (f : Nat) (X' : Nat → Nat → Int32) (H : Heap) (locs : List Loc) (ls : Array Slot), (n + 1 - i < kf) → (1 ≤ i) → (i ≤ n + 1) → (f = dc (X 1) (X 7) j i) → (∀ t, t < f → X' 11 t = srt (de (X 1) (X 7) (X 2) j i) f t) → (∀ a, a ≠ 11 → X' a = X a) → (va_P D vwCl (cw g cI cZ sl mi n X' cy ss ds fs) H) → (va_D A (cw g cI cZ sl mi n X' cy ss ds fs)) → (va_S A s.heap H locs) → (lv_has ls 4 [(0, .ref (g 1)), (1, .int (nI j)), (2, .int (nI f)), (3, .int (nI i))]) → W p l e (rmK 1) s m args below meth c H locs 0 0 Q (F0 m 11 ls []) := by
    intro kf
    induction kf with
    | zero =>
      intro i f X' H locs ls hm
      exact absurd hm (Nat.not_lt_zero _)
    | succ kf ih11 =>
      intro i f X' H locs ls hm h1 h2 h3 h4 h5 hP hD hS hl
      have hf1 := dc_pos (X 1) (X 7) j i
      have hf2 := dc_le (X 1) (X 7) j (i - 1)
      rw [Nat.sub_add_cancel h1, ← h3] at hf2
      rw [← h3] at hf1
      refine lv_iload_n hx hb dX2_findMidpoint_11 rfl (lv_at hl 3 rfl) ?_
      refine lv_aload_n hx hb dX2_findMidpoint_12 rfl (lv_at hl 0 rfl) ?_
      refine va_get (D := D) (ci := 4) (v := .int (nI n)) (C := RX2) (T := TX2) (N := 12) hx hb hts inX2 hown hK hP 1 rfl rfl 0 (by decide) (hts _ wF_X2_7) (fun _ h9 => h9) rfl dX2_findMidpoint_13 ?_
      refine k_icmp_gt (tgt := 68) hx hb i n rfl rfl (by omega) (by omega) dX2_findMidpoint_16 (by decide) (fun c16 => ?_) (fun c16 => ?_)
      · skip
        have hi : i = n + 1 := by omega
        subst hi
        have hfn : f ≤ n := by omega
        have L88 : ∀ (k : Nat) (ls : Array Slot), (k = if f < 3 then 0 else if f < 8 then 1 else 2) → (lv_has ls 4 [(0, .ref (g 1)), (1, .int (nI j)), (2, .int (nI f))]) → W p l e (rmK 1) s m args below meth c H locs 0 0 Q (F0 m 88 ls [.int (nI k)]) := by
          intro k ls hk hl
          have hk3 : k ≤ f - 1 := by rw [hk]; split <;> (try split) <;> omega
          refine lv_istore_n (lv' := [(3, .int (nI k)), (0, .ref (g 1)), (1, .int (nI j)), (2, .int (nI f))]) hx hb dX2_findMidpoint_88 rfl hl (by decide) rfl (fun ls hl => ?_)
          refine lv_aload_n hx hb dX2_findMidpoint_89 rfl (lv_at hl 1 rfl) ?_
          refine va_get (D := D) (ci := 4) (v := .ref (g 21)) (C := RX2) (T := TX2) (N := 12) hx hb hts inX2 hown hK hP 1 rfl rfl 11 (by decide) (hts _ wF_X2_45) (fun _ h9 => h9) rfl dX2_findMidpoint_90 ?_
          refine lv_iload_n hx hb dX2_findMidpoint_93 rfl (lv_at hl 0 rfl) ?_
          refine k_iald (D := D) (f := X' 11) hx hb hK hP 15 0 rfl rfl k rfl (by omega) (by omega) dX2_findMidpoint_94 ?_
          refine lv_aload_n hx hb dX2_findMidpoint_95 rfl (lv_at hl 1 rfl) ?_
          refine va_get (D := D) (ci := 4) (v := .ref (g 21)) (C := RX2) (T := TX2) (N := 12) hx hb hts inX2 hown hK hP 1 rfl rfl 11 (by decide) (hts _ wF_X2_45) (fun _ h9 => h9) rfl dX2_findMidpoint_96 ?_
          refine lv_iload_n hx hb dX2_findMidpoint_99 rfl (lv_at hl 3 rfl) ?_
          refine lv_iconst (v := 1) hx hb dX2_findMidpoint_100 (by decide) ?_
          refine k_isub hx hb f 1 rfl rfl (by omega) dX2_findMidpoint_101 ?_
          refine lv_iload_n hx hb dX2_findMidpoint_102 rfl (lv_at hl 0 rfl) ?_
          refine k_isub hx hb (f - 1) k rfl rfl (by omega) dX2_findMidpoint_103 ?_
          refine k_iald (D := D) (f := X' 11) hx hb hK hP 15 0 rfl rfl ((f - 1) - k) rfl (by omega) (by omega) dX2_findMidpoint_104 ?_
          refine lv_iadd hx hb dX2_findMidpoint_105 ?_
          refine lv_iconst (v := 2) hx hb dX2_findMidpoint_106 (by decide) ?_
          refine lv_idiv hx hb dX2_findMidpoint_107 (by decide) ?_
          exact ret _ X' _ _ _ _ dX2_findMidpoint_108 hP hD hS ⟨(by rw [h4 _ (by omega), h4 _ (by omega)]; subst h3; rw [hk]; rfl), h5⟩
        refine lv_iload_n hx hb dX2_findMidpoint_68 rfl (lv_at hl 2 rfl) ?_
        refine lv_iconst (v := 3) hx hb dX2_findMidpoint_69 (by decide) ?_
        refine k_icmp_ge (tgt := 77) hx hb f 3 rfl rfl (by omega) (by omega) dX2_findMidpoint_70 (by decide) (fun c70 => ?_) (fun c70 => ?_)
        · skip
          refine lv_iload_n hx hb dX2_findMidpoint_77 rfl (lv_at hl 2 rfl) ?_
          refine lv_bipush (v := 8) hx hb dX2_findMidpoint_78 (by decide) ?_
          refine k_icmp_ge (tgt := 87) hx hb f 8 rfl rfl (by omega) (by omega) dX2_findMidpoint_80 (by decide) (fun c80 => ?_) (fun c80 => ?_)
          · skip
            refine lv_iconst (v := 2) hx hb dX2_findMidpoint_87 (by decide) ?_
            exact L88 2 _ (by grind) (lv_sub hl [0, 1, 2] rfl)
          · skip
            refine lv_iconst (v := 1) hx hb dX2_findMidpoint_83 (by decide) ?_
            refine lv_goto (tgt := 88) hx hb dX2_findMidpoint_84 (by decide) ?_
            exact L88 1 _ (by grind) (lv_sub hl [0, 1, 2] rfl)
        · skip
          refine lv_iconst (v := 0) hx hb dX2_findMidpoint_73 (by decide) ?_
          refine lv_goto (tgt := 88) hx hb dX2_findMidpoint_74 (by decide) ?_
          exact L88 0 _ (by grind) (lv_sub hl [0, 1, 2] rfl)
      · skip
        refine lv_iload_n hx hb dX2_findMidpoint_19 rfl (lv_at hl 3 rfl) ?_
        refine lv_iload_n hx hb dX2_findMidpoint_20 rfl (lv_at hl 1 rfl) ?_
        refine k_icmp_eq (tgt := 62) hx hb i j rfl rfl (by omega) (by omega) dX2_findMidpoint_21 (by decide) (fun c21 => ?_) (fun c21 => ?_)
        · skip
          have hnd : ¬ dvP (X 1) (X 7) j i := fun z => z.1 c21
          refine k_iinc (k := 3) (lv' := [(3, .int (nI (i + 1))), (0, .ref (g 1)), (1, .int (nI j)), (2, .int (nI f))]) hx hb i rfl dX2_findMidpoint_62 hl rfl (by decide) rfl (fun ls hl => ?_)
          refine lv_goto (tgt := 11) hx hb dX2_findMidpoint_65 (by decide) ?_
          exact ih11 (i + 1) f X' _ _ _ (by omega) (by omega) (by omega) (by first | rw [h3, dc_f hnd] | rw [h3, dc_t h1 hd]) (by first | (rw [de_f hnd]; exact h4) | (rw [hr56.2, h5 2 (by decide)]; subst h3; rw [← dc_t h1 hd]; exact srt_step h1 hd h4)) (by first | exact h5 | exact fun a ha => (hr56.1 a ha).trans (h5 a ha)) hP hD hS (lv_sub hl [1, 2, 3, 0] rfl)
        · skip
          refine lv_aload_n hx hb dX2_findMidpoint_24 rfl (lv_at hl 0 rfl) ?_
          refine lv_iload_n hx hb dX2_findMidpoint_25 rfl (lv_at hl 3 rfl) ?_
          refine k_callR (D := D) C hK hN hP hD (c_X2_isActive hn i (by omega)) hl cf_yX2_isActive wM_X2_48 1 4 rfl rfl rfl rfl (Nat.le_of_ble_eq_true rfl) ⟨by decide, by decide⟩ ⟨Nat.zero_le _, Nat.zero_le _⟩ dX2_findMidpoint_26 (fun r26 hr26 => ?_)
          have hr26 : r26 = (if X' 1 i = 2 then 1 else 0) := hr26
          subst hr26
          refine k_ifeq_P (P := (X' 1 i = 2)) (tgt := 62) hx hb rfl dX2_findMidpoint_29 (by decide) (fun c29 => ?_) (fun c29 => ?_)
          · skip
            have hnd : ¬ dvP (X 1) (X 7) j i := fun z => c29 (by rw [h5 1 (by decide)]; exact z.2.1)
            refine k_iinc (k := 3) (lv' := [(3, .int (nI (i + 1))), (0, .ref (g 1)), (1, .int (nI j)), (2, .int (nI f))]) hx hb i rfl dX2_findMidpoint_62 hl rfl (by decide) rfl (fun ls hl => ?_)
            refine lv_goto (tgt := 11) hx hb dX2_findMidpoint_65 (by decide) ?_
            exact ih11 (i + 1) f X' _ _ _ (by omega) (by omega) (by omega) (by first | rw [h3, dc_f hnd] | rw [h3, dc_t h1 hd]) (by first | (rw [de_f hnd]; exact h4) | (rw [hr56.2, h5 2 (by decide)]; subst h3; rw [← dc_t h1 hd]; exact srt_step h1 hd h4)) (by first | exact h5 | exact fun a ha => (hr56.1 a ha).trans (h5 a ha)) hP hD hS (lv_sub hl [1, 2, 3, 0] rfl)
          · skip
            refine lv_aload_n hx hb dX2_findMidpoint_32 rfl (lv_at hl 0 rfl) ?_
            refine va_get (D := D) (ci := 4) (v := .ref (g 17)) (C := RX2) (T := TX2) (N := 12) hx hb hts inX2 hown hK hP 1 rfl rfl 7 (by decide) (hts _ wF_X2_33) (fun _ h9 => h9) rfl dX2_findMidpoint_33 ?_
            refine lv_iload_n hx hb dX2_findMidpoint_36 rfl (lv_at hl 3 rfl) ?_
            refine k_zald (D := D) (f := X' 7) hx hb hK hP 11 1 rfl rfl i rfl (by omega) (by omega) dX2_findMidpoint_37 ?_
            refine lv_if_eq (tgt := 62) hx hb dX2_findMidpoint_38 (by decide) (fun c38 => ?_) (fun c38 => ?_)
            · skip
              have hnd : ¬ dvP (X 1) (X 7) j i := fun z => z.2.2 (by rw [← h5 7 (by decide)]; exact c38)
              refine k_iinc (k := 3) (lv' := [(3, .int (nI (i + 1))), (0, .ref (g 1)), (1, .int (nI j)), (2, .int (nI f))]) hx hb i rfl dX2_findMidpoint_62 hl rfl (by decide) rfl (fun ls hl => ?_)
              refine lv_goto (tgt := 11) hx hb dX2_findMidpoint_65 (by decide) ?_
              exact ih11 (i + 1) f X' _ _ _ (by omega) (by omega) (by omega) (by first | rw [h3, dc_f hnd] | rw [h3, dc_t h1 hd]) (by first | (rw [de_f hnd]; exact h4) | (rw [hr56.2, h5 2 (by decide)]; subst h3; rw [← dc_t h1 hd]; exact srt_step h1 hd h4)) (by first | exact h5 | exact fun a ha => (hr56.1 a ha).trans (h5 a ha)) hP hD hS (lv_sub hl [1, 2, 3, 0] rfl)
            · skip
              have hd : dvP (X 1) (X 7) j i := ⟨c21, by rw [← h5 1 (by decide)]; exact c29, by rw [← h5 7 (by decide)]; exact c38⟩
              have hfn : f < n := by
                have := dc_le (X 1) (X 7) j i
                rw [dc_t h1 hd, ← h3] at this
                omega
              refine lv_aload_n hx hb dX2_findMidpoint_41 rfl (lv_at hl 0 rfl) ?_
              refine lv_iload_n hx hb dX2_findMidpoint_42 rfl (lv_at hl 2 rfl) ?_
              refine lv_aload_n hx hb dX2_findMidpoint_43 rfl (lv_at hl 0 rfl) ?_
              refine va_get (D := D) (ci := 4) (v := .ref (g 12)) (C := RX2) (T := TX2) (N := 12) hx hb hts inX2 hown hK hP 1 rfl rfl 2 (by decide) (hts _ wF_X2_17) (fun _ h9 => h9) rfl dX2_findMidpoint_44 ?_
              refine lv_iload_n hx hb dX2_findMidpoint_47 rfl (lv_at hl 3 rfl) ?_
              refine k_iald (D := D) (f := X' 2) hx hb hK hP 6 0 rfl rfl i rfl (by omega) (by omega) dX2_findMidpoint_48 ?_
              refine lv_aload_n hx hb dX2_findMidpoint_49 rfl (lv_at hl 0 rfl) ?_
              refine va_get (D := D) (ci := 4) (v := .ref (g 12)) (C := RX2) (T := TX2) (N := 12) hx hb hts inX2 hown hK hP 1 rfl rfl 2 (by decide) (hts _ wF_X2_17) (fun _ h9 => h9) rfl dX2_findMidpoint_50 ?_
              refine lv_iload_n hx hb dX2_findMidpoint_53 rfl (lv_at hl 1 rfl) ?_
              refine k_iald (D := D) (f := X' 2) hx hb hK hP 6 0 rfl rfl j rfl (by omega) (by omega) dX2_findMidpoint_54 ?_
              refine lv_isub hx hb dX2_findMidpoint_55 ?_
              refine k_callV (D := D) C hK hN hP hD hS hA (c_X2_insertDeviation hn f hfn ((X' 2 i) - (X' 2 j))) hl cf_yX2_insertDeviation wM_X2_91 1 4 rfl rfl rfl rfl (Nat.le_of_ble_eq_true rfl) ⟨by decide, by decide⟩ ⟨Nat.zero_le _, Nat.zero_le _⟩ dX2_findMidpoint_56 (fun u56 H locs hr56 hP hD hS _ _ => ?_)
              have hP : va_P D vwCl (cw g cI cZ sl mi n u56 cy ss ds fs) H := hP
              have hD : va_D A (cw g cI cZ sl mi n u56 cy ss ds fs) := hD
              refine k_iinc (k := 2) (lv' := [(2, .int (nI (f + 1))), (0, .ref (g 1)), (1, .int (nI j)), (3, .int (nI i))]) hx hb f rfl dX2_findMidpoint_59 hl rfl (by decide) rfl (fun ls hl => ?_)
              refine k_iinc (k := 3) (lv' := [(3, .int (nI (i + 1))), (2, .int (nI (f + 1))), (0, .ref (g 1)), (1, .int (nI j))]) hx hb i rfl dX2_findMidpoint_62 hl rfl (by decide) rfl (fun ls hl => ?_)
              refine lv_goto (tgt := 11) hx hb dX2_findMidpoint_65 (by decide) ?_
              exact ih11 (i + 1) (f + 1) u56 _ _ _ (by omega) (by omega) (by omega) (by first | rw [h3, dc_f hnd] | rw [h3, dc_t h1 hd]) (by first | (rw [de_f hnd]; exact h4) | (rw [hr56.2, h5 2 (by decide)]; subst h3; rw [← dc_t h1 hd]; exact srt_step h1 hd h4)) (by first | exact h5 | exact fun a ha => (hr56.1 a ha).trans (h5 a ha)) hP hD hS (lv_sub hl [2, 3, 1, 0] rfl)
  exact L11 ((n + 1 - 1) + 1) 1 1 (sX X 11 0 0) _ _ _ (Nat.lt_succ_self _) (Nat.le_refl 1) (by omega) (dc_1 _ _ _).symm (fun t ht => by rw [show t = 0 by omega]; rfl) (fun a ha => sX_ne ha) hP hD hS (lv_sub hl [2, 3, 1, 0] rfl)
set_option maxHeartbeats 4000000 in
set_option maxRecDepth 100000 in
theorem c_X2_changeRate {l : Launch} {D : va_G} {cI cZ cL : ClassId} {g : Nat → Nat} {sl mi n : Nat} {X : Nat → Nat → Int32} {cy ss ds fs : Nat} (hn : n ≤ 16) (j : Nat) (hj : j ≤ n) (more : Int32) : KV l yX2_changeRate (.code yX2_changeRate cX2_changeRate 4 none) 1 D (tyz cI cZ cL) [.ref (g 1), .int (nI j), .int more] (cw g cI cZ sl mi n X cy ss ds fs) (fun u => u = if clp (X 4 j + more) ≠ X 4 j + more then sX (sX X 4 j (clp (X 4 j + more))) 1 j 3 else sX X 4 j (clp (X 4 j + more))) (fun u : Nat → Nat → Int32 => cw g cI cZ sl mi n u cy ss ds fs) := by
  refine KN.of (own := RX2) (lvs := [(0, .ref (g 1)), (1, .int (nI j)), (2, .int more)]) (by decide) rfl (Nat.le_of_ble_eq_true rfl) rfl ?_
  intro p e s m args below meth c Q C hK hN A hA hP hD hS hin ret ls hl
  obtain ⟨hx, hb, hml, hown, hts, hr9, hlk9⟩ := id C
  refine lv_aload_n hx hb dX2_changeRate_0 rfl (lv_at hl 0 rfl) ?_
  refine va_get (D := D) (ci := 4) (v := .ref (g 14)) (C := RX2) (T := TX2) (N := 12) hx hb hts inX2 hown hK hP 1 rfl rfl 4 (by decide) (hts _ wF_X2_23) (fun _ h9 => h9) rfl dX2_changeRate_1 ?_
  refine lv_iload_n hx hb dX2_changeRate_4 rfl (lv_at hl 1 rfl) ?_
  refine k_iald (D := D) (f := X 4) hx hb hK hP 8 0 rfl rfl j rfl (by omega) (by omega) dX2_changeRate_5 ?_
  refine lv_iload_n hx hb dX2_changeRate_6 rfl (lv_at hl 2 rfl) ?_
  refine lv_iadd hx hb dX2_changeRate_7 ?_
  refine lv_istore_n (lv' := [(3, .int ((X 4 j) + more)), (0, .ref (g 1)), (1, .int (nI j)), (2, .int more)]) hx hb dX2_changeRate_8 rfl hl (by decide) rfl (fun ls hl => ?_)
  refine lv_aload_n hx hb dX2_changeRate_9 rfl (lv_at hl 1 rfl) ?_
  refine va_get (D := D) (ci := 4) (v := .ref (g 14)) (C := RX2) (T := TX2) (N := 12) hx hb hts inX2 hown hK hP 1 rfl rfl 4 (by decide) (hts _ wF_X2_23) (fun _ h9 => h9) rfl dX2_changeRate_10 ?_
  refine lv_iload_n hx hb dX2_changeRate_13 rfl (lv_at hl 2 rfl) ?_
  refine lv_bipush (v := (-100)) hx hb dX2_changeRate_14 (by decide) ?_
  refine lv_bipush (v := 100) hx hb dX2_changeRate_16 (by decide) ?_
  refine lv_iload_n hx hb dX2_changeRate_18 rfl (lv_at hl 0 rfl) ?_
  refine va_mmin hx hb (by rw [hml]; exact hl.1.symm) hown (hts _ wM_X2_97) (hts _ wT_Lib_Math_min_name) (hts _ wI_Math) (hts _ wC_Lib_Math_min) (by decide) (Nat.le_of_ble_eq_true rfl) (Nat.zero_le _) (Nat.zero_le _) dX2_changeRate_19 ?_
  refine va_mmax hx hb (by rw [hml]; exact hl.1.symm) hown (hts _ wM_X2_101) (hts _ wT_Lib_Math_max_name) (hts _ wI_Math) (hts _ wC_Lib_Math_max) (by decide) (Nat.le_of_ble_eq_true rfl) (Nat.zero_le _) (Nat.zero_le _) dX2_changeRate_22 ?_
  refine k_int (y := (clp (X 4 j + more))) rfl ?_
  refine k_iast (D := D) (f := X 4) (ws' := cw g cI cZ sl mi n (sX X 4 j (clp (X 4 j + more))) cy ss ds fs) hx hb hK hP hD hS 8 0 rfl rfl j rfl (by omega) (by omega) rfl dX2_changeRate_25 (fun H locs hP hD hS => ?_)
  refine lv_aload_n hx hb dX2_changeRate_26 rfl (lv_at hl 1 rfl) ?_
  refine va_get (D := D) (ci := 4) (v := .ref (g 14)) (C := RX2) (T := TX2) (N := 12) hx hb hts inX2 hown hK hP 1 rfl rfl 4 (by decide) (hts _ wF_X2_23) (fun _ h9 => h9) rfl dX2_changeRate_27 ?_
  refine lv_iload_n hx hb dX2_changeRate_30 rfl (lv_at hl 2 rfl) ?_
  refine k_iald (D := D) (f := (sX X 4 j (clp (X 4 j + more))) 4) hx hb hK hP 8 0 rfl rfl j rfl (by omega) (by omega) dX2_changeRate_31 ?_
  refine k_int (y := (clp (X 4 j + more))) sX_at ?_
  refine lv_iload_n hx hb dX2_changeRate_32 rfl (lv_at hl 0 rfl) ?_
  refine lv_icmp_eq (tgt := 43) hx hb dX2_changeRate_33 (by decide) (fun c33 => ?_) (fun c33 => ?_)
  · skip
    exact ret (sX X 4 j (clp (X 4 j + more))) _ _ _ _ dX2_changeRate_43 hP hD hS (by first | exact ite_p c33 | exact ite_n (fun h => h c33))
  · skip
    refine lv_aload_n hx hb dX2_changeRate_36 rfl (lv_at hl 1 rfl) ?_
    refine va_get (D := D) (ci := 4) (v := .ref (g 11)) (C := RX2) (T := TX2) (N := 12) hx hb hts inX2 hown hK hP 1 rfl rfl 1 (by decide) (hts _ wF_X2_13) (fun _ h9 => h9) rfl dX2_changeRate_37 ?_
    refine lv_iload_n hx hb dX2_changeRate_40 rfl (lv_at hl 2 rfl) ?_
    refine lv_iconst (v := 3) hx hb dX2_changeRate_41 (by decide) ?_
    refine k_iast (D := D) (f := X 1) (ws' := cw g cI cZ sl mi n (sX (sX X 4 j (clp (X 4 j + more))) 1 j 3) cy ss ds fs) hx hb hK hP hD hS 5 0 rfl rfl j rfl (by omega) (by omega) rfl dX2_changeRate_42 (fun H locs hP hD hS => ?_)
    exact ret (sX (sX X 4 j (clp (X 4 j + more))) 1 j 3) _ _ _ _ dX2_changeRate_43 hP hD hS (by first | exact ite_p c33 | exact ite_n (fun h => h c33))
set_option maxHeartbeats 4000000 in
set_option maxRecDepth 100000 in
theorem c_X2_apply {l : Launch} {D : va_G} {cI cZ cL : ClassId} {g : Nat → Nat} {sl mi n : Nat} {X : Nat → Nat → Int32} {cy ss ds fs : Nat} (hn : n ≤ 16) (j : Nat) (hj : j ≤ n) (mid odd : Int32) : KV l yX2_apply (.code yX2_apply cX2_apply 5 none) 2 D (tyz cI cZ cL) [.ref (g 1), .int (nI j), .int mid, .int odd] (cw g cI cZ sl mi n X cy ss ds fs) (fun u => AP X u j mid odd ∧ (∀ i, i ≠ j → ∀ a, u a i = X a i) ∧ ∀ a, a ≠ 1 → a ≠ 2 → a ≠ 4 → a ≠ 9 → a ≠ 10 → u a = X a) (fun u : Nat → Nat → Int32 => cw g cI cZ sl mi n u cy ss ds fs) := by
  refine KN.of (own := RX2) (lvs := [(0, .ref (g 1)), (1, .int (nI j)), (2, .int mid), (3, .int odd)]) (by decide) rfl (Nat.le_of_ble_eq_true rfl) rfl ?_
  intro p e s m args below meth c Q C hK hN A hA hP hD hS hin ret ls hl
  obtain ⟨hx, hb, hml, hown, hts, hr9, hlk9⟩ := id C
  have L20 : ∀ (q : Int32) (ls : Array Slot), (q = if X 10 j ≠ 0 then X 9 j else 0) → (lv_has ls 5 [(0, .ref (g 1)), (1, .int (nI j)), (2, .int mid), (3, .int odd)]) → W p l e (rmK 2) s m args below meth c s.heap [] 0 0 Q (F0 m 20 ls [.int q, .int mid]) := by
    intro q ls hq hl
    refine lv_iadd hx hb dX2_apply_20 ?_
    refine lv_istore (lv' := [(4, .int (mid + q)), (0, .ref (g 1)), (1, .int (nI j)), (2, .int mid), (3, .int odd)]) hx hb dX2_apply_21 hl (by decide) rfl (fun ls hl => ?_)
    refine lv_aload_n hx hb dX2_apply_23 rfl (lv_at hl 1 rfl) ?_
    refine va_get (D := D) (ci := 4) (v := .ref (g 19)) (C := RX2) (T := TX2) (N := 12) hx hb hts inX2 hown hK hP 1 rfl rfl 9 (by decide) (hts _ wF_X2_39) (fun _ h9 => h9) rfl dX2_apply_24 ?_
    refine lv_iload_n hx hb dX2_apply_27 rfl (lv_at hl 2 rfl) ?_
    refine lv_iload_n hx hb dX2_apply_28 rfl (lv_at hl 3 rfl) ?_
    refine k_iast (D := D) (f := X 9) (ws' := cw g cI cZ sl mi n (sX X 9 j mid) cy ss ds fs) hx hb hK hP hD hS 13 0 rfl rfl j rfl (by omega) (by omega) rfl dX2_apply_29 (fun H locs hP hD hS => ?_)
    refine lv_aload_n hx hb dX2_apply_30 rfl (lv_at hl 1 rfl) ?_
    refine va_get (D := D) (ci := 4) (v := .ref (g 20)) (C := RX2) (T := TX2) (N := 12) hx hb hts inX2 hown hK hP 1 rfl rfl 10 (by decide) (hts _ wF_X2_42) (fun _ h9 => h9) rfl dX2_apply_31 ?_
    refine lv_iload_n hx hb dX2_apply_34 rfl (lv_at hl 2 rfl) ?_
    refine lv_iconst (v := 1) hx hb dX2_apply_35 (by decide) ?_
    refine k_zast (D := D) (f := X 10) (ws' := cw g cI cZ sl mi n (sX (sX X 9 j mid) 10 j 1) cy ss ds fs) hx hb hK hP hD hS 14 1 rfl rfl j rfl (by omega) (by omega) rfl rfl dX2_apply_36 (fun H locs hP hD hS => ?_)
    refine lv_iload_n hx hb dX2_apply_37 rfl (lv_at hl 3 rfl) ?_
    refine lv_sipush (v := 500) hx hb dX2_apply_38 (by decide) ?_
    refine lv_icmp_gt (tgt := 51) hx hb dX2_apply_41 (by decide) (fun c41 => ?_) (fun c41 => ?_)
    · skip
      refine lv_aload_n hx hb dX2_apply_51 rfl (lv_at hl 1 rfl) ?_
      refine va_get (D := D) (ci := 4) (v := .ref (g 11)) (C := RX2) (T := TX2) (N := 12) hx hb hts inX2 hown hK hP 1 rfl rfl 1 (by decide) (hts _ wF_X2_13) (fun _ h9 => h9) rfl dX2_apply_52 ?_
      refine lv_iload_n hx hb dX2_apply_55 rfl (lv_at hl 2 rfl) ?_
      refine lv_iconst (v := 4) hx hb dX2_apply_56 (by decide) ?_
      refine k_iast (D := D) (f := X 1) (ws' := cw g cI cZ sl mi n (sX (sX (sX X 9 j mid) 10 j 1) 1 j 4) cy ss ds fs) hx hb hK hP hD hS 5 0 rfl rfl j rfl (by omega) (by omega) rfl dX2_apply_57 (fun H locs hP hD hS => ?_)
      exact ret (sX (sX (sX X 9 j mid) 10 j 1) 1 j 4) _ _ _ _ dX2_apply_58 hP hD hS (ap_post hq (by first | exact Or.inl ⟨Or.inl c41, rfl⟩ | exact Or.inl ⟨Or.inr (Int32.not_le.mp c48), rfl⟩ | exact Or.inr ⟨fun z => z.elim c41 (i32_nle c48), Or.inl ⟨c70, rfl⟩⟩ | exact Or.inr ⟨fun z => z.elim c41 (i32_nle c48), Or.inr ⟨c70, hr79⟩⟩))
    · skip
      refine lv_iload_n hx hb dX2_apply_44 rfl (lv_at hl 3 rfl) ?_
      refine lv_sipush (v := (-500)) hx hb dX2_apply_45 (by decide) ?_
      refine lv_icmp_ge (tgt := 59) hx hb dX2_apply_48 (by decide) (fun c48 => ?_) (fun c48 => ?_)
      · skip
        refine lv_aload_n hx hb dX2_apply_59 rfl (lv_at hl 1 rfl) ?_
        refine va_get (D := D) (ci := 4) (v := .ref (g 12)) (C := RX2) (T := TX2) (N := 12) hx hb hts inX2 hown hK hP 1 rfl rfl 2 (by decide) (hts _ wF_X2_17) (fun _ h9 => h9) rfl dX2_apply_60 ?_
        refine lv_iload_n hx hb dX2_apply_63 rfl (lv_at hl 2 rfl) ?_
        refine lv_dup2_11 hx hb dX2_apply_64 rfl rfl ?_
        refine k_iald (D := D) (f := X 2) hx hb hK hP 6 0 rfl rfl j rfl (by omega) (by omega) dX2_apply_65 ?_
        refine lv_iload_n hx hb dX2_apply_66 rfl (lv_at hl 3 rfl) ?_
        refine lv_iadd hx hb dX2_apply_67 ?_
        refine k_iast (D := D) (f := X 2) (ws' := cw g cI cZ sl mi n (sX (sX (sX X 9 j mid) 10 j 1) 2 j ((X 2 j) + mid)) cy ss ds fs) hx hb hK hP hD hS 6 0 rfl rfl j rfl (by omega) (by omega) rfl dX2_apply_68 (fun H locs hP hD hS => ?_)
        refine lv_iload_n hx hb dX2_apply_69 rfl (lv_at hl 4 rfl) ?_
        refine lv_if_eq (tgt := 82) hx hb dX2_apply_70 (by decide) (fun c70 => ?_) (fun c70 => ?_)
        · skip
          exact ret (sX (sX (sX X 9 j mid) 10 j 1) 2 j ((X 2 j) + mid)) _ _ _ _ dX2_apply_82 hP hD hS (ap_post hq (by first | exact Or.inl ⟨Or.inl c41, rfl⟩ | exact Or.inl ⟨Or.inr (Int32.not_le.mp c48), rfl⟩ | exact Or.inr ⟨fun z => z.elim c41 (i32_nle c48), Or.inl ⟨c70, rfl⟩⟩ | exact Or.inr ⟨fun z => z.elim c41 (i32_nle c48), Or.inr ⟨c70, hr79⟩⟩))
        · skip
          refine lv_aload_n hx hb dX2_apply_73 rfl (lv_at hl 1 rfl) ?_
          refine lv_iload_n hx hb dX2_apply_74 rfl (lv_at hl 2 rfl) ?_
          refine lv_iload hx hb dX2_apply_75 (lv_at hl 0 rfl) ?_
          refine lv_iconst (v := 4) hx hb dX2_apply_77 (by decide) ?_
          refine lv_idiv hx hb dX2_apply_78 (by decide) ?_
          refine k_callV (D := D) C hK hN hP hD hS hA (c_X2_changeRate hn j (by omega) ((mid + q) / 4)) hl cf_yX2_changeRate wM_X2_94 1 4 rfl rfl rfl rfl (Nat.le_of_ble_eq_true rfl) ⟨by decide, by decide⟩ ⟨Nat.zero_le _, Nat.zero_le _⟩ dX2_apply_79 (fun u79 H locs hr79 hP hD hS _ _ => ?_)
          have hP : va_P D vwCl (cw g cI cZ sl mi n u79 cy ss ds fs) H := hP
          have hD : va_D A (cw g cI cZ sl mi n u79 cy ss ds fs) := hD
          exact ret u79 _ _ _ _ dX2_apply_82 hP hD hS (ap_post hq (by first | exact Or.inl ⟨Or.inl c41, rfl⟩ | exact Or.inl ⟨Or.inr (Int32.not_le.mp c48), rfl⟩ | exact Or.inr ⟨fun z => z.elim c41 (i32_nle c48), Or.inl ⟨c70, rfl⟩⟩ | exact Or.inr ⟨fun z => z.elim c41 (i32_nle c48), Or.inr ⟨c70, hr79⟩⟩))
      · skip
        refine lv_aload_n hx hb dX2_apply_51 rfl (lv_at hl 1 rfl) ?_
        refine va_get (D := D) (ci := 4) (v := .ref (g 11)) (C := RX2) (T := TX2) (N := 12) hx hb hts inX2 hown hK hP 1 rfl rfl 1 (by decide) (hts _ wF_X2_13) (fun _ h9 => h9) rfl dX2_apply_52 ?_
        refine lv_iload_n hx hb dX2_apply_55 rfl (lv_at hl 2 rfl) ?_
        refine lv_iconst (v := 4) hx hb dX2_apply_56 (by decide) ?_
        refine k_iast (D := D) (f := X 1) (ws' := cw g cI cZ sl mi n (sX (sX (sX X 9 j mid) 10 j 1) 1 j 4) cy ss ds fs) hx hb hK hP hD hS 5 0 rfl rfl j rfl (by omega) (by omega) rfl dX2_apply_57 (fun H locs hP hD hS => ?_)
        exact ret (sX (sX (sX X 9 j mid) 10 j 1) 1 j 4) _ _ _ _ dX2_apply_58 hP hD hS (ap_post hq (by first | exact Or.inl ⟨Or.inl c41, rfl⟩ | exact Or.inl ⟨Or.inr (Int32.not_le.mp c48), rfl⟩ | exact Or.inr ⟨fun z => z.elim c41 (i32_nle c48), Or.inl ⟨c70, rfl⟩⟩ | exact Or.inr ⟨fun z => z.elim c41 (i32_nle c48), Or.inr ⟨c70, hr79⟩⟩))
  refine lv_iload_n hx hb dX2_apply_0 rfl (lv_at hl 2 rfl) ?_
  refine lv_aload_n hx hb dX2_apply_1 rfl (lv_at hl 0 rfl) ?_
  refine va_get (D := D) (ci := 4) (v := .ref (g 20)) (C := RX2) (T := TX2) (N := 12) hx hb hts inX2 hown hK hP 1 rfl rfl 10 (by decide) (hts _ wF_X2_42) (fun _ h9 => h9) rfl dX2_apply_2 ?_
  refine lv_iload_n hx hb dX2_apply_5 rfl (lv_at hl 1 rfl) ?_
  refine k_zald (D := D) (f := X 10) hx hb hK hP 14 1 rfl rfl j rfl (by omega) (by omega) dX2_apply_6 ?_
  refine lv_if_eq (tgt := 19) hx hb dX2_apply_7 (by decide) (fun c7 => ?_) (fun c7 => ?_)
  · skip
    refine lv_iconst (v := 0) hx hb dX2_apply_19 (by decide) ?_
    exact L20 0 _ (by first | exact ite_p c7 | exact ite_n (fun z => z c7)) (lv_sub hl [0, 1, 2, 3] rfl)
  · skip
    refine lv_aload_n hx hb dX2_apply_10 rfl (lv_at hl 0 rfl) ?_
    refine va_get (D := D) (ci := 4) (v := .ref (g 19)) (C := RX2) (T := TX2) (N := 12) hx hb hts inX2 hown hK hP 1 rfl rfl 9 (by decide) (hts _ wF_X2_39) (fun _ h9 => h9) rfl dX2_apply_11 ?_
    refine lv_iload_n hx hb dX2_apply_14 rfl (lv_at hl 1 rfl) ?_
    refine k_iald (D := D) (f := X 9) hx hb hK hP 13 0 rfl rfl j rfl (by omega) (by omega) dX2_apply_15 ?_
    refine lv_goto (tgt := 20) hx hb dX2_apply_16 (by decide) ?_
    exact L20 (X 9 j) _ (by first | exact ite_p c7 | exact ite_n (fun z => z c7)) (lv_sub hl [0, 1, 2, 3] rfl)
set_option maxHeartbeats 4000000 in
set_option maxRecDepth 100000 in
theorem c_X2_correct {l : Launch} {D : va_G} {cI cZ cL : ClassId} {g : Nat → Nat} {sl mi n : Nat} {X : Nat → Nat → Int32} {cy ss ds fs : Nat} (hn : n ≤ 16) (odd : Int32) : KV l yX2_correct (.code yX2_correct cX2_correct 3 none) 3 D (tyz cI cZ cL) [.ref (g 1), .int odd] (cw g cI cZ sl mi n X cy ss ds fs) (fun u => (∀ j, 1 ≤ j → j ≤ n → CR X u n j odd) ∧ ∀ a, a ≠ 1 → a ≠ 2 → a ≠ 4 → a ≠ 8 → a ≠ 9 → a ≠ 10 → a ≠ 11 → u a = X a) (fun u : Nat → Nat → Int32 => cw g cI cZ sl mi n u cy ss ds fs) := by
  refine KN.of (own := RX2) (lvs := [(0, .ref (g 1)), (1, .int odd)]) (by decide) rfl (Nat.le_of_ble_eq_true rfl) rfl ?_
  intro p e s m args below meth c Q C hK hN A hA hP hD hS hin ret ls hl
  obtain ⟨hx, hb, hml, hown, hts, hr9, hlk9⟩ := id C
  refine lv_iconst (v := 1) hx hb dX2_correct_0 (by decide) ?_
  refine lv_istore_n (lv' := [(2, .int 1), (0, .ref (g 1)), (1, .int odd)]) hx hb dX2_correct_1 rfl hl (by decide) rfl (fun ls hl => ?_)
  have L2 : ∀ (kf : Nat) (i : Nat) (X' : Nat → Nat → Int32) (H : Heap) (locs : List Loc) (ls : Array Slot), (n + 1 - i < kf) → (1 ≤ i) → (i ≤ n + 1) → (∀ j, 1 ≤ j → j < i → X 1 j = 2 → X' 8 j = mpv (X 1) (X 7) (X 2) n j) → (∀ a, a ≠ 8 → a ≠ 11 → X' a = X a) → (va_P D vwCl (cw g cI cZ sl mi n X' cy ss ds fs) H) → (va_D A (cw g cI cZ sl mi n X' cy ss ds fs)) → (va_S A s.heap H locs) → (lv_has ls 3 [(0, .ref (g 1)), (1, .int odd), (2, .int (nI i))]) → W p l e (rmK 3) s m args below meth c H locs 0 0 Q (F0 m 2 ls []) := by
    intro kf
    induction kf with
    | zero =>
      intro i X' H locs ls hm
      exact absurd hm (Nat.not_lt_zero _)
    | succ kf ih2 =>
      intro i X' H locs ls hm h1 h2 h3 h5 hP hD hS hl
      refine lv_iload_n hx hb dX2_correct_2 rfl (lv_at hl 2 rfl) ?_
      refine lv_aload_n hx hb dX2_correct_3 rfl (lv_at hl 0 rfl) ?_
      refine va_get (D := D) (ci := 4) (v := .int (nI n)) (C := RX2) (T := TX2) (N := 12) hx hb hts inX2 hown hK hP 1 rfl rfl 0 (by decide) (hts _ wF_X2_7) (fun _ h9 => h9) rfl dX2_correct_4 ?_
      refine k_icmp_gt (tgt := 35) hx hb i n rfl rfl (by omega) (by omega) dX2_correct_7 (by decide) (fun c7 => ?_) (fun c7 => ?_)
      · skip
        refine lv_iconst (v := 1) hx hb dX2_correct_35 (by decide) ?_
        refine lv_istore_n (lv' := [(2, .int 1), (0, .ref (g 1)), (1, .int odd)]) hx hb dX2_correct_36 rfl hl (by decide) rfl (fun ls hl => ?_)
        have L37 : ∀ (kf : Nat) (i : Nat) (Z : Nat → Nat → Int32) (H : Heap) (locs : List Loc) (ls : Array Slot), (n + 1 - i < kf) → (1 ≤ i) → (i ≤ n + 1) → (∀ j, 1 ≤ j → j < i → CR X Z n j odd) → (∀ j, i ≤ j → ∀ a, a ≠ 8 → a ≠ 11 → Z a j = X a j) → (∀ j, 1 ≤ j → j ≤ n → X 1 j = 2 → Z 8 j = mpv (X 1) (X 7) (X 2) n j) → (∀ a, a ≠ 1 → a ≠ 2 → a ≠ 4 → a ≠ 8 → a ≠ 9 → a ≠ 10 → a ≠ 11 → Z a = X a) → (va_P D vwCl (cw g cI cZ sl mi n Z cy ss ds fs) H) → (va_D A (cw g cI cZ sl mi n Z cy ss ds fs)) → (va_S A s.heap H locs) → (lv_has ls 3 [(0, .ref (g 1)), (1, .int odd), (2, .int (nI i))]) → W p l e (rmK 3) s m args below meth c H locs 0 0 Q (F0 m 37 ls []) := by
          intro kf
          induction kf with
          | zero =>
            intro i Z H locs ls hm
            exact absurd hm (Nat.not_lt_zero _)
          | succ kf ih37 =>
            intro i Z H locs ls hm h1 h2 k3 k4 k6 k5 hP hD hS hl
            refine lv_iload_n hx hb dX2_correct_37 rfl (lv_at hl 2 rfl) ?_
            refine lv_aload_n hx hb dX2_correct_38 rfl (lv_at hl 0 rfl) ?_
            refine va_get (D := D) (ci := 4) (v := .int (nI n)) (C := RX2) (T := TX2) (N := 12) hx hb hts inX2 hown hK hP 1 rfl rfl 0 (by decide) (hts _ wF_X2_7) (fun _ h9 => h9) rfl dX2_correct_39 ?_
            refine k_icmp_gt (tgt := 81) hx hb i n rfl rfl (by omega) (by omega) dX2_correct_42 (by decide) (fun c42 => ?_) (fun c42 => ?_)
            · skip
              exact ret Z _ _ _ _ dX2_correct_81 hP hD hS ⟨fun j a b => k3 j a (by omega), k5⟩
            · skip
              refine lv_aload_n hx hb dX2_correct_45 rfl (lv_at hl 0 rfl) ?_
              refine lv_iload_n hx hb dX2_correct_46 rfl (lv_at hl 2 rfl) ?_
              refine k_callR (D := D) C hK hN hP hD (c_X2_isActive hn i (by omega)) hl cf_yX2_isActive wM_X2_48 1 4 rfl rfl rfl rfl (Nat.le_of_ble_eq_true rfl) ⟨by decide, by decide⟩ ⟨Nat.zero_le _, Nat.zero_le _⟩ dX2_correct_47 (fun r47 hr47 => ?_)
              have hr47 : r47 = (if Z 1 i = 2 then 1 else 0) := hr47
              subst hr47
              refine k_ifeq_P (P := (Z 1 i = 2)) (tgt := 68) hx hb rfl dX2_correct_50 (by decide) (fun c50 => ?_) (fun c50 => ?_)
              · skip
                refine lv_aload_n hx hb dX2_correct_68 rfl (lv_at hl 0 rfl) ?_
                refine va_get (D := D) (ci := 4) (v := .ref (g 20)) (C := RX2) (T := TX2) (N := 12) hx hb hts inX2 hown hK hP 1 rfl rfl 10 (by decide) (hts _ wF_X2_42) (fun _ h9 => h9) rfl dX2_correct_69 ?_
                refine lv_iload_n hx hb dX2_correct_72 rfl (lv_at hl 2 rfl) ?_
                refine lv_iconst (v := 0) hx hb dX2_correct_73 (by decide) ?_
                refine k_zast (D := D) (f := Z 10) (ws' := cw g cI cZ sl mi n (sX Z 10 i 0) cy ss ds fs) hx hb hK hP hD hS 14 1 rfl rfl i rfl (by omega) (by omega) rfl rfl dX2_correct_74 (fun H locs hP hD hS => ?_)
                refine k_iinc (k := 2) (lv' := [(2, .int (nI (i + 1))), (0, .ref (g 1)), (1, .int odd)]) hx hb i rfl dX2_correct_75 hl rfl (by decide) rfl (fun ls hl => ?_)
                refine lv_goto (tgt := 37) hx hb dX2_correct_78 (by decide) ?_
                exact ih37 (i + 1) (sX Z 10 i 0) _ _ _ (by omega) (by omega) (by omega) (by first | exact cb_set3 h1 h2 k3 k4 k6 c50 hr62 | exact cb_keep3 k3 k4 c50) (by first | exact cb_set4 k4 hr62 | exact cb_keep4 k4) (by first | exact cb_set6 k6 hr62 | exact k6 | exact fun j a b z => by rw [sX_ne (by decide)]; exact k6 j a b z) (by first | exact cb_set5 k5 hr62 | exact fun a h1 h2 h4 h8 h9 h10 h11 => by rw [sX_ne h10]; exact k5 a h1 h2 h4 h8 h9 h10 h11) hP hD hS (lv_sub hl [1, 2, 0] rfl)
              · skip
                refine lv_aload_n hx hb dX2_correct_53 rfl (lv_at hl 0 rfl) ?_
                refine lv_iload_n hx hb dX2_correct_54 rfl (lv_at hl 2 rfl) ?_
                refine lv_aload_n hx hb dX2_correct_55 rfl (lv_at hl 0 rfl) ?_
                refine va_get (D := D) (ci := 4) (v := .ref (g 18)) (C := RX2) (T := TX2) (N := 12) hx hb hts inX2 hown hK hP 1 rfl rfl 8 (by decide) (hts _ wF_X2_36) (fun _ h9 => h9) rfl dX2_correct_56 ?_
                refine lv_iload_n hx hb dX2_correct_59 rfl (lv_at hl 2 rfl) ?_
                refine k_iald (D := D) (f := Z 8) hx hb hK hP 12 0 rfl rfl i rfl (by omega) (by omega) dX2_correct_60 ?_
                refine lv_iload_n hx hb dX2_correct_61 rfl (lv_at hl 1 rfl) ?_
                refine k_callV (D := D) C hK hN hP hD hS hA (c_X2_apply hn i (by omega) (Z 8 i) odd) hl cf_yX2_apply wM_X2_87 1 4 rfl rfl rfl rfl (Nat.le_of_ble_eq_true rfl) ⟨by decide, by decide⟩ ⟨Nat.zero_le _, Nat.zero_le _⟩ dX2_correct_62 (fun u62 H locs hr62 hP hD hS _ _ => ?_)
                have hP : va_P D vwCl (cw g cI cZ sl mi n u62 cy ss ds fs) H := hP
                have hD : va_D A (cw g cI cZ sl mi n u62 cy ss ds fs) := hD
                refine lv_goto (tgt := 75) hx hb dX2_correct_65 (by decide) ?_
                refine k_iinc (k := 2) (lv' := [(2, .int (nI (i + 1))), (0, .ref (g 1)), (1, .int odd)]) hx hb i rfl dX2_correct_75 hl rfl (by decide) rfl (fun ls hl => ?_)
                refine lv_goto (tgt := 37) hx hb dX2_correct_78 (by decide) ?_
                exact ih37 (i + 1) u62 _ _ _ (by omega) (by omega) (by omega) (by first | exact cb_set3 h1 h2 k3 k4 k6 c50 hr62 | exact cb_keep3 k3 k4 c50) (by first | exact cb_set4 k4 hr62 | exact cb_keep4 k4) (by first | exact cb_set6 k6 hr62 | exact k6 | exact fun j a b z => by rw [sX_ne (by decide)]; exact k6 j a b z) (by first | exact cb_set5 k5 hr62 | exact fun a h1 h2 h4 h8 h9 h10 h11 => by rw [sX_ne h10]; exact k5 a h1 h2 h4 h8 h9 h10 h11) hP hD hS (lv_sub hl [1, 2, 0] rfl)
        exact L37 ((n + 1 - 1) + 1) 1 X' _ _ _ (Nat.lt_succ_self _) (Nat.le_refl 1) (by omega) (fun j a b => absurd b (by omega)) (fun j _ a h8 h11 => by rw [h5 a h8 h11]) (fun j a b => h3 j a (by omega)) (fun a _ _ _ h8 _ _ h11 => h5 a h8 h11) hP hD hS (lv_sub hl [1, 2, 0] rfl)
      · skip
        refine lv_aload_n hx hb dX2_correct_10 rfl (lv_at hl 0 rfl) ?_
        refine lv_iload_n hx hb dX2_correct_11 rfl (lv_at hl 2 rfl) ?_
        refine k_callR (D := D) C hK hN hP hD (c_X2_isActive hn i (by omega)) hl cf_yX2_isActive wM_X2_48 1 4 rfl rfl rfl rfl (Nat.le_of_ble_eq_true rfl) ⟨by decide, by decide⟩ ⟨Nat.zero_le _, Nat.zero_le _⟩ dX2_correct_12 (fun r12 hr12 => ?_)
        have hr12 : r12 = (if X' 1 i = 2 then 1 else 0) := hr12
        subst hr12
        refine k_ifeq_P (P := (X' 1 i = 2)) (tgt := 29) hx hb rfl dX2_correct_15 (by decide) (fun c15 => ?_) (fun c15 => ?_)
        · skip
          refine k_iinc (k := 2) (lv' := [(2, .int (nI (i + 1))), (0, .ref (g 1)), (1, .int odd)]) hx hb i rfl dX2_correct_29 hl rfl (by decide) rfl (fun ls hl => ?_)
          refine lv_goto (tgt := 2) hx hb dX2_correct_32 (by decide) ?_
          exact ih2 (i + 1) X' _ _ _ (by omega) (by omega) (by omega) (by first | exact co_keep h3 h5 c15 | exact co_set h3 h5 hr25) (by first | exact h5 | exact co_set5 h5 hr25) hP hD hS (lv_sub hl [1, 2, 0] rfl)
        · skip
          refine lv_aload_n hx hb dX2_correct_18 rfl (lv_at hl 0 rfl) ?_
          refine va_get (D := D) (ci := 4) (v := .ref (g 18)) (C := RX2) (T := TX2) (N := 12) hx hb hts inX2 hown hK hP 1 rfl rfl 8 (by decide) (hts _ wF_X2_36) (fun _ h9 => h9) rfl dX2_correct_19 ?_
          refine lv_iload_n hx hb dX2_correct_22 rfl (lv_at hl 2 rfl) ?_
          refine lv_aload_n hx hb dX2_correct_23 rfl (lv_at hl 0 rfl) ?_
          refine lv_iload_n hx hb dX2_correct_24 rfl (lv_at hl 2 rfl) ?_
          refine k_callI (D := D) C hK hN hP hD hS hA (c_X2_findMidpoint hn i h1 (by omega)) hl cf_yX2_findMidpoint wM_X2_83 1 4 rfl rfl rfl rfl (Nat.le_of_ble_eq_true rfl) ⟨by decide, by decide⟩ ⟨Nat.zero_le _, Nat.zero_le _⟩ dX2_correct_25 (fun r25 u25 H locs hr25 hP hD hS _ _ => ?_)
          have hP : va_P D vwCl (cw g cI cZ sl mi n u25 cy ss ds fs) H := hP
          have hD : va_D A (cw g cI cZ sl mi n u25 cy ss ds fs) := hD
          refine k_iast (D := D) (f := u25 8) (ws' := cw g cI cZ sl mi n (sX u25 8 i r25) cy ss ds fs) hx hb hK hP hD hS 12 0 rfl rfl i rfl (by omega) (by omega) rfl dX2_correct_28 (fun H locs hP hD hS => ?_)
          refine k_iinc (k := 2) (lv' := [(2, .int (nI (i + 1))), (0, .ref (g 1)), (1, .int odd)]) hx hb i rfl dX2_correct_29 hl rfl (by decide) rfl (fun ls hl => ?_)
          refine lv_goto (tgt := 2) hx hb dX2_correct_32 (by decide) ?_
          exact ih2 (i + 1) (sX u25 8 i r25) _ _ _ (by omega) (by omega) (by omega) (by first | exact co_keep h3 h5 c15 | exact co_set h3 h5 hr25) (by first | exact h5 | exact co_set5 h5 hr25) hP hD hS (lv_sub hl [1, 2, 0] rfl)
  exact L2 ((n + 1 - 1) + 1) 1 X _ _ _ (Nat.lt_succ_self _) (Nat.le_refl 1) (by omega) (fun j a b => absurd b (by omega)) (fun _ _ _ => rfl) hP hD hS (lv_sub hl [1, 2, 0] rfl)
set_option maxHeartbeats 4000000 in
set_option maxRecDepth 100000 in
theorem c_X2_passTime {l : Launch} {D : va_G} {cI cZ cL : ClassId} {g : Nat → Nat} {sl mi n : Nat} {X : Nat → Nat → Int32} {cy ss ds fs : Nat} (hn : n ≤ 16) : KV l yX2_passTime (.code yX2_passTime cX2_passTime 2 none) 0 D (tyz cI cZ cL) [.ref (g 1)] (cw g cI cZ sl mi n X cy ss ds fs) (fun u => (∀ j, 1 ≤ j → j ≤ n → u 2 j = if X 1 j = 4 then X 2 j else X 2 j + (X 3 j + X 4 j)) ∧ ∀ a, a ≠ 2 → u a = X a) (fun u : Nat → Nat → Int32 => cw g cI cZ sl mi n u cy ss ds fs) := by
  refine KN.of (own := RX2) (lvs := [(0, .ref (g 1))]) (by decide) rfl (Nat.le_of_ble_eq_true rfl) rfl ?_
  intro p e s m args below meth c Q C hK hN A hA hP hD hS hin ret ls hl
  obtain ⟨hx, hb, hml, hown, hts, hr9, hlk9⟩ := id C
  refine lv_iconst (v := 1) hx hb dX2_passTime_0 (by decide) ?_
  refine lv_istore_n (lv' := [(1, .int 1), (0, .ref (g 1))]) hx hb dX2_passTime_1 rfl hl (by decide) rfl (fun ls hl => ?_)
  have L2 : ∀ (kf : Nat) (i : Nat) (X' : Nat → Nat → Int32) (H : Heap) (locs : List Loc) (ls : Array Slot), (n + 1 - i < kf) → (1 ≤ i) → (i ≤ n + 1) → (∀ j, 1 ≤ j → j < i → X' 2 j = if X 1 j = 4 then X 2 j else X 2 j + (X 3 j + X 4 j)) → (∀ j, i ≤ j → X' 2 j = X 2 j) → (∀ a, a ≠ 2 → X' a = X a) → (va_P D vwCl (cw g cI cZ sl mi n X' cy ss ds fs) H) → (va_D A (cw g cI cZ sl mi n X' cy ss ds fs)) → (va_S A s.heap H locs) → (lv_has ls 2 [(0, .ref (g 1)), (1, .int (nI i))]) → W p l e (rmK 0) s m args below meth c H locs 0 0 Q (F0 m 2 ls []) := by
    intro kf
    induction kf with
    | zero =>
      intro i X' H locs ls hm
      exact absurd hm (Nat.not_lt_zero _)
    | succ kf ih2 =>
      intro i X' H locs ls hm h1 h2 h3 h4 h5 hP hD hS hl
      refine lv_iload_n hx hb dX2_passTime_2 rfl (lv_at hl 1 rfl) ?_
      refine lv_aload_n hx hb dX2_passTime_3 rfl (lv_at hl 0 rfl) ?_
      refine va_get (D := D) (ci := 4) (v := .int (nI n)) (C := RX2) (T := TX2) (N := 12) hx hb hts inX2 hown hK hP 1 rfl rfl 0 (by decide) (hts _ wF_X2_7) (fun _ h9 => h9) rfl dX2_passTime_4 ?_
      refine k_icmp_gt (tgt := 48) hx hb i n rfl rfl (by omega) (by omega) dX2_passTime_7 (by decide) (fun c7 => ?_) (fun c7 => ?_)
      · skip
        exact ret X' _ _ _ _ dX2_passTime_48 hP hD hS ⟨fun j a b => h3 j a (by omega), h5⟩
      · skip
        refine lv_aload_n hx hb dX2_passTime_10 rfl (lv_at hl 0 rfl) ?_
        refine va_get (D := D) (ci := 4) (v := .ref (g 11)) (C := RX2) (T := TX2) (N := 12) hx hb hts inX2 hown hK hP 1 rfl rfl 1 (by decide) (hts _ wF_X2_13) (fun _ h9 => h9) rfl dX2_passTime_11 ?_
        refine lv_iload_n hx hb dX2_passTime_14 rfl (lv_at hl 1 rfl) ?_
        refine k_iald (D := D) (f := X' 1) hx hb hK hP 5 0 rfl rfl i rfl (by omega) (by omega) dX2_passTime_15 ?_
        refine lv_iconst (v := 4) hx hb dX2_passTime_16 (by decide) ?_
        refine lv_icmp_eq (tgt := 42) hx hb dX2_passTime_17 (by decide) (fun c17 => ?_) (fun c17 => ?_)
        · skip
          refine k_iinc (k := 1) (lv' := [(1, .int (nI (i + 1))), (0, .ref (g 1))]) hx hb i rfl dX2_passTime_42 hl rfl (by decide) rfl (fun ls hl => ?_)
          refine lv_goto (tgt := 2) hx hb dX2_passTime_45 (by decide) ?_
          exact ih2 (i + 1) X' _ _ _ (by omega) (by omega) (by omega) (by intro j a b; (try rw [sX_app]); have e1 := h5 1 (by decide); have e3 := h5 3 (by decide); have e4 := h5 4 (by decide); grind) (by intro j a; (try rw [sX_app]); grind) (by first | exact h5 | exact fun a ha => by rw [sX_ne ha]; exact h5 a ha) hP hD hS (lv_sub hl [1, 0] rfl)
        · skip
          refine lv_aload_n hx hb dX2_passTime_20 rfl (lv_at hl 0 rfl) ?_
          refine va_get (D := D) (ci := 4) (v := .ref (g 12)) (C := RX2) (T := TX2) (N := 12) hx hb hts inX2 hown hK hP 1 rfl rfl 2 (by decide) (hts _ wF_X2_17) (fun _ h9 => h9) rfl dX2_passTime_21 ?_
          refine lv_iload_n hx hb dX2_passTime_24 rfl (lv_at hl 1 rfl) ?_
          refine lv_dup2_11 hx hb dX2_passTime_25 rfl rfl ?_
          refine k_iald (D := D) (f := X' 2) hx hb hK hP 6 0 rfl rfl i rfl (by omega) (by omega) dX2_passTime_26 ?_
          refine lv_aload_n hx hb dX2_passTime_27 rfl (lv_at hl 0 rfl) ?_
          refine va_get (D := D) (ci := 4) (v := .ref (g 13)) (C := RX2) (T := TX2) (N := 12) hx hb hts inX2 hown hK hP 1 rfl rfl 3 (by decide) (hts _ wF_X2_20) (fun _ h9 => h9) rfl dX2_passTime_28 ?_
          refine lv_iload_n hx hb dX2_passTime_31 rfl (lv_at hl 1 rfl) ?_
          refine k_iald (D := D) (f := X' 3) hx hb hK hP 7 0 rfl rfl i rfl (by omega) (by omega) dX2_passTime_32 ?_
          refine lv_aload_n hx hb dX2_passTime_33 rfl (lv_at hl 0 rfl) ?_
          refine va_get (D := D) (ci := 4) (v := .ref (g 14)) (C := RX2) (T := TX2) (N := 12) hx hb hts inX2 hown hK hP 1 rfl rfl 4 (by decide) (hts _ wF_X2_23) (fun _ h9 => h9) rfl dX2_passTime_34 ?_
          refine lv_iload_n hx hb dX2_passTime_37 rfl (lv_at hl 1 rfl) ?_
          refine k_iald (D := D) (f := X' 4) hx hb hK hP 8 0 rfl rfl i rfl (by omega) (by omega) dX2_passTime_38 ?_
          refine lv_iadd hx hb dX2_passTime_39 ?_
          refine lv_iadd hx hb dX2_passTime_40 ?_
          refine k_iast (D := D) (f := X' 2) (ws' := cw g cI cZ sl mi n (sX X' 2 i ((X' 2 i) + ((X' 3 i) + (X' 4 i)))) cy ss ds fs) hx hb hK hP hD hS 6 0 rfl rfl i rfl (by omega) (by omega) rfl dX2_passTime_41 (fun H locs hP hD hS => ?_)
          refine k_iinc (k := 1) (lv' := [(1, .int (nI (i + 1))), (0, .ref (g 1))]) hx hb i rfl dX2_passTime_42 hl rfl (by decide) rfl (fun ls hl => ?_)
          refine lv_goto (tgt := 2) hx hb dX2_passTime_45 (by decide) ?_
          exact ih2 (i + 1) (sX X' 2 i ((X' 2 i) + ((X' 3 i) + (X' 4 i)))) _ _ _ (by omega) (by omega) (by omega) (by intro j a b; (try rw [sX_app]); have e1 := h5 1 (by decide); have e3 := h5 3 (by decide); have e4 := h5 4 (by decide); grind) (by intro j a; (try rw [sX_app]); grind) (by first | exact h5 | exact fun a ha => by rw [sX_ne ha]; exact h5 a ha) hP hD hS (lv_sub hl [1, 0] rfl)
  exact L2 ((n + 1 - 1) + 1) 1 X _ _ _ (Nat.lt_succ_self _) (Nat.le_refl 1) (by omega) (fun j a b => absurd b (by omega)) (fun _ _ => rfl) (fun _ _ => rfl) hP hD hS (lv_sub hl [1, 0] rfl)
end
section
/-! frames: pure words -/
def dst (x y : Int32) : Int64 := if 0 < x.toInt64 - y.toInt64 then x.toInt64 - y.toInt64 else -(x.toInt64 - y.toInt64)
abbrev isEv (e : Int32) : Prop := e = 1 ∨ e = 2 ∨ e = 4 ∨ e = 8 ∨ e = 16 ∨ e = 32 ∨ e = 64
/-- how the JDK counts bits -/
def bc1 (x : Int32) : Int32 := x - ((x.toUInt32 >>> ((1 : Int32).toUInt32 &&& Int32.toUInt32 31)).toInt32 &&& 1431655765)
def bc2 (x : Int32) : Int32 := (x &&& 858993459) + ((x.toUInt32 >>> ((2 : Int32).toUInt32 &&& Int32.toUInt32 31)).toInt32 &&& 858993459)
def bc3 (x : Int32) : Int32 := (x + (x.toUInt32 >>> ((4 : Int32).toUInt32 &&& Int32.toUInt32 31)).toInt32) &&& 252645135
def bc4 (x : Int32) : Int32 := x + (x.toUInt32 >>> ((8 : Int32).toUInt32 &&& Int32.toUInt32 31)).toInt32
def bc5 (x : Int32) : Int32 := x + (x.toUInt32 >>> ((16 : Int32).toUInt32 &&& Int32.toUInt32 31)).toInt32
def bc (x : Int32) : Int32 := bc5 (bc4 (bc3 (bc2 (bc1 x)))) &&& 63
theorem bc_all : ∀ k : Fin 65, (bc (nI k.val) = 1 ↔ isEv (nI k.val)) := by decide +kernel
theorem bc_ev {x : Int32} (h1 : ¬ x < 1) (h2 : ¬ 64 < x) : bc x = 1 ↔ isEv x := by
  have a := not_lt_1 h1
  have b := Int32.le_iff_toInt_le.mp (Int32.not_lt.mp h2)
  obtain ⟨j, h3, h4, rfl⟩ := inR_of (x := x) (lo := 1) (hi := 64) ⟨by simpa using a, by simpa using b⟩
  exact bc_all ⟨j, by omega⟩
theorem ev_lo {x : Int32} (h : x < 1) : ¬ isEv x := by rintro (rfl | rfl | rfl | rfl | rfl | rfl | rfl) <;> exact absurd h (by decide)
theorem ev_hi {x : Int32} (h : 64 < x) : ¬ isEv x := by rintro (rfl | rfl | rfl | rfl | rfl | rfl | rfl) <;> exact absurd h (by decide)
/-- how many of 0 .. k - 1 -/
def cnz (f : Nat → Bool) : Nat → Nat
  | 0 => 0
  | k + 1 => cnz f k + (if f k = true then 1 else 0)
theorem cnz_t {f : Nat → Bool} {k : Nat} (h : f k = true) : cnz f (k + 1) = cnz f k + 1 := by simp [cnz, h]
theorem cnz_f {f : Nat → Bool} {k : Nat} (h : f k = false) : cnz f (k + 1) = cnz f k := by simp [cnz, h]
theorem cnz_le (f : Nat → Bool) (k : Nat) : cnz f k ≤ k := by
  induction k with
  | zero => simp [cnz]
  | succ k ih => unfold cnz; split <;> omega
theorem cnz_congr {f g : Nat → Bool} {k : Nat} (h : ∀ j, j < k → f j = g j) : cnz f k = cnz g k := by
  induction k with
  | zero => rfl
  | succ k ih => unfold cnz; rw [ih (fun j b => h j (by omega)), h k (by omega)]
/-- the frames' nodes and slots are there -/
def FrI (fn fl : Nat → Int32) (n sl ss : Nat) : Prop := ∀ i, i < ss → inR (fn i) 1 n ∧ ∃ q : Nat, q < sl ∧ fl i = nI q
def DyI (fn fl : Nat → Int32) (n ds : Nat) : Prop := ∀ i, i < ds → inR (fn i) 1 n ∧ inR (fl i) 1 60
/-- a frame clashes with another -/
abbrev Cl (fl fc fb fe : Nat → Int32) (sl ch ba ev : Int32) (i : Nat) : Prop := (fl i = sl ∧ fc i &&& ch ≠ 0) ∧ ba &&& ((if fe i < ev then fe i else ev) - 1) = fb i &&& ((if fe i < ev then fe i else ev) - 1)
/-- a frame is sent and done: P says that it is in this cycle -/
abbrev Dn (P : Nat → Bool) (st fn fl fc xs : Nat → Int32) (i : Nat) : Prop := (st (fn i).toNatClampNeg = 2 ∧ P i = true) ∧ fc i &&& (xs (fl i).toNatClampNeg ^^^ (-1)) ≠ 0
/-- the dynamic frames that wait -/
abbrev T3 : Type := Int32 × Int32 × Int32
def dl (X : Nat → Nat → Int32) (a b c ds : Nat) : List T3 := (List.range ds).map fun k => (X a k, X b k, X c k)
theorem dl_len (X : Nat → Nat → Int32) (a b c ds : Nat) : (dl X a b c ds).length = ds := by simp [dl]
theorem dl_get {X : Nat → Nat → Int32} {a b c ds k : Nat} (h : k < (dl X a b c ds).length) : (dl X a b c ds)[k] = (X a k, X b k, X c k) := by simp [dl]
theorem dl_congr {X Y : Nat → Nat → Int32} {a b c a' b' c' ds : Nat} (h : ∀ k, k < ds → X a k = Y a' k ∧ X b k = Y b' k ∧ X c k = Y c' k) : dl X a b c ds = dl Y a' b' c' ds := by
  unfold dl
  apply List.map_congr_left
  intro k hk
  obtain ⟨h1, h2, h3⟩ := h k (List.mem_range.mp hk)
  rw [h1, h2, h3]
theorem dl_rm {X u : Nat → Nat → Int32} {a b c ds k : Nat} (hk : k < ds) (h : ∀ x, (x = a ∨ x = b ∨ x = c) → ∀ j, j < ds - 1 → u x j = if j < k then X x j else X x (j + 1)) : dl u a b c (ds - 1) = (dl X a b c ds).eraseIdx k := by
  apply List.ext_getElem
  · rw [List.length_eraseIdx, dl_len, dl_len, if_pos hk]
  · intro j h1 h2
    rw [dl_get, List.getElem_eraseIdx]
    rw [dl_len] at h1
    rw [h a (Or.inl rfl) j h1, h b (Or.inr (Or.inl rfl)) j h1, h c (Or.inr (Or.inr rfl)) j h1]
    split
    · rw [dl_get]
    · rw [dl_get]
/-- a waiting frame of identity id, its node ACTIVE -/
def pm (st : Nat → Int32) (id : Nat) (q : T3) : Bool := decide (q.2.1 = nI id ∧ st q.1.toNatClampNeg = 2)
def dlen (L : List T3) (k : Nat) : Nat := (L.getD k (0, 0, 0)).2.2.toNatClampNeg
/-- the dynamic part of a cycle -/
def dyn (p : Nat → T3 → Bool) (mi : Nat) : Nat → Nat → List T3 → Nat → Nat → List T3 × Nat
  | 0, _, L, _, d => (L, d)
  | f + 1, id, L, m, d => if m ≤ mi then
      (match L.findIdx? (p id) with
      | some k => if m + dlen L k - 1 ≤ mi then dyn p mi f (id + 1) (L.eraseIdx k) (m + dlen L k) (d + 1) else dyn p mi f (id + 1) L (m + 1) d
      | none => dyn p mi f (id + 1) L (m + 1) d)
    else (L, d)
theorem dyn_out {p : Nat → T3 → Bool} {mi f id m d : Nat} {L : List T3} (h : mi < m) : dyn p mi f id L m d = (L, d) := by
  cases f with
  | zero => rfl
  | succ f => unfold dyn; rw [if_neg (by omega)]
theorem dyn_none {p : Nat → T3 → Bool} {mi f id m d : Nat} {L : List T3} (h : m ≤ mi) (hn : L.findIdx? (p id) = none) : dyn p mi (f + 1) id L m d = dyn p mi f (id + 1) L (m + 1) d := by
  conv => lhs; unfold dyn
  rw [if_pos h, hn]
theorem dyn_long {p : Nat → T3 → Bool} {mi f id m d k : Nat} {L : List T3} (h : m ≤ mi) (hn : L.findIdx? (p id) = some k) (hl : ¬ m + dlen L k - 1 ≤ mi) : dyn p mi (f + 1) id L m d = dyn p mi f (id + 1) L (m + 1) d := by
  conv => lhs; unfold dyn
  rw [if_pos h, hn]
  simp only [if_neg hl]
theorem dyn_take {p : Nat → T3 → Bool} {mi f id m d k : Nat} {L : List T3} (h : m ≤ mi) (hn : L.findIdx? (p id) = some k) (hl : m + dlen L k - 1 ≤ mi) : dyn p mi (f + 1) id L m d = dyn p mi f (id + 1) (L.eraseIdx k) (m + dlen L k) (d + 1) := by
  conv => lhs; unfold dyn
  rw [if_pos h, hn]
  simp only [if_pos hl]
theorem fi_none {X : Nat → Nat → Int32} {a b c ds id : Nat} {st : Nat → Int32} (h : ∀ j, j < ds → ¬ (X b j = nI id ∧ st (X a j).toNatClampNeg = 2)) : (dl X a b c ds).findIdx? (pm st id) = none := by
  rw [List.findIdx?_eq_none_iff]
  intro x hx
  obtain ⟨j, hj, rfl⟩ := List.mem_map.mp hx
  exact decide_eq_false (h j (List.mem_range.mp hj))
theorem fi_some {X : Nat → Nat → Int32} {a b c ds id k : Nat} {st : Nat → Int32} (hk : k < ds) (h : X b k = nI id ∧ st (X a k).toNatClampNeg = 2) (hb : ∀ j, j < k → ¬ (X b j = nI id ∧ st (X a j).toNatClampNeg = 2)) : (dl X a b c ds).findIdx? (pm st id) = some k := by
  rw [List.findIdx?_eq_some_iff_getElem]
  refine ⟨by rw [dl_len]; exact hk, ?_, ?_⟩
  · rw [dl_get]; exact decide_eq_true h
  · intro j hj
    rw [dl_get]
    simp only [pm, decide_eq_true_eq, Bool.not_eq_true, decide_eq_false_iff_not]
    exact hb j hj
theorem dlen_dl {X : Nat → Nat → Int32} {a b c ds k : Nat} (hk : k < ds) : dlen (dl X a b c ds) k = (X c k).toNatClampNeg := by
  have h : (dl X a b c ds)[k]? = some (X a k, X b k, X c k) := by simp [dl, hk]
  unfold dlen
  rw [List.getD_eq_getElem?_getD, h]
  rfl
theorem nI_m1 {k : Nat} (h : k < 2147483648) : nI k ≠ -1 := fun z => by
  have := congrArg Int32.toInt z
  rw [nI_toInt h] at this
  have e : (-1 : Int32).toInt = -1 := by decide
  rw [e] at this
  omega
theorem inR_nat {x : Int32} {lo hi : Nat} (h : inR x lo hi) : x = nI x.toNatClampNeg ∧ lo ≤ x.toNatClampNeg ∧ x.toNatClampNeg ≤ hi ∨ 2147483648 ≤ hi := by
  by_cases q : 2147483648 ≤ hi
  · exact Or.inr q
  · obtain ⟨j, h1, h2, rfl⟩ := inR_of h
    rw [nI_clamp (by omega)]
    exact Or.inl ⟨rfl, h1, h2⟩
end
section
/-! the class's frames -/
theorem sn_keep {u : Nat → Int32} {P : Nat → Prop} {f : Nat → Nat} {n i : Nat} (h : ∀ j, 1 ≤ j → j ≤ n → (u j ≠ 0 ↔ ∃ k, k < i ∧ P k ∧ f k = j)) (hd : ¬ P i) : ∀ j, 1 ≤ j → j ≤ n → (u j ≠ 0 ↔ ∃ k, k < i + 1 ∧ P k ∧ f k = j) := by
  intro j a b
  rw [h j a b]
  constructor
  · rintro ⟨k, h1, h2⟩; exact ⟨k, by omega, h2⟩
  · rintro ⟨k, h1, h2⟩
    by_cases e : k = i
    · subst e; exact absurd h2.1 hd
    · exact ⟨k, by omega, h2⟩
theorem sn_set {u : Nat → Nat → Int32} {P : Nat → Prop} {f : Nat → Nat} {n i a0 t : Nat} (h : ∀ j, 1 ≤ j → j ≤ n → (u a0 j ≠ 0 ↔ ∃ k, k < i ∧ P k ∧ f k = j)) (hd : P i) (ht : f i = t) : ∀ j, 1 ≤ j → j ≤ n → (sX u a0 t 1 a0 j ≠ 0 ↔ ∃ k, k < i + 1 ∧ P k ∧ f k = j) := by
  intro j a b
  rw [sX_app]
  by_cases e : j = t
  · subst e
    rw [if_pos ⟨rfl, rfl⟩]
    exact ⟨fun _ => ⟨i, by omega, hd, ht⟩, fun _ => by decide⟩
  · rw [if_neg (fun z => e z.2), h j a b]
    constructor
    · rintro ⟨k, h1, h2⟩; exact ⟨k, by omega, h2⟩
    · rintro ⟨k, h1, h2⟩
      by_cases e2 : k = i
      · subst e2; exact absurd (h2.2.symm.trans ht) e
      · exact ⟨k, by omega, h2⟩
set_option maxHeartbeats 4000000 in
set_option maxRecDepth 100000 in
theorem c_X2_distance {l : Launch} {D : va_G} {cI cZ cL : ClassId} {g : Nat → Nat} {sl mi n : Nat} {X : Nat → Nat → Int32} {cy ss ds fs : Nat} (hn : n ≤ 16) (i j : Nat) (hi : i ≤ n) (hj : j ≤ n) : RL2 l yX2_distance (.code yX2_distance cX2_distance 3 (some .long)) 1 D (tyz cI cZ cL) [.ref (g 1), .int (nI i), .int (nI j)] (cw g cI cZ sl mi n X cy ss ds fs) (fun r => r = dst (X 2 i) (X 2 j)) := by
  refine RL2.of (own := RX2) (lvs := [(0, .ref (g 1)), (1, .int (nI i)), (2, .int (nI j))]) (by decide) rfl (Nat.le_of_ble_eq_true rfl) rfl ?_
  intro p e s m args below meth c Q C hK hN hP hD ret ls hl
  obtain ⟨hx, hb, hml, hown, hts, hr9, hlk9⟩ := id C
  refine lv_aload_n hx hb dX2_distance_0 rfl (lv_at hl 0 rfl) ?_
  refine va_get (D := D) (ci := 4) (v := .ref (g 12)) (C := RX2) (T := TX2) (N := 12) hx hb hts inX2 hown hK hP 1 rfl rfl 2 (by decide) (hts _ wF_X2_17) (fun _ h9 => h9) rfl dX2_distance_1 ?_
  refine lv_iload_n hx hb dX2_distance_4 rfl (lv_at hl 1 rfl) ?_
  refine k_iald (D := D) (f := X 2) hx hb hK hP 6 0 rfl rfl i rfl (by omega) (by omega) dX2_distance_5 ?_
  refine lv_i2l hx hb dX2_distance_6 rfl ?_
  refine lv_aload_n hx hb dX2_distance_7 rfl (lv_at hl 0 rfl) ?_
  refine va_get (D := D) (ci := 4) (v := .ref (g 12)) (C := RX2) (T := TX2) (N := 12) hx hb hts inX2 hown hK hP 1 rfl rfl 2 (by decide) (hts _ wF_X2_17) (fun _ h9 => h9) rfl dX2_distance_8 ?_
  refine lv_iload_n hx hb dX2_distance_11 rfl (lv_at hl 2 rfl) ?_
  refine k_iald (D := D) (f := X 2) hx hb hK hP 6 0 rfl rfl j rfl (by omega) (by omega) dX2_distance_12 ?_
  refine lv_i2l hx hb dX2_distance_13 rfl ?_
  refine lv_lsub hx hb dX2_distance_14 ?_
  refine va_mabs_long hx hb (by rw [hml]; exact hl.1.symm) hown (hts _ wM_X2_56) (hts _ wT_Lib_MathLoose_abs_long_x) (hts _ wI_Math) (hts _ wC_Lib_MathLoose_abs_long) (by decide) (Nat.le_of_ble_eq_true rfl) (Nat.zero_le _) (Nat.zero_le _) dX2_distance_15 ?_
  exact ret _ _ _ dX2_distance_18 rfl
set_option maxHeartbeats 4000000 in
set_option maxRecDepth 100000 in
theorem c_X2_areWithin {l : Launch} {D : va_G} {cI cZ cL : ClassId} {g : Nat → Nat} {sl mi n : Nat} {X : Nat → Nat → Int32} {cy ss ds fs : Nat} (hn : n ≤ 16) (bd : Int32) : KR l yX2_areWithin (.code yX2_areWithin cX2_areWithin 4 (some .boolean)) 2 D (tyz cI cZ cL) [.ref (g 1), .int bd] (cw g cI cZ sl mi n X cy ss ds fs) (fun r => (r = 1 ∧ ∀ a b, 1 ≤ a → a < b → b ≤ n → (X 1 a = 2 → X 1 b = 2 → dst (X 2 a) (X 2 b) ≤ bd.toInt64)) ∨ (r = 0 ∧ ∃ a b, 1 ≤ a ∧ a < b ∧ b ≤ n ∧ X 1 a = 2 ∧ X 1 b = 2 ∧ ¬ dst (X 2 a) (X 2 b) ≤ bd.toInt64)) := by
  refine KR.ofz (own := RX2) (lvs := [(0, .ref (g 1)), (1, .int bd)]) (by decide) rfl (Nat.le_of_ble_eq_true rfl) rfl ?_
  intro p e s m args below meth c Q C hK hN hP hD ret ls hl
  obtain ⟨hx, hb, hml, hown, hts, hr9, hlk9⟩ := id C
  refine lv_iconst (v := 1) hx hb dX2_areWithin_0 (by decide) ?_
  refine lv_istore_n (lv' := [(2, .int 1), (0, .ref (g 1)), (1, .int bd)]) hx hb dX2_areWithin_1 rfl hl (by decide) rfl (fun ls hl => ?_)
  have L2 : ∀ (kf : Nat) (i : Nat) (ls : Array Slot), (n + 1 - i < kf) → (1 ≤ i) → (i ≤ n + 1) → (∀ a b, 1 ≤ a → a < i → a < b → b ≤ n → (X 1 a = 2 → X 1 b = 2 → dst (X 2 a) (X 2 b) ≤ bd.toInt64)) → (lv_has ls 4 [(0, .ref (g 1)), (1, .int bd), (2, .int (nI i))]) → W p l e (rmK 2) s m args below meth c s.heap [] 0 0 Q (F0 m 2 ls []) := by
    intro kf
    induction kf with
    | zero =>
      intro i ls hm
      exact absurd hm (Nat.not_lt_zero _)
    | succ kf ih2 =>
      intro i ls hm h1 h2 h3 hl
      refine lv_iload_n hx hb dX2_areWithin_2 rfl (lv_at hl 2 rfl) ?_
      refine lv_aload_n hx hb dX2_areWithin_3 rfl (lv_at hl 0 rfl) ?_
      refine va_get (D := D) (ci := 4) (v := .int (nI n)) (C := RX2) (T := TX2) (N := 12) hx hb hts inX2 hown hK hP 1 rfl rfl 0 (by decide) (hts _ wF_X2_7) (fun _ h9 => h9) rfl dX2_areWithin_4 ?_
      refine k_icmp_gt (tgt := 64) hx hb i n rfl rfl (by omega) (by omega) dX2_areWithin_7 (by decide) (fun c7 => ?_) (fun c7 => ?_)
      · skip
        refine lv_iconst (v := 1) hx hb dX2_areWithin_64 (by decide) ?_
        exact ret _ _ _ dX2_areWithin_65 (Or.inr rfl) (Or.inl ⟨rfl, fun a b q1 q2 q3 => h3 a b q1 (by omega) q2 q3⟩)
      · skip
        refine lv_iload_n hx hb dX2_areWithin_10 rfl (lv_at hl 2 rfl) ?_
        refine lv_iconst (v := 1) hx hb dX2_areWithin_11 (by decide) ?_
        refine k_iadd hx hb i 1 rfl rfl dX2_areWithin_12 ?_
        refine lv_istore_n (lv' := [(3, .int (nI (i + 1))), (0, .ref (g 1)), (1, .int bd), (2, .int (nI i))]) hx hb dX2_areWithin_13 rfl hl (by decide) rfl (fun ls hl => ?_)
        have L14 : ∀ (kf : Nat) (k : Nat) (ls : Array Slot), (n + 1 - k < kf) → (i < k) → (k ≤ n + 1) → (∀ b, i < b → b < k → (X 1 i = 2 → X 1 b = 2 → dst (X 2 i) (X 2 b) ≤ bd.toInt64)) → (lv_has ls 4 [(0, .ref (g 1)), (1, .int bd), (2, .int (nI i)), (3, .int (nI k))]) → W p l e (rmK 2) s m args below meth c s.heap [] 0 0 Q (F0 m 14 ls []) := by
          intro kf
          induction kf with
          | zero =>
            intro k ls hm
            exact absurd hm (Nat.not_lt_zero _)
          | succ kf ih14 =>
            intro k ls hm k1 k2 k3 hl
            refine lv_iload_n hx hb dX2_areWithin_14 rfl (lv_at hl 3 rfl) ?_
            refine lv_aload_n hx hb dX2_areWithin_15 rfl (lv_at hl 0 rfl) ?_
            refine va_get (D := D) (ci := 4) (v := .int (nI n)) (C := RX2) (T := TX2) (N := 12) hx hb hts inX2 hown hK hP 1 rfl rfl 0 (by decide) (hts _ wF_X2_7) (fun _ h9 => h9) rfl dX2_areWithin_16 ?_
            refine k_icmp_gt (tgt := 58) hx hb k n rfl rfl (by omega) (by omega) dX2_areWithin_19 (by decide) (fun c19 => ?_) (fun c19 => ?_)
            · skip
              refine k_iinc (k := 2) (lv' := [(2, .int (nI (i + 1))), (0, .ref (g 1)), (1, .int bd), (3, .int (nI k))]) hx hb i rfl dX2_areWithin_58 hl rfl (by decide) rfl (fun ls hl => ?_)
              refine lv_goto (tgt := 2) hx hb dX2_areWithin_61 (by decide) ?_
              exact ih2 (i + 1) _ (by omega) (by omega) (by omega) (fun a b q1 q2 q3 q4 => if e : a = i then by subst e; exact k3 b q3 (by omega) else h3 a b q1 (by omega) q3 q4) (lv_sub hl [1, 2, 0] rfl)
            · skip
              refine lv_aload_n hx hb dX2_areWithin_22 rfl (lv_at hl 0 rfl) ?_
              refine lv_iload_n hx hb dX2_areWithin_23 rfl (lv_at hl 2 rfl) ?_
              refine k_callR (D := D) C hK hN hP hD (c_X2_isActive hn i (by omega)) hl cf_yX2_isActive wM_X2_48 1 4 rfl rfl rfl rfl (Nat.le_of_ble_eq_true rfl) ⟨by decide, by decide⟩ ⟨Nat.zero_le _, Nat.zero_le _⟩ dX2_areWithin_24 (fun r24 hr24 => ?_)
              have hr24 : r24 = (if X 1 i = 2 then 1 else 0) := hr24
              subst hr24
              refine k_ifeq_P (P := (X 1 i = 2)) (tgt := 52) hx hb rfl dX2_areWithin_27 (by decide) (fun c27 => ?_) (fun c27 => ?_)
              · skip
                refine k_iinc (k := 3) (lv' := [(3, .int (nI (k + 1))), (0, .ref (g 1)), (1, .int bd), (2, .int (nI i))]) hx hb k rfl dX2_areWithin_52 hl rfl (by decide) rfl (fun ls hl => ?_)
                refine lv_goto (tgt := 14) hx hb dX2_areWithin_55 (by decide) ?_
                exact ih14 (k + 1) _ (by omega) (by omega) (by omega) (fun b q1 q2 z1 z2 => if e : b = k then (by subst e; first | exact absurd z1 c27 | exact absurd z2 c35 | exact (lg_cmp_le _ _).mp c47) else k3 b q1 (by omega) z1 z2) (lv_sub hl [1, 2, 3, 0] rfl)
              · skip
                refine lv_aload_n hx hb dX2_areWithin_30 rfl (lv_at hl 0 rfl) ?_
                refine lv_iload_n hx hb dX2_areWithin_31 rfl (lv_at hl 3 rfl) ?_
                refine k_callR (D := D) C hK hN hP hD (c_X2_isActive hn k (by omega)) hl cf_yX2_isActive wM_X2_48 1 4 rfl rfl rfl rfl (Nat.le_of_ble_eq_true rfl) ⟨by decide, by decide⟩ ⟨Nat.zero_le _, Nat.zero_le _⟩ dX2_areWithin_32 (fun r32 hr32 => ?_)
                have hr32 : r32 = (if X 1 k = 2 then 1 else 0) := hr32
                subst hr32
                refine k_ifeq_P (P := (X 1 k = 2)) (tgt := 52) hx hb rfl dX2_areWithin_35 (by decide) (fun c35 => ?_) (fun c35 => ?_)
                · skip
                  refine k_iinc (k := 3) (lv' := [(3, .int (nI (k + 1))), (0, .ref (g 1)), (1, .int bd), (2, .int (nI i))]) hx hb k rfl dX2_areWithin_52 hl rfl (by decide) rfl (fun ls hl => ?_)
                  refine lv_goto (tgt := 14) hx hb dX2_areWithin_55 (by decide) ?_
                  exact ih14 (k + 1) _ (by omega) (by omega) (by omega) (fun b q1 q2 z1 z2 => if e : b = k then (by subst e; first | exact absurd z1 c27 | exact absurd z2 c35 | exact (lg_cmp_le _ _).mp c47) else k3 b q1 (by omega) z1 z2) (lv_sub hl [1, 2, 3, 0] rfl)
                · skip
                  refine lv_aload_n hx hb dX2_areWithin_38 rfl (lv_at hl 0 rfl) ?_
                  refine lv_iload_n hx hb dX2_areWithin_39 rfl (lv_at hl 2 rfl) ?_
                  refine lv_iload_n hx hb dX2_areWithin_40 rfl (lv_at hl 3 rfl) ?_
                  refine k_callRl (D := D) C hK hN hP hD (c_X2_distance hn i k (by omega) (by omega)) hl cf_yX2_distance wM_X2_52 1 4 rfl rfl rfl rfl (Nat.le_of_ble_eq_true rfl) ⟨by decide, by decide⟩ ⟨Nat.zero_le _, Nat.zero_le _⟩ dX2_areWithin_41 (fun r41 hr41 => ?_)
                  have hr41 : r41 = (dst (X 2 i) (X 2 k)) := hr41
                  subst hr41
                  refine lv_iload_n hx hb dX2_areWithin_44 rfl (lv_at hl 1 rfl) ?_
                  refine lv_i2l hx hb dX2_areWithin_45 rfl ?_
                  refine W.lcmp hx hb dX2_areWithin_46 ?_
                  refine lv_if_le (tgt := 52) hx hb dX2_areWithin_47 (by decide) (fun c47 => ?_) (fun c47 => ?_)
                  · skip
                    refine k_iinc (k := 3) (lv' := [(3, .int (nI (k + 1))), (0, .ref (g 1)), (1, .int bd), (2, .int (nI i))]) hx hb k rfl dX2_areWithin_52 hl rfl (by decide) rfl (fun ls hl => ?_)
                    refine lv_goto (tgt := 14) hx hb dX2_areWithin_55 (by decide) ?_
                    exact ih14 (k + 1) _ (by omega) (by omega) (by omega) (fun b q1 q2 z1 z2 => if e : b = k then (by subst e; first | exact absurd z1 c27 | exact absurd z2 c35 | exact (lg_cmp_le _ _).mp c47) else k3 b q1 (by omega) z1 z2) (lv_sub hl [1, 2, 3, 0] rfl)
                  · skip
                    refine lv_iconst (v := 0) hx hb dX2_areWithin_50 (by decide) ?_
                    exact ret _ _ _ dX2_areWithin_51 (Or.inl rfl) (Or.inr ⟨rfl, i, k, h1, k1, by omega, c27, c35, fun z => c47 ((lg_cmp_le _ _).mpr z)⟩)
        exact L14 ((n + 1 - (i + 1)) + 1) (i + 1) _ (Nat.lt_succ_self _) (Nat.lt_succ_self _) (by omega) (fun b q1 q2 => absurd q2 (by omega)) (lv_sub hl [1, 2, 3, 0] rfl)
  exact L2 ((n + 1 - 1) + 1) 1 _ (Nat.lt_succ_self _) (Nat.le_refl 1) (by omega) (fun a b q1 q2 => absurd q2 (by omega)) (lv_sub hl [1, 2, 0] rfl)
set_option maxHeartbeats 4000000 in
set_option maxRecDepth 100000 in
theorem c_X3_remainder {l : Launch} {D : va_G} {cI cZ cL : ClassId} {g : Nat → Nat} {sl mi n : Nat} {X : Nat → Nat → Int32} {cy ss ds fs : Nat} (v e0 : Int32) : KR l yX3_remainder (.code yX3_remainder cX3_remainder 2 (some .int)) 0 D (tyz cI cZ cL) [.int v, .int e0] (cw g cI cZ sl mi n X cy ss ds fs) (fun r => r = v &&& (e0 - 1)) := by
  refine KR.of (own := RX3) (lvs := [(0, .int v), (1, .int e0)]) (by decide) rfl (Nat.le_of_ble_eq_true rfl) rfl ?_
  intro p e s m args below meth c Q C hK hN hP hD ret ls hl
  obtain ⟨hx, hb, hml, hown, hts, hr9, hlk9⟩ := id C
  refine lv_iload_n hx hb dX3_remainder_0 rfl (lv_at hl 0 rfl) ?_
  refine lv_iload_n hx hb dX3_remainder_1 rfl (lv_at hl 1 rfl) ?_
  refine lv_iconst (v := 1) hx hb dX3_remainder_2 (by decide) ?_
  refine lv_isub hx hb dX3_remainder_3 ?_
  refine lv_iand hx hb dX3_remainder_4 ?_
  exact ret _ _ _ dX3_remainder_5 rfl
set_option maxHeartbeats 4000000 in
set_option maxRecDepth 100000 in
theorem c_J6_bitCount_0f7a4 {l : Launch} {D : va_G} {cI cZ cL : ClassId} {g : Nat → Nat} {sl mi n : Nat} {X : Nat → Nat → Int32} {cy ss ds fs : Nat} (x : Int32) : KR l yJ6_bitCount_0f7a4 (.code yJ6_bitCount_0f7a4 cJ6_bitCount_0f7a4 1 (some .int)) 0 D (tyz cI cZ cL) [.int x] (cw g cI cZ sl mi n X cy ss ds fs) (fun r => r = bc x) := by
  refine KR.of (own := RJ6) (lvs := [(0, .int x)]) (by decide) rfl (Nat.le_of_ble_eq_true rfl) rfl ?_
  intro p e s m args below meth c Q C hK hN hP hD ret ls hl
  obtain ⟨hx, hb, hml, hown, hts, hr9, hlk9⟩ := id C
  refine lv_iload_n hx hb dJ6_bitCount_0f7a4_0 rfl (lv_at hl 0 rfl) ?_
  refine lv_iload_n hx hb dJ6_bitCount_0f7a4_1 rfl (lv_at hl 0 rfl) ?_
  refine lv_iconst (v := 1) hx hb dJ6_bitCount_0f7a4_2 (by decide) ?_
  refine lv_iushr hx hb dJ6_bitCount_0f7a4_3 rfl ?_
  refine lv_ldcw (v := 1431655765) hx hb hown (hts _ wK_J6_265) dJ6_bitCount_0f7a4_4 ?_
  refine lv_iand hx hb dJ6_bitCount_0f7a4_7 ?_
  refine lv_isub hx hb dJ6_bitCount_0f7a4_8 ?_
  refine k_int (y := (bc1 x)) rfl ?_
  refine lv_istore_n (lv' := [(0, .int (bc1 x))]) hx hb dJ6_bitCount_0f7a4_9 rfl hl (by decide) rfl (fun ls hl => ?_)
  refine lv_iload_n hx hb dJ6_bitCount_0f7a4_10 rfl (lv_at hl 0 rfl) ?_
  refine lv_ldcw (v := 858993459) hx hb hown (hts _ wK_J6_266) dJ6_bitCount_0f7a4_11 ?_
  refine lv_iand hx hb dJ6_bitCount_0f7a4_14 ?_
  refine lv_iload_n hx hb dJ6_bitCount_0f7a4_15 rfl (lv_at hl 0 rfl) ?_
  refine lv_iconst (v := 2) hx hb dJ6_bitCount_0f7a4_16 (by decide) ?_
  refine lv_iushr hx hb dJ6_bitCount_0f7a4_17 rfl ?_
  refine lv_ldcw (v := 858993459) hx hb hown (hts _ wK_J6_266) dJ6_bitCount_0f7a4_18 ?_
  refine lv_iand hx hb dJ6_bitCount_0f7a4_21 ?_
  refine lv_iadd hx hb dJ6_bitCount_0f7a4_22 ?_
  refine k_int (y := (bc2 (bc1 x))) rfl ?_
  refine lv_istore_n (lv' := [(0, .int (bc2 (bc1 x)))]) hx hb dJ6_bitCount_0f7a4_23 rfl hl (by decide) rfl (fun ls hl => ?_)
  refine lv_iload_n hx hb dJ6_bitCount_0f7a4_24 rfl (lv_at hl 0 rfl) ?_
  refine lv_iload_n hx hb dJ6_bitCount_0f7a4_25 rfl (lv_at hl 0 rfl) ?_
  refine lv_iconst (v := 4) hx hb dJ6_bitCount_0f7a4_26 (by decide) ?_
  refine lv_iushr hx hb dJ6_bitCount_0f7a4_27 rfl ?_
  refine lv_iadd hx hb dJ6_bitCount_0f7a4_28 ?_
  refine lv_ldcw (v := 252645135) hx hb hown (hts _ wK_J6_267) dJ6_bitCount_0f7a4_29 ?_
  refine lv_iand hx hb dJ6_bitCount_0f7a4_32 ?_
  refine k_int (y := (bc3 (bc2 (bc1 x)))) rfl ?_
  refine lv_istore_n (lv' := [(0, .int (bc3 (bc2 (bc1 x))))]) hx hb dJ6_bitCount_0f7a4_33 rfl hl (by decide) rfl (fun ls hl => ?_)
  refine lv_iload_n hx hb dJ6_bitCount_0f7a4_34 rfl (lv_at hl 0 rfl) ?_
  refine lv_iload_n hx hb dJ6_bitCount_0f7a4_35 rfl (lv_at hl 0 rfl) ?_
  refine lv_bipush (v := 8) hx hb dJ6_bitCount_0f7a4_36 (by decide) ?_
  refine lv_iushr hx hb dJ6_bitCount_0f7a4_38 rfl ?_
  refine lv_iadd hx hb dJ6_bitCount_0f7a4_39 ?_
  refine k_int (y := (bc4 (bc3 (bc2 (bc1 x))))) rfl ?_
  refine lv_istore_n (lv' := [(0, .int (bc4 (bc3 (bc2 (bc1 x)))))]) hx hb dJ6_bitCount_0f7a4_40 rfl hl (by decide) rfl (fun ls hl => ?_)
  refine lv_iload_n hx hb dJ6_bitCount_0f7a4_41 rfl (lv_at hl 0 rfl) ?_
  refine lv_iload_n hx hb dJ6_bitCount_0f7a4_42 rfl (lv_at hl 0 rfl) ?_
  refine lv_bipush (v := 16) hx hb dJ6_bitCount_0f7a4_43 (by decide) ?_
  refine lv_iushr hx hb dJ6_bitCount_0f7a4_45 rfl ?_
  refine lv_iadd hx hb dJ6_bitCount_0f7a4_46 ?_
  refine k_int (y := (bc5 (bc4 (bc3 (bc2 (bc1 x)))))) rfl ?_
  refine lv_istore_n (lv' := [(0, .int (bc5 (bc4 (bc3 (bc2 (bc1 x))))))]) hx hb dJ6_bitCount_0f7a4_47 rfl hl (by decide) rfl (fun ls hl => ?_)
  refine lv_iload_n hx hb dJ6_bitCount_0f7a4_48 rfl (lv_at hl 0 rfl) ?_
  refine lv_bipush (v := 63) hx hb dJ6_bitCount_0f7a4_49 (by decide) ?_
  refine lv_iand hx hb dJ6_bitCount_0f7a4_51 ?_
  exact ret _ _ _ dJ6_bitCount_0f7a4_52 rfl
set_option maxHeartbeats 4000000 in
set_option maxRecDepth 100000 in
theorem c_X3_isEvery {l : Launch} {D : va_G} {cI cZ cL : ClassId} {g : Nat → Nat} {sl mi n : Nat} {X : Nat → Nat → Int32} {cy ss ds fs : Nat} (e0 : Int32) : KR l yX3_isEvery (.code yX3_isEvery cX3_isEvery 1 (some .boolean)) 1 D (tyz cI cZ cL) [.int e0] (cw g cI cZ sl mi n X cy ss ds fs) (fun r => r = if isEv e0 then 1 else 0) := by
  refine KR.ofz (own := RX3) (lvs := [(0, .int e0)]) (by decide) rfl (Nat.le_of_ble_eq_true rfl) rfl ?_
  intro p e s m args below meth c Q C hK hN hP hD ret ls hl
  obtain ⟨hx, hb, hml, hown, hts, hr9, hlk9⟩ := id C
  refine lv_iload_n hx hb dX3_isEvery_0 rfl (lv_at hl 0 rfl) ?_
  refine lv_iconst (v := 1) hx hb dX3_isEvery_1 (by decide) ?_
  refine lv_icmp_lt (tgt := 23) hx hb dX3_isEvery_2 (by decide) (fun c2 => ?_) (fun c2 => ?_)
  · skip
    refine lv_iconst (v := 0) hx hb dX3_isEvery_23 (by decide) ?_
    exact ret _ _ _ dX3_isEvery_24 (Or.inl rfl) (by first | exact ite_n (ev_lo c2) | exact ite_n (ev_hi c8) | exact ite_n (fun z => c16 ((bc_ev c2 c8).mpr z)))
  · skip
    refine lv_iload_n hx hb dX3_isEvery_5 rfl (lv_at hl 0 rfl) ?_
    refine lv_bipush (v := 64) hx hb dX3_isEvery_6 (by decide) ?_
    refine lv_icmp_gt (tgt := 23) hx hb dX3_isEvery_8 (by decide) (fun c8 => ?_) (fun c8 => ?_)
    · skip
      refine lv_iconst (v := 0) hx hb dX3_isEvery_23 (by decide) ?_
      exact ret _ _ _ dX3_isEvery_24 (Or.inl rfl) (by first | exact ite_n (ev_lo c2) | exact ite_n (ev_hi c8) | exact ite_n (fun z => c16 ((bc_ev c2 c8).mpr z)))
    · skip
      refine lv_iload_n hx hb dX3_isEvery_11 rfl (lv_at hl 0 rfl) ?_
      refine k_callS (D := D) C hK hN hP hD (c_J6_bitCount_0f7a4 e0) hl cf_yJ6_bitCount_0f7a4 wM_X3_29 rfl rfl (Nat.le_of_ble_eq_true rfl) ⟨by decide, by decide⟩ ⟨Nat.zero_le _, Nat.zero_le _⟩ dX3_isEvery_12 (fun r12 hr12 => ?_)
      have hr12 : r12 = (bc e0) := hr12
      subst hr12
      refine lv_iconst (v := 1) hx hb dX3_isEvery_15 (by decide) ?_
      refine lv_icmp_ne (tgt := 23) hx hb dX3_isEvery_16 (by decide) (fun c16 => ?_) (fun c16 => ?_)
      · skip
        refine lv_iconst (v := 0) hx hb dX3_isEvery_23 (by decide) ?_
        exact ret _ _ _ dX3_isEvery_24 (Or.inl rfl) (by first | exact ite_n (ev_lo c2) | exact ite_n (ev_hi c8) | exact ite_n (fun z => c16 ((bc_ev c2 c8).mpr z)))
      · skip
        refine lv_iconst (v := 1) hx hb dX3_isEvery_19 (by decide) ?_
        refine lv_goto (tgt := 24) hx hb dX3_isEvery_20 (by decide) ?_
        exact ret _ _ _ dX3_isEvery_24 (Or.inr rfl) (ite_p ((bc_ev c2 c8).mp c16))
set_option maxHeartbeats 4000000 in
set_option maxRecDepth 100000 in
theorem c_X3_isFull {l : Launch} {D : va_G} {cI cZ cL : ClassId} {g : Nat → Nat} {sl mi n : Nat} {X : Nat → Nat → Int32} {cy ss ds fs : Nat} (hs : ss ≤ 100) : KR l yX3_isFull (.code yX3_isFull cX3_isFull 1 (some .boolean)) 0 D (tyz cI cZ cL) [.ref (g 2)] (cw g cI cZ sl mi n X cy ss ds fs) (fun r => r = if 100 ≤ ss then 1 else 0) := by
  refine KR.ofz (own := RX3) (lvs := [(0, .ref (g 2))]) (by decide) rfl (Nat.le_of_ble_eq_true rfl) rfl ?_
  intro p e s m args below meth c Q C hK hN hP hD ret ls hl
  obtain ⟨hx, hb, hml, hown, hts, hr9, hlk9⟩ := id C
  refine lv_aload_n hx hb dX3_isFull_0 rfl (lv_at hl 0 rfl) ?_
  refine va_get (D := D) (ci := 5) (v := .int (nI ss)) (C := RX3) (T := TX3) (N := 6) hx hb hts inX3 hown hK hP 2 rfl rfl 5 (by decide) (hts _ wF_X3_25) (fun _ h9 => h9) rfl dX3_isFull_1 ?_
  refine lv_bipush (v := 100) hx hb dX3_isFull_4 (by decide) ?_
  refine k_icmp_lt (tgt := 13) hx hb ss 100 rfl rfl (by omega) (by omega) dX3_isFull_6 (by decide) (fun c6 => ?_) (fun c6 => ?_)
  · skip
    refine lv_iconst (v := 0) hx hb dX3_isFull_13 (by decide) ?_
    exact ret _ _ _ dX3_isFull_14 (Or.inl rfl) (ite_n (by omega))
  · skip
    refine lv_iconst (v := 1) hx hb dX3_isFull_9 (by decide) ?_
    refine lv_goto (tgt := 14) hx hb dX3_isFull_10 (by decide) ?_
    exact ret _ _ _ dX3_isFull_14 (Or.inr rfl) (ite_p c6)
set_option maxHeartbeats 4000000 in
set_option maxRecDepth 100000 in
theorem c_X3_isOn {l : Launch} {D : va_G} {cI cZ cL : ClassId} {g : Nat → Nat} {sl mi n : Nat} {X : Nat → Nat → Int32} {cy ss ds fs : Nat} (i : Nat) (hi : i < 100) (q ch : Int32) : KR l yX3_isOn (.code yX3_isOn cX3_isOn 4 (some .boolean)) 0 D (tyz cI cZ cL) [.ref (g 2), .int (nI i), .int q, .int ch] (cw g cI cZ sl mi n X cy ss ds fs) (fun r => r = if X 13 i = q ∧ X 14 i &&& ch ≠ 0 then 1 else 0) := by
  refine KR.ofz (own := RX3) (lvs := [(0, .ref (g 2)), (1, .int (nI i)), (2, .int q), (3, .int ch)]) (by decide) rfl (Nat.le_of_ble_eq_true rfl) rfl ?_
  intro p e s m args below meth c Q C hK hN hP hD ret ls hl
  obtain ⟨hx, hb, hml, hown, hts, hr9, hlk9⟩ := id C
  refine lv_aload_n hx hb dX3_isOn_0 rfl (lv_at hl 0 rfl) ?_
  refine va_get (D := D) (ci := 5) (v := .ref (g 23)) (C := RX3) (T := TX3) (N := 6) hx hb hts inX3 hown hK hP 2 rfl rfl 1 (by decide) (hts _ wF_X3_13) (fun _ h9 => h9) rfl dX3_isOn_1 ?_
  refine lv_iload_n hx hb dX3_isOn_4 rfl (lv_at hl 1 rfl) ?_
  refine k_iald (D := D) (f := X 13) hx hb hK hP 17 0 rfl rfl i rfl (by omega) (by omega) dX3_isOn_5 ?_
  refine lv_iload_n hx hb dX3_isOn_6 rfl (lv_at hl 2 rfl) ?_
  refine lv_icmp_ne (tgt := 25) hx hb dX3_isOn_7 (by decide) (fun c7 => ?_) (fun c7 => ?_)
  · skip
    refine lv_iconst (v := 0) hx hb dX3_isOn_25 (by decide) ?_
    exact ret _ _ _ dX3_isOn_26 (Or.inl rfl) (by first | exact ite_n (fun z => c7 z.1) | exact ite_n (fun z => z.2 c18))
  · skip
    refine lv_aload_n hx hb dX3_isOn_10 rfl (lv_at hl 0 rfl) ?_
    refine va_get (D := D) (ci := 5) (v := .ref (g 24)) (C := RX3) (T := TX3) (N := 6) hx hb hts inX3 hown hK hP 2 rfl rfl 2 (by decide) (hts _ wF_X3_16) (fun _ h9 => h9) rfl dX3_isOn_11 ?_
    refine lv_iload_n hx hb dX3_isOn_14 rfl (lv_at hl 1 rfl) ?_
    refine k_iald (D := D) (f := X 14) hx hb hK hP 18 0 rfl rfl i rfl (by omega) (by omega) dX3_isOn_15 ?_
    refine lv_iload_n hx hb dX3_isOn_16 rfl (lv_at hl 3 rfl) ?_
    refine lv_iand hx hb dX3_isOn_17 ?_
    refine lv_if_eq (tgt := 25) hx hb dX3_isOn_18 (by decide) (fun c18 => ?_) (fun c18 => ?_)
    · skip
      refine lv_iconst (v := 0) hx hb dX3_isOn_25 (by decide) ?_
      exact ret _ _ _ dX3_isOn_26 (Or.inl rfl) (by first | exact ite_n (fun z => c7 z.1) | exact ite_n (fun z => z.2 c18))
    · skip
      refine lv_iconst (v := 1) hx hb dX3_isOn_21 (by decide) ?_
      refine lv_goto (tgt := 26) hx hb dX3_isOn_22 (by decide) ?_
      exact ret _ _ _ dX3_isOn_26 (Or.inr rfl) (ite_p ⟨c7, c18⟩)
set_option maxHeartbeats 4000000 in
set_option maxRecDepth 100000 in
theorem c_X3_isIn {l : Launch} {D : va_G} {cI cZ cL : ClassId} {g : Nat → Nat} {sl mi n : Nat} {X : Nat → Nat → Int32} {cy ss ds fs : Nat} (i : Nat) (hi : i < 100) (cv : Int32) : KR l yX3_isIn (.code yX3_isIn cX3_isIn 3 (some .boolean)) 1 D (tyz cI cZ cL) [.ref (g 2), .int (nI i), .int cv] (cw g cI cZ sl mi n X cy ss ds fs) (fun r => r = if cv &&& (X 16 i - 1) = X 15 i then 1 else 0) := by
  refine KR.ofz (own := RX3) (lvs := [(0, .ref (g 2)), (1, .int (nI i)), (2, .int cv)]) (by decide) rfl (Nat.le_of_ble_eq_true rfl) rfl ?_
  intro p e s m args below meth c Q C hK hN hP hD ret ls hl
  obtain ⟨hx, hb, hml, hown, hts, hr9, hlk9⟩ := id C
  refine lv_iload_n hx hb dX3_isIn_0 rfl (lv_at hl 2 rfl) ?_
  refine lv_aload_n hx hb dX3_isIn_1 rfl (lv_at hl 0 rfl) ?_
  refine va_get (D := D) (ci := 5) (v := .ref (g 26)) (C := RX3) (T := TX3) (N := 6) hx hb hts inX3 hown hK hP 2 rfl rfl 4 (by decide) (hts _ wF_X3_22) (fun _ h9 => h9) rfl dX3_isIn_2 ?_
  refine lv_iload_n hx hb dX3_isIn_5 rfl (lv_at hl 1 rfl) ?_
  refine k_iald (D := D) (f := X 16) hx hb hK hP 20 0 rfl rfl i rfl (by omega) (by omega) dX3_isIn_6 ?_
  refine k_callS (D := D) C hK hN hP hD (c_X3_remainder cv (X 16 i)) hl cf_yX3_remainder wM_X3_45 rfl rfl (Nat.le_of_ble_eq_true rfl) ⟨by decide, by decide⟩ ⟨Nat.zero_le _, Nat.zero_le _⟩ dX3_isIn_7 (fun r7 hr7 => ?_)
  have hr7 : r7 = (cv &&& ((X 16 i) - 1)) := hr7
  subst hr7
  refine lv_aload_n hx hb dX3_isIn_10 rfl (lv_at hl 0 rfl) ?_
  refine va_get (D := D) (ci := 5) (v := .ref (g 25)) (C := RX3) (T := TX3) (N := 6) hx hb hts inX3 hown hK hP 2 rfl rfl 3 (by decide) (hts _ wF_X3_19) (fun _ h9 => h9) rfl dX3_isIn_11 ?_
  refine lv_iload_n hx hb dX3_isIn_14 rfl (lv_at hl 1 rfl) ?_
  refine k_iald (D := D) (f := X 15) hx hb hK hP 19 0 rfl rfl i rfl (by omega) (by omega) dX3_isIn_15 ?_
  refine lv_icmp_ne (tgt := 23) hx hb dX3_isIn_16 (by decide) (fun c16 => ?_) (fun c16 => ?_)
  · skip
    refine lv_iconst (v := 0) hx hb dX3_isIn_23 (by decide) ?_
    exact ret _ _ _ dX3_isIn_24 (Or.inl rfl) (ite_n c16)
  · skip
    refine lv_iconst (v := 1) hx hb dX3_isIn_19 (by decide) ?_
    refine lv_goto (tgt := 24) hx hb dX3_isIn_20 (by decide) ?_
    exact ret _ _ _ dX3_isIn_24 (Or.inr rfl) (ite_p c16)
set_option maxHeartbeats 4000000 in
set_option maxRecDepth 100000 in
theorem c_X3_clashes {l : Launch} {D : va_G} {cI cZ cL : ClassId} {g : Nat → Nat} {sl mi n : Nat} {X : Nat → Nat → Int32} {cy ss ds fs : Nat} (hs : ss ≤ 100) (q ch ba ev : Int32) : KR l yX3_clashes (.code yX3_clashes cX3_clashes 7 (some .boolean)) 1 D (tyz cI cZ cL) [.ref (g 2), .int q, .int ch, .int ba, .int ev] (cw g cI cZ sl mi n X cy ss ds fs) (fun r => (r = 1 ∧ ∃ i, i < ss ∧ Cl (X 13) (X 14) (X 15) (X 16) q ch ba ev i) ∨ (r = 0 ∧ ∀ i, i < ss → ¬ Cl (X 13) (X 14) (X 15) (X 16) q ch ba ev i)) := by
  refine KR.ofz (own := RX3) (lvs := [(0, .ref (g 2)), (1, .int q), (2, .int ch), (3, .int ba), (4, .int ev)]) (by decide) rfl (Nat.le_of_ble_eq_true rfl) rfl ?_
  intro p e s m args below meth c Q C hK hN hP hD ret ls hl
  obtain ⟨hx, hb, hml, hown, hts, hr9, hlk9⟩ := id C
  refine lv_iconst (v := 0) hx hb dX3_clashes_0 (by decide) ?_
  refine lv_istore (lv' := [(5, .int 0), (0, .ref (g 2)), (1, .int q), (2, .int ch), (3, .int ba), (4, .int ev)]) hx hb dX3_clashes_1 hl (by decide) rfl (fun ls hl => ?_)
  have L3 : ∀ (kf : Nat) (i : Nat) (ls : Array Slot), (ss - i < kf) → (i ≤ ss) → (∀ j, j < i → ¬ Cl (X 13) (X 14) (X 15) (X 16) q ch ba ev j) → (lv_has ls 7 [(0, .ref (g 2)), (1, .int q), (2, .int ch), (3, .int ba), (4, .int ev), (5, .int (nI i))]) → W p l e (rmK 1) s m args below meth c s.heap [] 0 0 Q (F0 m 3 ls []) := by
    intro kf
    induction kf with
    | zero =>
      intro i ls hm
      exact absurd hm (Nat.not_lt_zero _)
    | succ kf ih3 =>
      intro i ls hm h2 h3 hl
      refine lv_iload hx hb dX3_clashes_3 (lv_at hl 5 rfl) ?_
      refine lv_aload_n hx hb dX3_clashes_5 rfl (lv_at hl 0 rfl) ?_
      refine va_get (D := D) (ci := 5) (v := .int (nI ss)) (C := RX3) (T := TX3) (N := 6) hx hb hts inX3 hown hK hP 2 rfl rfl 5 (by decide) (hts _ wF_X3_25) (fun _ h9 => h9) rfl dX3_clashes_6 ?_
      refine k_icmp_ge (tgt := 66) hx hb i ss rfl rfl (by omega) (by omega) dX3_clashes_9 (by decide) (fun c9 => ?_) (fun c9 => ?_)
      · skip
        refine lv_iconst (v := 0) hx hb dX3_clashes_66 (by decide) ?_
        exact ret _ _ _ dX3_clashes_67 (Or.inl rfl) (Or.inr ⟨rfl, fun j b => h3 j (by omega)⟩)
      · skip
        refine lv_iload hx hb dX3_clashes_12 (lv_at hl 4 rfl) ?_
        refine lv_aload_n hx hb dX3_clashes_14 rfl (lv_at hl 0 rfl) ?_
        refine va_get (D := D) (ci := 5) (v := .ref (g 26)) (C := RX3) (T := TX3) (N := 6) hx hb hts inX3 hown hK hP 2 rfl rfl 4 (by decide) (hts _ wF_X3_22) (fun _ h9 => h9) rfl dX3_clashes_15 ?_
        refine lv_iload hx hb dX3_clashes_18 (lv_at hl 5 rfl) ?_
        refine k_iald (D := D) (f := X 16) hx hb hK hP 20 0 rfl rfl i rfl (by omega) (by omega) dX3_clashes_20 ?_
        refine va_mmin hx hb (by rw [hml]; exact hl.1.symm) hown (hts _ wM_X3_35) (hts _ wT_Lib_Math_min_name) (hts _ wI_Math) (hts _ wC_Lib_Math_min) (by decide) (Nat.le_of_ble_eq_true rfl) (Nat.zero_le _) (Nat.zero_le _) dX3_clashes_21 ?_
        refine lv_istore (lv' := [(6, .int (if (X 16 i) < ev then (X 16 i) else ev)), (0, .ref (g 2)), (1, .int q), (2, .int ch), (3, .int ba), (4, .int ev), (5, .int (nI i))]) hx hb dX3_clashes_24 hl (by decide) rfl (fun ls hl => ?_)
        refine lv_aload_n hx hb dX3_clashes_26 rfl (lv_at hl 1 rfl) ?_
        refine lv_iload hx hb dX3_clashes_27 (lv_at hl 6 rfl) ?_
        refine lv_iload_n hx hb dX3_clashes_29 rfl (lv_at hl 2 rfl) ?_
        refine lv_iload_n hx hb dX3_clashes_30 rfl (lv_at hl 3 rfl) ?_
        refine k_callR (D := D) C hK hN hP hD (c_X3_isOn i (by omega) q ch) hl cf_yX3_isOn wM_X3_41 2 5 rfl rfl rfl rfl (Nat.le_of_ble_eq_true rfl) ⟨by decide, by decide⟩ ⟨Nat.zero_le _, Nat.zero_le _⟩ dX3_clashes_31 (fun r31 hr31 => ?_)
        have hr31 : r31 = (if X 13 i = q ∧ X 14 i &&& ch ≠ 0 then 1 else 0) := hr31
        subst hr31
        refine k_ifeq_P (P := (X 13 i = q ∧ X 14 i &&& ch ≠ 0)) (tgt := 60) hx hb rfl dX3_clashes_34 (by decide) (fun c34 => ?_) (fun c34 => ?_)
        · skip
          refine k_iinc (k := 6) (lv' := [(5, .int (nI (i + 1))), (6, .int (if (X 16 i) < ev then (X 16 i) else ev)), (0, .ref (g 2)), (1, .int q), (2, .int ch), (3, .int ba), (4, .int ev)]) hx hb i rfl dX3_clashes_60 hl rfl (by decide) rfl (fun ls hl => ?_)
          refine lv_goto (tgt := 3) hx hb dX3_clashes_63 (by decide) ?_
          exact ih3 (i + 1) _ (by omega) (by omega) (fun j b => if e : j = i then (by subst e; first | exact fun z => c34 z.1 | exact fun z => c55 z.2) else h3 j (by omega)) (lv_sub hl [2, 3, 4, 5, 6, 0] rfl)
        · skip
          refine lv_iload_n hx hb dX3_clashes_37 rfl (lv_at hl 4 rfl) ?_
          refine lv_iload hx hb dX3_clashes_38 (lv_at hl 0 rfl) ?_
          refine k_callS (D := D) C hK hN hP hD (c_X3_remainder ba (if (X 16 i) < ev then (X 16 i) else ev)) hl cf_yX3_remainder wM_X3_45 rfl rfl (Nat.le_of_ble_eq_true rfl) ⟨by decide, by decide⟩ ⟨Nat.zero_le _, Nat.zero_le _⟩ dX3_clashes_40 (fun r40 hr40 => ?_)
          have hr40 : r40 = (ba &&& ((if (X 16 i) < ev then (X 16 i) else ev) - 1)) := hr40
          subst hr40
          refine lv_aload_n hx hb dX3_clashes_43 rfl (lv_at hl 1 rfl) ?_
          refine va_get (D := D) (ci := 5) (v := .ref (g 25)) (C := RX3) (T := TX3) (N := 6) hx hb hts inX3 hown hK hP 2 rfl rfl 3 (by decide) (hts _ wF_X3_19) (fun _ h9 => h9) rfl dX3_clashes_44 ?_
          refine lv_iload hx hb dX3_clashes_47 (lv_at hl 6 rfl) ?_
          refine k_iald (D := D) (f := X 15) hx hb hK hP 19 0 rfl rfl i rfl (by omega) (by omega) dX3_clashes_49 ?_
          refine lv_iload hx hb dX3_clashes_50 (lv_at hl 0 rfl) ?_
          refine k_callS (D := D) C hK hN hP hD (c_X3_remainder (X 15 i) (if (X 16 i) < ev then (X 16 i) else ev)) hl cf_yX3_remainder wM_X3_45 rfl rfl (Nat.le_of_ble_eq_true rfl) ⟨by decide, by decide⟩ ⟨Nat.zero_le _, Nat.zero_le _⟩ dX3_clashes_52 (fun r52 hr52 => ?_)
          have hr52 : r52 = ((X 15 i) &&& ((if (X 16 i) < ev then (X 16 i) else ev) - 1)) := hr52
          subst hr52
          refine lv_icmp_ne (tgt := 60) hx hb dX3_clashes_55 (by decide) (fun c55 => ?_) (fun c55 => ?_)
          · skip
            refine k_iinc (k := 6) (lv' := [(5, .int (nI (i + 1))), (6, .int (if (X 16 i) < ev then (X 16 i) else ev)), (0, .ref (g 2)), (1, .int q), (2, .int ch), (3, .int ba), (4, .int ev)]) hx hb i rfl dX3_clashes_60 hl rfl (by decide) rfl (fun ls hl => ?_)
            refine lv_goto (tgt := 3) hx hb dX3_clashes_63 (by decide) ?_
            exact ih3 (i + 1) _ (by omega) (by omega) (fun j b => if e : j = i then (by subst e; first | exact fun z => c34 z.1 | exact fun z => c55 z.2) else h3 j (by omega)) (lv_sub hl [2, 3, 4, 5, 6, 0] rfl)
          · skip
            refine lv_iconst (v := 1) hx hb dX3_clashes_58 (by decide) ?_
            exact ret _ _ _ dX3_clashes_59 (Or.inr rfl) (Or.inl ⟨rfl, i, c9, c34, c55⟩)
  exact L3 ((ss - 0) + 1) 0 _ (Nat.lt_succ_self _) (Nat.zero_le _) (fun j b => absurd b (by omega)) (lv_sub hl [1, 2, 3, 4, 5, 0] rfl)
set_option maxHeartbeats 4000000 in
set_option maxRecDepth 100000 in
theorem c_X3_add {l : Launch} {D : va_G} {cI cZ cL : ClassId} {g : Nat → Nat} {sl mi n : Nat} {X : Nat → Nat → Int32} {cy ss ds fs : Nat} (hs : ss < 100) (v1 v2 v3 v4 v5 : Int32) : KI l yX3_add (.code yX3_add cX3_add 6 (some .int)) 0 D (tyz cI cZ cL) [.ref (g 2), .int v1, .int v2, .int v3, .int v4, .int v5] (cw g cI cZ sl mi n X cy ss ds fs) (fun r u => r = nI (ss + 1) ∧ u = sX (sX (sX (sX (sX X 12 ss v1) 13 ss v2) 14 ss v3) 15 ss v4) 16 ss v5) (fun u : Nat → Nat → Int32 => cw g cI cZ sl mi n u cy (ss + 1) ds fs) := by
  refine KI.of (own := RX3) (lvs := [(0, .ref (g 2)), (1, .int v1), (2, .int v2), (3, .int v3), (4, .int v4), (5, .int v5)]) (by decide) rfl (Nat.le_of_ble_eq_true rfl) rfl ?_
  intro p e s m args below meth c Q C hK hN A hA hP hD hS ret ls hl
  obtain ⟨hx, hb, hml, hown, hts, hr9, hlk9⟩ := id C
  refine lv_aload_n hx hb dX3_add_0 rfl (lv_at hl 0 rfl) ?_
  refine va_get (D := D) (ci := 5) (v := .ref (g 22)) (C := RX3) (T := TX3) (N := 6) hx hb hts inX3 hown hK hP 2 rfl rfl 0 (by decide) (hts _ wF_X3_9) (fun _ h9 => h9) rfl dX3_add_1 ?_
  refine lv_aload_n hx hb dX3_add_4 rfl (lv_at hl 0 rfl) ?_
  refine va_get (D := D) (ci := 5) (v := .int (nI ss)) (C := RX3) (T := TX3) (N := 6) hx hb hts inX3 hown hK hP 2 rfl rfl 5 (by decide) (hts _ wF_X3_25) (fun _ h9 => h9) rfl dX3_add_5 ?_
  refine lv_iload_n hx hb dX3_add_8 rfl (lv_at hl 1 rfl) ?_
  refine k_iast (D := D) (f := X 12) (ws' := cw g cI cZ sl mi n (sX X 12 ss v1) cy ss ds fs) hx hb hK hP hD hS 16 0 rfl rfl ss rfl (by omega) (by omega) rfl dX3_add_9 (fun H locs hP hD hS => ?_)
  refine lv_aload_n hx hb dX3_add_10 rfl (lv_at hl 0 rfl) ?_
  refine va_get (D := D) (ci := 5) (v := .ref (g 23)) (C := RX3) (T := TX3) (N := 6) hx hb hts inX3 hown hK hP 2 rfl rfl 1 (by decide) (hts _ wF_X3_13) (fun _ h9 => h9) rfl dX3_add_11 ?_
  refine lv_aload_n hx hb dX3_add_14 rfl (lv_at hl 0 rfl) ?_
  refine va_get (D := D) (ci := 5) (v := .int (nI ss)) (C := RX3) (T := TX3) (N := 6) hx hb hts inX3 hown hK hP 2 rfl rfl 5 (by decide) (hts _ wF_X3_25) (fun _ h9 => h9) rfl dX3_add_15 ?_
  refine lv_iload_n hx hb dX3_add_18 rfl (lv_at hl 2 rfl) ?_
  refine k_iast (D := D) (f := X 13) (ws' := cw g cI cZ sl mi n (sX (sX X 12 ss v1) 13 ss v2) cy ss ds fs) hx hb hK hP hD hS 17 0 rfl rfl ss rfl (by omega) (by omega) rfl dX3_add_19 (fun H locs hP hD hS => ?_)
  refine lv_aload_n hx hb dX3_add_20 rfl (lv_at hl 0 rfl) ?_
  refine va_get (D := D) (ci := 5) (v := .ref (g 24)) (C := RX3) (T := TX3) (N := 6) hx hb hts inX3 hown hK hP 2 rfl rfl 2 (by decide) (hts _ wF_X3_16) (fun _ h9 => h9) rfl dX3_add_21 ?_
  refine lv_aload_n hx hb dX3_add_24 rfl (lv_at hl 0 rfl) ?_
  refine va_get (D := D) (ci := 5) (v := .int (nI ss)) (C := RX3) (T := TX3) (N := 6) hx hb hts inX3 hown hK hP 2 rfl rfl 5 (by decide) (hts _ wF_X3_25) (fun _ h9 => h9) rfl dX3_add_25 ?_
  refine lv_iload_n hx hb dX3_add_28 rfl (lv_at hl 3 rfl) ?_
  refine k_iast (D := D) (f := X 14) (ws' := cw g cI cZ sl mi n (sX (sX (sX X 12 ss v1) 13 ss v2) 14 ss v3) cy ss ds fs) hx hb hK hP hD hS 18 0 rfl rfl ss rfl (by omega) (by omega) rfl dX3_add_29 (fun H locs hP hD hS => ?_)
  refine lv_aload_n hx hb dX3_add_30 rfl (lv_at hl 0 rfl) ?_
  refine va_get (D := D) (ci := 5) (v := .ref (g 25)) (C := RX3) (T := TX3) (N := 6) hx hb hts inX3 hown hK hP 2 rfl rfl 3 (by decide) (hts _ wF_X3_19) (fun _ h9 => h9) rfl dX3_add_31 ?_
  refine lv_aload_n hx hb dX3_add_34 rfl (lv_at hl 0 rfl) ?_
  refine va_get (D := D) (ci := 5) (v := .int (nI ss)) (C := RX3) (T := TX3) (N := 6) hx hb hts inX3 hown hK hP 2 rfl rfl 5 (by decide) (hts _ wF_X3_25) (fun _ h9 => h9) rfl dX3_add_35 ?_
  refine lv_iload hx hb dX3_add_38 (lv_at hl 4 rfl) ?_
  refine k_iast (D := D) (f := X 15) (ws' := cw g cI cZ sl mi n (sX (sX (sX (sX X 12 ss v1) 13 ss v2) 14 ss v3) 15 ss v4) cy ss ds fs) hx hb hK hP hD hS 19 0 rfl rfl ss rfl (by omega) (by omega) rfl dX3_add_40 (fun H locs hP hD hS => ?_)
  refine lv_aload_n hx hb dX3_add_41 rfl (lv_at hl 0 rfl) ?_
  refine va_get (D := D) (ci := 5) (v := .ref (g 26)) (C := RX3) (T := TX3) (N := 6) hx hb hts inX3 hown hK hP 2 rfl rfl 4 (by decide) (hts _ wF_X3_22) (fun _ h9 => h9) rfl dX3_add_42 ?_
  refine lv_aload_n hx hb dX3_add_45 rfl (lv_at hl 0 rfl) ?_
  refine va_get (D := D) (ci := 5) (v := .int (nI ss)) (C := RX3) (T := TX3) (N := 6) hx hb hts inX3 hown hK hP 2 rfl rfl 5 (by decide) (hts _ wF_X3_25) (fun _ h9 => h9) rfl dX3_add_46 ?_
  refine lv_iload hx hb dX3_add_49 (lv_at hl 5 rfl) ?_
  refine k_iast (D := D) (f := X 16) (ws' := cw g cI cZ sl mi n (sX (sX (sX (sX (sX X 12 ss v1) 13 ss v2) 14 ss v3) 15 ss v4) 16 ss v5) cy ss ds fs) hx hb hK hP hD hS 20 0 rfl rfl ss rfl (by omega) (by omega) rfl dX3_add_51 (fun H locs hP hD hS => ?_)
  refine lv_aload_n hx hb dX3_add_52 rfl (lv_at hl 0 rfl) ?_
  refine lv_dup hx hb dX3_add_53 rfl ?_
  refine va_get (D := D) (ci := 5) (v := .int (nI ss)) (C := RX3) (T := TX3) (N := 6) hx hb hts inX3 hown hK hP 2 rfl rfl 5 (by decide) (hts _ wF_X3_25) (fun _ h9 => h9) rfl dX3_add_54 ?_
  refine lv_iconst (v := 1) hx hb dX3_add_57 (by decide) ?_
  refine k_iadd hx hb ss 1 rfl rfl dX3_add_58 ?_
  refine k_put (D := D) (ci := 5) (v := .int (nI (ss + 1))) (ty := .int) (C := RX3) (T := TX3) (N := 6) (ws' := cw g cI cZ sl mi n (sX (sX (sX (sX (sX X 12 ss v1) 13 ss v2) 14 ss v3) 15 ss v4) 16 ss v5) cy (ss + 1) ds fs) hx hb hts inX3 tyX3 tyX3_ok nmX3 hown hK hP hD hS 2 rfl rfl 5 (by decide) (hts _ wF_X3_25) (fun _ h9 => h9) rfl (by decide +kernel) rfl rfl (Nat.le_of_ble_eq_true rfl) rfl dX3_add_59 (fun H locs hP hD hS => ?_)
  refine lv_aload_n hx hb dX3_add_62 rfl (lv_at hl 0 rfl) ?_
  refine va_get (D := D) (ci := 5) (v := .int (nI (ss + 1))) (C := RX3) (T := TX3) (N := 6) hx hb hts inX3 hown hK hP 2 rfl rfl 5 (by decide) (hts _ wF_X3_25) (fun _ h9 => h9) rfl dX3_add_63 ?_
  exact ret _ (sX (sX (sX (sX (sX X 12 ss v1) 13 ss v2) 14 ss v3) 15 ss v4) 16 ss v5) _ _ _ _ dX3_add_66 hP hD hS ⟨rfl, rfl⟩
set_option maxHeartbeats 4000000 in
set_option maxRecDepth 100000 in
theorem c_X3_nodeAt {l : Launch} {D : va_G} {cI cZ cL : ClassId} {g : Nat → Nat} {sl mi n : Nat} {X : Nat → Nat → Int32} {cy ss ds fs : Nat} (hs : ss ≤ 100) (q ch cv : Int32) : KR l yX3_nodeAt (.code yX3_nodeAt cX3_nodeAt 5 (some .int)) 2 D (tyz cI cZ cL) [.ref (g 2), .int q, .int ch, .int cv] (cw g cI cZ sl mi n X cy ss ds fs) (fun r => (∃ i, i < ss ∧ ((X 13 i = q ∧ X 14 i &&& ch ≠ 0) ∧ cv &&& (X 16 i - 1) = X 15 i) ∧ r = X 12 i) ∨ (r = 0 ∧ ∀ i, i < ss → ¬ ((X 13 i = q ∧ X 14 i &&& ch ≠ 0) ∧ cv &&& (X 16 i - 1) = X 15 i))) := by
  refine KR.of (own := RX3) (lvs := [(0, .ref (g 2)), (1, .int q), (2, .int ch), (3, .int cv)]) (by decide) rfl (Nat.le_of_ble_eq_true rfl) rfl ?_
  intro p e s m args below meth c Q C hK hN hP hD ret ls hl
  obtain ⟨hx, hb, hml, hown, hts, hr9, hlk9⟩ := id C
  refine lv_iconst (v := 0) hx hb dX3_nodeAt_0 (by decide) ?_
  refine lv_istore (lv' := [(4, .int 0), (0, .ref (g 2)), (1, .int q), (2, .int ch), (3, .int cv)]) hx hb dX3_nodeAt_1 hl (by decide) rfl (fun ls hl => ?_)
  have L3 : ∀ (kf : Nat) (i : Nat) (ls : Array Slot), (ss - i < kf) → (i ≤ ss) → (∀ j, j < i → ¬ ((X 13 j = q ∧ X 14 j &&& ch ≠ 0) ∧ cv &&& (X 16 j - 1) = X 15 j)) → (lv_has ls 5 [(0, .ref (g 2)), (1, .int q), (2, .int ch), (3, .int cv), (4, .int (nI i))]) → W p l e (rmK 2) s m args below meth c s.heap [] 0 0 Q (F0 m 3 ls []) := by
    intro kf
    induction kf with
    | zero =>
      intro i ls hm
      exact absurd hm (Nat.not_lt_zero _)
    | succ kf ih3 =>
      intro i ls hm h2 h3 hl
      refine lv_iload hx hb dX3_nodeAt_3 (lv_at hl 4 rfl) ?_
      refine lv_aload_n hx hb dX3_nodeAt_5 rfl (lv_at hl 0 rfl) ?_
      refine va_get (D := D) (ci := 5) (v := .int (nI ss)) (C := RX3) (T := TX3) (N := 6) hx hb hts inX3 hown hK hP 2 rfl rfl 5 (by decide) (hts _ wF_X3_25) (fun _ h9 => h9) rfl dX3_nodeAt_6 ?_
      refine k_icmp_ge (tgt := 47) hx hb i ss rfl rfl (by omega) (by omega) dX3_nodeAt_9 (by decide) (fun c9 => ?_) (fun c9 => ?_)
      · skip
        refine lv_iconst (v := 0) hx hb dX3_nodeAt_47 (by decide) ?_
        exact ret _ _ _ dX3_nodeAt_48 (Or.inr ⟨rfl, fun j b => h3 j (by omega)⟩)
      · skip
        refine lv_aload_n hx hb dX3_nodeAt_12 rfl (lv_at hl 0 rfl) ?_
        refine lv_iload hx hb dX3_nodeAt_13 (lv_at hl 4 rfl) ?_
        refine lv_iload_n hx hb dX3_nodeAt_15 rfl (lv_at hl 1 rfl) ?_
        refine lv_iload_n hx hb dX3_nodeAt_16 rfl (lv_at hl 2 rfl) ?_
        refine k_callR (D := D) C hK hN hP hD (c_X3_isOn i (by omega) q ch) hl cf_yX3_isOn wM_X3_41 2 5 rfl rfl rfl rfl (Nat.le_of_ble_eq_true rfl) ⟨by decide, by decide⟩ ⟨Nat.zero_le _, Nat.zero_le _⟩ dX3_nodeAt_17 (fun r17 hr17 => ?_)
        have hr17 : r17 = (if X 13 i = q ∧ X 14 i &&& ch ≠ 0 then 1 else 0) := hr17
        subst hr17
        refine k_ifeq_P (P := (X 13 i = q ∧ X 14 i &&& ch ≠ 0)) (tgt := 41) hx hb rfl dX3_nodeAt_20 (by decide) (fun c20 => ?_) (fun c20 => ?_)
        · skip
          refine k_iinc (k := 4) (lv' := [(4, .int (nI (i + 1))), (0, .ref (g 2)), (1, .int q), (2, .int ch), (3, .int cv)]) hx hb i rfl dX3_nodeAt_41 hl rfl (by decide) rfl (fun ls hl => ?_)
          refine lv_goto (tgt := 3) hx hb dX3_nodeAt_44 (by decide) ?_
          exact ih3 (i + 1) _ (by omega) (by omega) (fun j b => if e : j = i then (by subst e; first | exact fun z => c20 z.1 | exact fun z => c30 z.2) else h3 j (by omega)) (lv_sub hl [1, 2, 3, 4, 0] rfl)
        · skip
          refine lv_aload_n hx hb dX3_nodeAt_23 rfl (lv_at hl 0 rfl) ?_
          refine lv_iload hx hb dX3_nodeAt_24 (lv_at hl 4 rfl) ?_
          refine lv_iload_n hx hb dX3_nodeAt_26 rfl (lv_at hl 3 rfl) ?_
          refine k_callR (D := D) C hK hN hP hD (c_X3_isIn i (by omega) cv) hl cf_yX3_isIn wM_X3_48 2 5 rfl rfl rfl rfl (Nat.le_of_ble_eq_true rfl) ⟨by decide, by decide⟩ ⟨Nat.zero_le _, Nat.zero_le _⟩ dX3_nodeAt_27 (fun r27 hr27 => ?_)
          have hr27 : r27 = (if cv &&& (X 16 i - 1) = X 15 i then 1 else 0) := hr27
          subst hr27
          refine k_ifeq_P (P := (cv &&& (X 16 i - 1) = X 15 i)) (tgt := 41) hx hb rfl dX3_nodeAt_30 (by decide) (fun c30 => ?_) (fun c30 => ?_)
          · skip
            refine k_iinc (k := 4) (lv' := [(4, .int (nI (i + 1))), (0, .ref (g 2)), (1, .int q), (2, .int ch), (3, .int cv)]) hx hb i rfl dX3_nodeAt_41 hl rfl (by decide) rfl (fun ls hl => ?_)
            refine lv_goto (tgt := 3) hx hb dX3_nodeAt_44 (by decide) ?_
            exact ih3 (i + 1) _ (by omega) (by omega) (fun j b => if e : j = i then (by subst e; first | exact fun z => c20 z.1 | exact fun z => c30 z.2) else h3 j (by omega)) (lv_sub hl [1, 2, 3, 4, 0] rfl)
          · skip
            refine lv_aload_n hx hb dX3_nodeAt_33 rfl (lv_at hl 0 rfl) ?_
            refine va_get (D := D) (ci := 5) (v := .ref (g 22)) (C := RX3) (T := TX3) (N := 6) hx hb hts inX3 hown hK hP 2 rfl rfl 0 (by decide) (hts _ wF_X3_9) (fun _ h9 => h9) rfl dX3_nodeAt_34 ?_
            refine lv_iload hx hb dX3_nodeAt_37 (lv_at hl 4 rfl) ?_
            refine k_iald (D := D) (f := X 12) hx hb hK hP 16 0 rfl rfl i rfl (by omega) (by omega) dX3_nodeAt_39 ?_
            exact ret _ _ _ dX3_nodeAt_40 (Or.inl ⟨i, c9, ⟨c20, c30⟩, rfl⟩)
  exact L3 ((ss - 0) + 1) 0 _ (Nat.lt_succ_self _) (Nat.zero_le _) (fun j b => absurd b (by omega)) (lv_sub hl [1, 2, 3, 4, 0] rfl)
set_option maxHeartbeats 4000000 in
set_option maxRecDepth 100000 in
theorem c_X1_has {l : Launch} {D : va_G} {cI cZ cL : ClassId} {g : Nat → Nat} {sl mi n : Nat} {X : Nat → Nat → Int32} {cy ss ds fs : Nat} (hsl : sl ≤ 60) (ch : Int32) (q : Nat) (hq : q < sl) : KR l yX1_has (.code yX1_has cX1_has 3 (some .boolean)) 0 D (tyz cI cZ cL) [.ref (g 4), .int ch, .int (nI q)] (cw g cI cZ sl mi n X cy ss ds fs) (fun r => r = if X 20 q &&& ch ≠ 0 then 1 else 0) := by
  refine KR.ofz (own := RX1) (lvs := [(0, .ref (g 4)), (1, .int ch), (2, .int (nI q))]) (by decide) rfl (Nat.le_of_ble_eq_true rfl) rfl ?_
  intro p e s m args below meth c Q C hK hN hP hD ret ls hl
  obtain ⟨hx, hb, hml, hown, hts, hr9, hlk9⟩ := id C
  refine lv_aload_n hx hb dX1_has_0 rfl (lv_at hl 0 rfl) ?_
  refine va_get (D := D) (ci := 3) (v := .ref (g 30)) (C := RX1) (T := TX1) (N := 2) hx hb hts inX1 hown hK hP 4 rfl rfl 0 (by decide) (hts _ wF_X1_7) (fun _ h9 => h9) rfl dX1_has_1 ?_
  refine lv_iload_n hx hb dX1_has_4 rfl (lv_at hl 2 rfl) ?_
  refine k_iald (D := D) (f := X 20) hx hb hK hP 24 0 rfl rfl q rfl (by omega) (by omega) dX1_has_5 ?_
  refine lv_iload_n hx hb dX1_has_6 rfl (lv_at hl 1 rfl) ?_
  refine lv_iand hx hb dX1_has_7 ?_
  refine lv_if_eq (tgt := 15) hx hb dX1_has_8 (by decide) (fun c8 => ?_) (fun c8 => ?_)
  · skip
    refine lv_iconst (v := 0) hx hb dX1_has_15 (by decide) ?_
    exact ret _ _ _ dX1_has_16 (Or.inl rfl) (ite_n (fun z => z c8))
  · skip
    refine lv_iconst (v := 1) hx hb dX1_has_11 (by decide) ?_
    refine lv_goto (tgt := 16) hx hb dX1_has_12 (by decide) ?_
    exact ret _ _ _ dX1_has_16 (Or.inr rfl) (ite_p c8)
set_option maxHeartbeats 4000000 in
set_option maxRecDepth 100000 in
theorem c_X1_add {l : Launch} {D : va_G} {cI cZ cL : ClassId} {g : Nat → Nat} {sl mi n : Nat} {X : Nat → Nat → Int32} {cy ss ds fs : Nat} (hsl : sl ≤ 60) (ch : Int32) (q : Nat) (hq : q < sl) : KI l yX1_add (.code yX1_add cX1_add 3 (some .int)) 0 D (tyz cI cZ cL) [.ref (g 4), .int ch, .int (nI q)] (cw g cI cZ sl mi n X cy ss ds fs) (fun r u => r = nI (fs + 1) ∧ u = sX X 20 q (X 20 q ||| ch)) (fun u : Nat → Nat → Int32 => cw g cI cZ sl mi n u cy ss ds (fs + 1)) := by
  refine KI.of (own := RX1) (lvs := [(0, .ref (g 4)), (1, .int ch), (2, .int (nI q))]) (by decide) rfl (Nat.le_of_ble_eq_true rfl) rfl ?_
  intro p e s m args below meth c Q C hK hN A hA hP hD hS ret ls hl
  obtain ⟨hx, hb, hml, hown, hts, hr9, hlk9⟩ := id C
  refine lv_aload_n hx hb dX1_add_0 rfl (lv_at hl 0 rfl) ?_
  refine va_get (D := D) (ci := 3) (v := .ref (g 30)) (C := RX1) (T := TX1) (N := 2) hx hb hts inX1 hown hK hP 4 rfl rfl 0 (by decide) (hts _ wF_X1_7) (fun _ h9 => h9) rfl dX1_add_1 ?_
  refine lv_iload_n hx hb dX1_add_4 rfl (lv_at hl 2 rfl) ?_
  refine lv_dup2_11 hx hb dX1_add_5 rfl rfl ?_
  refine k_iald (D := D) (f := X 20) hx hb hK hP 24 0 rfl rfl q rfl (by omega) (by omega) dX1_add_6 ?_
  refine lv_iload_n hx hb dX1_add_7 rfl (lv_at hl 1 rfl) ?_
  refine lv_ior hx hb dX1_add_8 ?_
  refine k_iast (D := D) (f := X 20) (ws' := cw g cI cZ sl mi n (sX X 20 q ((X 20 q) ||| ch)) cy ss ds fs) hx hb hK hP hD hS 24 0 rfl rfl q rfl (by omega) (by omega) rfl dX1_add_9 (fun H locs hP hD hS => ?_)
  refine lv_aload_n hx hb dX1_add_10 rfl (lv_at hl 0 rfl) ?_
  refine lv_dup hx hb dX1_add_11 rfl ?_
  refine va_get (D := D) (ci := 3) (v := .int (nI fs)) (C := RX1) (T := TX1) (N := 2) hx hb hts inX1 hown hK hP 4 rfl rfl 1 (by decide) (hts _ wF_X1_13) (fun _ h9 => h9) rfl dX1_add_12 ?_
  refine lv_iconst (v := 1) hx hb dX1_add_15 (by decide) ?_
  refine k_iadd hx hb fs 1 rfl rfl dX1_add_16 ?_
  refine k_put (D := D) (ci := 3) (v := .int (nI (fs + 1))) (ty := .int) (C := RX1) (T := TX1) (N := 2) (ws' := cw g cI cZ sl mi n (sX X 20 q ((X 20 q) ||| ch)) cy ss ds (fs + 1)) hx hb hts inX1 tyX1 tyX1_ok nmX1 hown hK hP hD hS 4 rfl rfl 1 (by decide) (hts _ wF_X1_13) (fun _ h9 => h9) rfl (by decide +kernel) rfl rfl (Nat.le_of_ble_eq_true rfl) rfl dX1_add_17 (fun H locs hP hD hS => ?_)
  refine lv_aload_n hx hb dX1_add_20 rfl (lv_at hl 0 rfl) ?_
  refine va_get (D := D) (ci := 3) (v := .int (nI (fs + 1))) (C := RX1) (T := TX1) (N := 2) hx hb hts inX1 hown hK hP 4 rfl rfl 1 (by decide) (hts _ wF_X1_13) (fun _ h9 => h9) rfl dX1_add_21 ?_
  exact ret _ (sX X 20 q ((X 20 q) ||| ch)) _ _ _ _ dX1_add_24 hP hD hS ⟨rfl, rfl⟩
set_option maxHeartbeats 4000000 in
set_option maxRecDepth 100000 in
theorem c_X1_leavesAny {l : Launch} {D : va_G} {cI cZ cL : ClassId} {g : Nat → Nat} {sl mi n : Nat} {X : Nat → Nat → Int32} {cy ss ds fs : Nat} (hsl : sl ≤ 60) (ch : Int32) (q : Nat) (hq : q < sl) : KR l yX1_leavesAny (.code yX1_leavesAny cX1_leavesAny 3 (some .boolean)) 0 D (tyz cI cZ cL) [.ref (g 4), .int ch, .int (nI q)] (cw g cI cZ sl mi n X cy ss ds fs) (fun r => r = if ch &&& (X 20 q ^^^ (-1)) ≠ 0 then 1 else 0) := by
  refine KR.ofz (own := RX1) (lvs := [(0, .ref (g 4)), (1, .int ch), (2, .int (nI q))]) (by decide) rfl (Nat.le_of_ble_eq_true rfl) rfl ?_
  intro p e s m args below meth c Q C hK hN hP hD ret ls hl
  obtain ⟨hx, hb, hml, hown, hts, hr9, hlk9⟩ := id C
  refine lv_iload_n hx hb dX1_leavesAny_0 rfl (lv_at hl 1 rfl) ?_
  refine lv_aload_n hx hb dX1_leavesAny_1 rfl (lv_at hl 0 rfl) ?_
  refine va_get (D := D) (ci := 3) (v := .ref (g 30)) (C := RX1) (T := TX1) (N := 2) hx hb hts inX1 hown hK hP 4 rfl rfl 0 (by decide) (hts _ wF_X1_7) (fun _ h9 => h9) rfl dX1_leavesAny_2 ?_
  refine lv_iload_n hx hb dX1_leavesAny_5 rfl (lv_at hl 2 rfl) ?_
  refine k_iald (D := D) (f := X 20) hx hb hK hP 24 0 rfl rfl q rfl (by omega) (by omega) dX1_leavesAny_6 ?_
  refine lv_iconst (v := (-1)) hx hb dX1_leavesAny_7 (by decide) ?_
  refine lv_ixor hx hb dX1_leavesAny_8 ?_
  refine lv_iand hx hb dX1_leavesAny_9 ?_
  refine lv_if_eq (tgt := 17) hx hb dX1_leavesAny_10 (by decide) (fun c10 => ?_) (fun c10 => ?_)
  · skip
    refine lv_iconst (v := 0) hx hb dX1_leavesAny_17 (by decide) ?_
    exact ret _ _ _ dX1_leavesAny_18 (Or.inl rfl) (ite_n (fun z => z c10))
  · skip
    refine lv_iconst (v := 1) hx hb dX1_leavesAny_13 (by decide) ?_
    refine lv_goto (tgt := 18) hx hb dX1_leavesAny_14 (by decide) ?_
    exact ret _ _ _ dX1_leavesAny_18 (Or.inr rfl) (ite_p c10)
set_option maxHeartbeats 4000000 in
set_option maxRecDepth 100000 in
theorem c_X1_clear {l : Launch} {D : va_G} {cI cZ cL : ClassId} {g : Nat → Nat} {sl mi n : Nat} {X : Nat → Nat → Int32} {cy ss ds fs : Nat} (hsl : sl ≤ 60) : KV l yX1_clear (.code yX1_clear cX1_clear 2 none) 0 D (tyz cI cZ cL) [.ref (g 4)] (cw g cI cZ sl mi n X cy ss ds fs) (fun u => (∀ q, q < sl → u 20 q = 0) ∧ ∀ a, a ≠ 20 → u a = X a) (fun u : Nat → Nat → Int32 => cw g cI cZ sl mi n u cy ss ds 0) := by
  refine KN.of (own := RX1) (lvs := [(0, .ref (g 4))]) (by decide) rfl (Nat.le_of_ble_eq_true rfl) rfl ?_
  intro p e s m args below meth c Q C hK hN A hA hP hD hS hin ret ls hl
  obtain ⟨hx, hb, hml, hown, hts, hr9, hlk9⟩ := id C
  refine lv_iconst (v := 0) hx hb dX1_clear_0 (by decide) ?_
  refine lv_istore_n (lv' := [(1, .int 0), (0, .ref (g 4))]) hx hb dX1_clear_1 rfl hl (by decide) rfl (fun ls hl => ?_)
  have L2 : ∀ (kf : Nat) (i : Nat) (X' : Nat → Nat → Int32) (H : Heap) (locs : List Loc) (ls : Array Slot), (sl - i < kf) → (i ≤ sl) → (∀ j, j < i → X' 20 j = 0) → (∀ a, a ≠ 20 → X' a = X a) → (va_P D vwCl (cw g cI cZ sl mi n X' cy ss ds fs) H) → (va_D A (cw g cI cZ sl mi n X' cy ss ds fs)) → (va_S A s.heap H locs) → (lv_has ls 2 [(0, .ref (g 4)), (1, .int (nI i))]) → W p l e (rmK 0) s m args below meth c H locs 0 0 Q (F0 m 2 ls []) := by
    intro kf
    induction kf with
    | zero =>
      intro i X' H locs ls hm
      exact absurd hm (Nat.not_lt_zero _)
    | succ kf ih2 =>
      intro i X' H locs ls hm h2 h3 h5 hP hD hS hl
      refine lv_iload_n hx hb dX1_clear_2 rfl (lv_at hl 1 rfl) ?_
      refine lv_aload_n hx hb dX1_clear_3 rfl (lv_at hl 0 rfl) ?_
      refine va_get (D := D) (ci := 3) (v := .ref (g 30)) (C := RX1) (T := TX1) (N := 2) hx hb hts inX1 hown hK hP 4 rfl rfl 0 (by decide) (hts _ wF_X1_7) (fun _ h9 => h9) rfl dX1_clear_4 ?_
      refine va_alen (D := D) (v := nI sl) (ty := .int) hx hb hK hP 24 0 rfl rfl rfl dX1_clear_7 ?_
      refine k_icmp_ge (tgt := 24) hx hb i sl rfl rfl (by omega) (by omega) dX1_clear_8 (by decide) (fun c8 => ?_) (fun c8 => ?_)
      · skip
        refine lv_aload_n hx hb dX1_clear_24 rfl (lv_at hl 0 rfl) ?_
        refine lv_iconst (v := 0) hx hb dX1_clear_25 (by decide) ?_
        refine k_put (D := D) (ci := 3) (v := .int (nI 0)) (ty := .int) (C := RX1) (T := TX1) (N := 2) (ws' := cw g cI cZ sl mi n X' cy ss ds 0) hx hb hts inX1 tyX1 tyX1_ok nmX1 hown hK hP hD hS 4 rfl rfl 1 (by decide) (hts _ wF_X1_13) (fun _ h9 => h9) rfl (by decide +kernel) rfl rfl (Nat.le_of_ble_eq_true rfl) rfl dX1_clear_26 (fun H locs hP hD hS => ?_)
        exact ret X' _ _ _ _ dX1_clear_29 hP hD hS ⟨fun j b => h3 j (by omega), h5⟩
      · skip
        refine lv_aload_n hx hb dX1_clear_11 rfl (lv_at hl 0 rfl) ?_
        refine va_get (D := D) (ci := 3) (v := .ref (g 30)) (C := RX1) (T := TX1) (N := 2) hx hb hts inX1 hown hK hP 4 rfl rfl 0 (by decide) (hts _ wF_X1_7) (fun _ h9 => h9) rfl dX1_clear_12 ?_
        refine lv_iload_n hx hb dX1_clear_15 rfl (lv_at hl 1 rfl) ?_
        refine lv_iconst (v := 0) hx hb dX1_clear_16 (by decide) ?_
        refine k_iast (D := D) (f := X' 20) (ws' := cw g cI cZ sl mi n (sX X' 20 i 0) cy ss ds fs) hx hb hK hP hD hS 24 0 rfl rfl i rfl (by omega) (by omega) rfl dX1_clear_17 (fun H locs hP hD hS => ?_)
        refine k_iinc (k := 1) (lv' := [(1, .int (nI (i + 1))), (0, .ref (g 4))]) hx hb i rfl dX1_clear_18 hl rfl (by decide) rfl (fun ls hl => ?_)
        refine lv_goto (tgt := 2) hx hb dX1_clear_21 (by decide) ?_
        exact ih2 (i + 1) (sX X' 20 i 0) _ _ _ (by omega) (by omega) (by intro j b; rw [sX_app]; grind) (fun a ha => by rw [sX_ne ha]; exact h5 a ha) hP hD hS (lv_sub hl [1, 0] rfl)
  exact L2 ((sl - 0) + 1) 0 X _ _ _ (Nat.lt_succ_self _) (Nat.zero_le _) (fun j b => absurd b (by omega)) (fun _ _ => rfl) hP hD hS (lv_sub hl [1, 0] rfl)
set_option maxHeartbeats 4000000 in
set_option maxRecDepth 100000 in
theorem c_X3_send {l : Launch} {D : va_G} {cI cZ cL : ClassId} {g : Nat → Nat} {sl mi n : Nat} {X : Nat → Nat → Int32} {cy ss ds fs : Nat} (hn : n ≤ 16) (hs : ss ≤ 100) (hsl : sl ≤ 60) (cv : Int32) (hF : FrI (X 12) (X 13) n sl ss) : KI l yX3_send (.code yX3_send cX3_send 7 (some .int)) 2 D (tyz cI cZ cL) [.ref (g 2), .int cv, .ref (g 1), .ref (g 4)] (cw g cI cZ sl mi n X cy ss ds fs) (fun r u => r = nI (cnz (fun i => decide (Dn (fun i => decide (cv &&& (X 16 i - 1) = X 15 i)) (X 1) (X 12) (X 13) (X 14) (X 20) i)) ss) ∧ (∀ j, 1 ≤ j → j ≤ n → (u 7 j ≠ 0 ↔ ∃ i, i < ss ∧ Dn (fun i => decide (cv &&& (X 16 i - 1) = X 15 i)) (X 1) (X 12) (X 13) (X 14) (X 20) i ∧ (X 12 i).toNatClampNeg = j)) ∧ ∀ a, a ≠ 7 → u a = X a) (fun u : Nat → Nat → Int32 => cw g cI cZ sl mi n u cy ss ds fs) := by
  refine KI.of (own := RX3) (lvs := [(0, .ref (g 2)), (1, .int cv), (2, .ref (g 1)), (3, .ref (g 4))]) (by decide) rfl (Nat.le_of_ble_eq_true rfl) rfl ?_
  intro p e s m args below meth c Q C hK hN A hA hP hD hS ret ls hl
  obtain ⟨hx, hb, hml, hown, hts, hr9, hlk9⟩ := id C
  refine lv_aload_n hx hb dX3_send_0 rfl (lv_at hl 2 rfl) ?_
  refine k_callV (D := D) C hK hN hP hD hS hA (c_X2_forgetHeard hn) hl cf_yX2_forgetHeard wM_X3_52 1 4 rfl rfl rfl rfl (Nat.le_of_ble_eq_true rfl) ⟨by decide, by decide⟩ ⟨Nat.zero_le _, Nat.zero_le _⟩ dX3_send_1 (fun u1 H locs hr1 hP hD hS _ _ => ?_)
  have hP : va_P D vwCl (cw g cI cZ sl mi n u1 cy ss ds fs) H := hP
  have hD : va_D A (cw g cI cZ sl mi n u1 cy ss ds fs) := hD
  refine lv_iconst (v := 0) hx hb dX3_send_4 (by decide) ?_
  refine lv_istore (lv' := [(4, .int 0), (0, .ref (g 2)), (1, .int cv), (2, .ref (g 1)), (3, .ref (g 4))]) hx hb dX3_send_5 hl (by decide) rfl (fun ls hl => ?_)
  refine lv_iconst (v := 0) hx hb dX3_send_7 (by decide) ?_
  refine lv_istore (lv' := [(5, .int 0), (4, .int 0), (0, .ref (g 2)), (1, .int cv), (2, .ref (g 1)), (3, .ref (g 4))]) hx hb dX3_send_8 hl (by decide) rfl (fun ls hl => ?_)
  have L10 : ∀ (kf : Nat) (i : Nat) (f : Nat) (X' : Nat → Nat → Int32) (H : Heap) (locs : List Loc) (ls : Array Slot), (ss - i < kf) → (i ≤ ss) → (f = cnz (fun i => decide (Dn (fun i => decide (cv &&& (X 16 i - 1) = X 15 i)) (X 1) (X 12) (X 13) (X 14) (X 20) i)) i) → (∀ j, 1 ≤ j → j ≤ n → (X' 7 j ≠ 0 ↔ ∃ k, k < i ∧ Dn (fun i => decide (cv &&& (X 16 i - 1) = X 15 i)) (X 1) (X 12) (X 13) (X 14) (X 20) k ∧ (X 12 k).toNatClampNeg = j)) → (∀ a, a ≠ 7 → X' a = X a) → (va_P D vwCl (cw g cI cZ sl mi n X' cy ss ds fs) H) → (va_D A (cw g cI cZ sl mi n X' cy ss ds fs)) → (va_S A s.heap H locs) → (lv_has ls 7 [(0, .ref (g 2)), (1, .int cv), (2, .ref (g 1)), (3, .ref (g 4)), (4, .int (nI f)), (5, .int (nI i))]) → W p l e (rmK 2) s m args below meth c H locs 0 0 Q (F0 m 10 ls []) := by
    intro kf
    induction kf with
    | zero =>
      intro i f X' H locs ls hm
      exact absurd hm (Nat.not_lt_zero _)
    | succ kf ih10 =>
      intro i f X' H locs ls hm h2 h3 h4 h5 hP hD hS hl
      refine lv_iload hx hb dX3_send_10 (lv_at hl 5 rfl) ?_
      refine lv_aload_n hx hb dX3_send_12 rfl (lv_at hl 0 rfl) ?_
      refine va_get (D := D) (ci := 5) (v := .int (nI ss)) (C := RX3) (T := TX3) (N := 6) hx hb hts inX3 hown hK hP 2 rfl rfl 5 (by decide) (hts _ wF_X3_25) (fun _ h9 => h9) rfl dX3_send_13 ?_
      refine k_icmp_ge (tgt := 98) hx hb i ss rfl rfl (by omega) (by omega) dX3_send_16 (by decide) (fun c16 => ?_) (fun c16 => ?_)
      · skip
        refine lv_iload hx hb dX3_send_98 (lv_at hl 4 rfl) ?_
        exact ret _ X' _ _ _ _ dX3_send_100 hP hD hS (by have e9 : i = ss := (by omega); subst e9; exact ⟨by rw [h3], h4, h5⟩)
      · skip
        have hi : i < ss := c16
        obtain ⟨⟨jn, hj1, hj2, hje⟩, qn, hq1, hqe⟩ : (∃ j : Nat, 1 ≤ j ∧ j ≤ n ∧ X 12 i = nI j) ∧ ∃ q : Nat, q < sl ∧ X 13 i = nI q := ⟨inR_of (hF i hi).1, (hF i hi).2⟩
        have e1 : X' 1 = X 1 := h5 1 (by decide)
        have e12 : X' 12 = X 12 := h5 12 (by decide)
        have e13 : X' 13 = X 13 := h5 13 (by decide)
        have e14 : X' 14 = X 14 := h5 14 (by decide)
        have e15 : X' 15 = X 15 := h5 15 (by decide)
        have e16 : X' 16 = X 16 := h5 16 (by decide)
        have e20 : X' 20 = X 20 := h5 20 (by decide)
        have L48 : ∀ (q6 : Int32) (ls : Array Slot), (q6 = if (X 1 jn = 2 ∧ cv &&& (X 16 i - 1) = X 15 i) then 1 else 0) → (lv_has ls 7 [(0, .ref (g 2)), (1, .int cv), (2, .ref (g 1)), (3, .ref (g 4)), (4, .int (nI f)), (5, .int (nI i))]) → W p l e (rmK 2) s m args below meth c H locs 0 0 Q (F0 m 48 ls [.int q6]) := by
          intro q6 ls h6 hl
          subst h6
          refine lv_istore (lv' := [(6, .int (if X 1 jn = 2 ∧ cv &&& (X 16 i - 1) = X 15 i then 1 else 0)), (0, .ref (g 2)), (1, .int cv), (2, .ref (g 1)), (3, .ref (g 4)), (4, .int (nI f)), (5, .int (nI i))]) hx hb dX3_send_48 hl (by decide) rfl (fun ls hl => ?_)
          refine lv_iload hx hb dX3_send_50 (lv_at hl 0 rfl) ?_
          refine k_ifeq_P (P := (X 1 jn = 2 ∧ cv &&& (X 16 i - 1) = X 15 i)) (tgt := 92) hx hb rfl dX3_send_52 (by decide) (fun c52 => ?_) (fun c52 => ?_)
          · skip
            have hd : ¬ Dn (fun i => decide (cv &&& (X 16 i - 1) = X 15 i)) (X 1) (X 12) (X 13) (X 14) (X 20) i := fun z => c52 ⟨by have := z.1.1; rwa [hje, nI_clamp (by omega)] at this, of_decide_eq_true z.1.2⟩
            refine k_iinc (k := 6) (lv' := [(5, .int (nI (i + 1))), (6, .int (if X 1 jn = 2 ∧ cv &&& (X 16 i - 1) = X 15 i then 1 else 0)), (0, .ref (g 2)), (1, .int cv), (2, .ref (g 1)), (3, .ref (g 4)), (4, .int (nI f))]) hx hb i rfl dX3_send_92 hl rfl (by decide) rfl (fun ls hl => ?_)
            refine lv_goto (tgt := 10) hx hb dX3_send_95 (by decide) ?_
            exact ih10 (i + 1) f X' _ _ _ (by omega) (by omega) (by subst h3; first | exact (cnz_f (decide_eq_false hd)).symm | exact (cnz_t (decide_eq_true hd)).symm) (by first | exact sn_keep h4 hd | exact sn_set h4 hd (by rw [hje]; exact nI_clamp (by omega))) (by first | exact h5 | exact fun a ha => by rw [sX_ne ha]; exact h5 a ha) hP hD hS (lv_sub hl [2, 3, 4, 5, 6, 0] rfl)
          · skip
            refine lv_aload_n hx hb dX3_send_55 rfl (lv_at hl 4 rfl) ?_
            refine lv_aload_n hx hb dX3_send_56 rfl (lv_at hl 1 rfl) ?_
            refine va_get (D := D) (ci := 5) (v := .ref (g 24)) (C := RX3) (T := TX3) (N := 6) hx hb hts inX3 hown hK hP 2 rfl rfl 2 (by decide) (hts _ wF_X3_16) (fun _ h9 => h9) rfl dX3_send_57 ?_
            refine lv_iload hx hb dX3_send_60 (lv_at hl 6 rfl) ?_
            refine k_iald (D := D) (f := X' 14) hx hb hK hP 18 0 rfl rfl i rfl (by omega) (by omega) dX3_send_62 ?_
            refine lv_aload_n hx hb dX3_send_63 rfl (lv_at hl 1 rfl) ?_
            refine va_get (D := D) (ci := 5) (v := .ref (g 23)) (C := RX3) (T := TX3) (N := 6) hx hb hts inX3 hown hK hP 2 rfl rfl 1 (by decide) (hts _ wF_X3_13) (fun _ h9 => h9) rfl dX3_send_64 ?_
            refine lv_iload hx hb dX3_send_67 (lv_at hl 6 rfl) ?_
            refine k_iald (D := D) (f := X' 13) hx hb hK hP 17 0 rfl rfl i rfl (by omega) (by omega) dX3_send_69 ?_
            refine k_int (y := (nI qn)) (by rw [e13]; exact hqe) ?_
            refine k_callR (D := D) C hK hN hP hD (c_X1_leavesAny hsl (X' 14 i) qn (by omega)) hl cf_yX1_leavesAny wM_X3_61 4 3 rfl rfl rfl rfl (Nat.le_of_ble_eq_true rfl) ⟨by decide, by decide⟩ ⟨Nat.zero_le _, Nat.zero_le _⟩ dX3_send_70 (fun r70 hr70 => ?_)
            have hr70 : r70 = (if (X' 14 i) &&& (X' 20 qn ^^^ (-1)) ≠ 0 then 1 else 0) := hr70
            subst hr70
            refine k_ifeq_P (P := ((X' 14 i) &&& (X' 20 qn ^^^ (-1)) ≠ 0)) (tgt := 92) hx hb rfl dX3_send_73 (by decide) (fun c73 => ?_) (fun c73 => ?_)
            · skip
              rw [e14, e20] at c73
              have hd : ¬ Dn (fun i => decide (cv &&& (X 16 i - 1) = X 15 i)) (X 1) (X 12) (X 13) (X 14) (X 20) i := fun z => c73 (by have := z.2; rwa [hqe, nI_clamp (by omega)] at this)
              refine k_iinc (k := 6) (lv' := [(5, .int (nI (i + 1))), (6, .int (if X 1 jn = 2 ∧ cv &&& (X 16 i - 1) = X 15 i then 1 else 0)), (0, .ref (g 2)), (1, .int cv), (2, .ref (g 1)), (3, .ref (g 4)), (4, .int (nI f))]) hx hb i rfl dX3_send_92 hl rfl (by decide) rfl (fun ls hl => ?_)
              refine lv_goto (tgt := 10) hx hb dX3_send_95 (by decide) ?_
              exact ih10 (i + 1) f X' _ _ _ (by omega) (by omega) (by subst h3; first | exact (cnz_f (decide_eq_false hd)).symm | exact (cnz_t (decide_eq_true hd)).symm) (by first | exact sn_keep h4 hd | exact sn_set h4 hd (by rw [hje]; exact nI_clamp (by omega))) (by first | exact h5 | exact fun a ha => by rw [sX_ne ha]; exact h5 a ha) hP hD hS (lv_sub hl [2, 3, 4, 5, 6, 0] rfl)
            · skip
              rw [e14, e20] at c73
              have hd : Dn (fun i => decide (cv &&& (X 16 i - 1) = X 15 i)) (X 1) (X 12) (X 13) (X 14) (X 20) i := ⟨⟨by rw [hje, nI_clamp (by omega)]; exact c52.1, decide_eq_true c52.2⟩, by rw [hqe, nI_clamp (by omega)]; exact c73⟩
              refine lv_aload_n hx hb dX3_send_76 rfl (lv_at hl 3 rfl) ?_
              refine va_getN (host := "FlexCycles") (ref := "FlexCycles$Nodes") (D := D) (ci := 4) (v := .ref (g 17)) (C := RX2) (T := TX2) (N := 12) hx hb hts inX2 hown hK hP 1 rfl rfl 7 (by decide) (va_Nw.use rfl hN.2.2.2.2.1) (fun _ h9 => h9) rfl dX3_send_77 ?_
              refine lv_aload_n hx hb dX3_send_80 rfl (lv_at hl 1 rfl) ?_
              refine va_get (D := D) (ci := 5) (v := .ref (g 22)) (C := RX3) (T := TX3) (N := 6) hx hb hts inX3 hown hK hP 2 rfl rfl 0 (by decide) (hts _ wF_X3_9) (fun _ h9 => h9) rfl dX3_send_81 ?_
              refine lv_iload hx hb dX3_send_84 (lv_at hl 6 rfl) ?_
              refine k_iald (D := D) (f := X' 12) hx hb hK hP 16 0 rfl rfl i rfl (by omega) (by omega) dX3_send_86 ?_
              refine k_int (y := (nI jn)) (by rw [e12]; exact hje) ?_
              refine lv_iconst (v := 1) hx hb dX3_send_87 (by decide) ?_
              refine k_zast (D := D) (f := X' 7) (ws' := cw g cI cZ sl mi n (sX X' 7 jn 1) cy ss ds fs) hx hb hK hP hD hS 11 1 rfl rfl jn rfl (by omega) (by omega) rfl rfl dX3_send_88 (fun H locs hP hD hS => ?_)
              refine k_iinc (k := 5) (lv' := [(4, .int (nI (f + 1))), (6, .int (if X 1 jn = 2 ∧ cv &&& (X 16 i - 1) = X 15 i then 1 else 0)), (0, .ref (g 2)), (1, .int cv), (2, .ref (g 1)), (3, .ref (g 4)), (5, .int (nI i))]) hx hb f rfl dX3_send_89 hl rfl (by decide) rfl (fun ls hl => ?_)
              refine k_iinc (k := 6) (lv' := [(5, .int (nI (i + 1))), (4, .int (nI (f + 1))), (6, .int (if X 1 jn = 2 ∧ cv &&& (X 16 i - 1) = X 15 i then 1 else 0)), (0, .ref (g 2)), (1, .int cv), (2, .ref (g 1)), (3, .ref (g 4))]) hx hb i rfl dX3_send_92 hl rfl (by decide) rfl (fun ls hl => ?_)
              refine lv_goto (tgt := 10) hx hb dX3_send_95 (by decide) ?_
              exact ih10 (i + 1) (f + 1) (sX X' 7 jn 1) _ _ _ (by omega) (by omega) (by subst h3; first | exact (cnz_f (decide_eq_false hd)).symm | exact (cnz_t (decide_eq_true hd)).symm) (by first | exact sn_keep h4 hd | exact sn_set h4 hd (by rw [hje]; exact nI_clamp (by omega))) (by first | exact h5 | exact fun a ha => by rw [sX_ne ha]; exact h5 a ha) hP hD hS (lv_sub hl [3, 4, 5, 6, 1, 0] rfl)
        refine lv_aload_n hx hb dX3_send_19 rfl (lv_at hl 2 rfl) ?_
        refine lv_aload_n hx hb dX3_send_20 rfl (lv_at hl 0 rfl) ?_
        refine va_get (D := D) (ci := 5) (v := .ref (g 22)) (C := RX3) (T := TX3) (N := 6) hx hb hts inX3 hown hK hP 2 rfl rfl 0 (by decide) (hts _ wF_X3_9) (fun _ h9 => h9) rfl dX3_send_21 ?_
        refine lv_iload hx hb dX3_send_24 (lv_at hl 5 rfl) ?_
        refine k_iald (D := D) (f := X' 12) hx hb hK hP 16 0 rfl rfl i rfl (by omega) (by omega) dX3_send_26 ?_
        refine k_int (y := (nI jn)) (by rw [e12]; exact hje) ?_
        refine k_callR (D := D) C hK hN hP hD (c_X2_isActive hn jn (by omega)) hl cf_yX2_isActive wM_X3_57 1 4 rfl rfl rfl rfl (Nat.le_of_ble_eq_true rfl) ⟨by decide, by decide⟩ ⟨Nat.zero_le _, Nat.zero_le _⟩ dX3_send_27 (fun r27 hr27 => ?_)
        have hr27 : r27 = (if X' 1 jn = 2 then 1 else 0) := hr27
        subst hr27
        refine k_ifeq_P (P := (X' 1 jn = 2)) (tgt := 47) hx hb rfl dX3_send_30 (by decide) (fun c30 => ?_) (fun c30 => ?_)
        · skip
          rw [e1] at c30
          refine lv_iconst (v := 0) hx hb dX3_send_47 (by decide) ?_
          exact L48 0 _ (by first | exact ite_p ⟨c30, c40⟩ | exact ite_n (fun z => c30 z.1) | exact ite_n (fun z => c40 z.2)) (lv_sub hl [0, 1, 2, 3, 4, 5] rfl)
        · skip
          rw [e1] at c30
          refine lv_aload_n hx hb dX3_send_33 rfl (lv_at hl 0 rfl) ?_
          refine lv_iload hx hb dX3_send_34 (lv_at hl 5 rfl) ?_
          refine lv_iload_n hx hb dX3_send_36 rfl (lv_at hl 1 rfl) ?_
          refine k_callR (D := D) C hK hN hP hD (c_X3_isIn i (by omega) cv) hl cf_yX3_isIn wM_X3_48 2 5 rfl rfl rfl rfl (Nat.le_of_ble_eq_true rfl) ⟨by decide, by decide⟩ ⟨Nat.zero_le _, Nat.zero_le _⟩ dX3_send_37 (fun r37 hr37 => ?_)
          have hr37 : r37 = (if cv &&& (X' 16 i - 1) = X' 15 i then 1 else 0) := hr37
          subst hr37
          refine k_ifeq_P (P := (cv &&& (X' 16 i - 1) = X' 15 i)) (tgt := 47) hx hb rfl dX3_send_40 (by decide) (fun c40 => ?_) (fun c40 => ?_)
          · skip
            rw [e16, e15] at c40
            refine lv_iconst (v := 0) hx hb dX3_send_47 (by decide) ?_
            exact L48 0 _ (by first | exact ite_p ⟨c30, c40⟩ | exact ite_n (fun z => c30 z.1) | exact ite_n (fun z => c40 z.2)) (lv_sub hl [0, 1, 2, 3, 4, 5] rfl)
          · skip
            rw [e16, e15] at c40
            refine lv_iconst (v := 1) hx hb dX3_send_43 (by decide) ?_
            refine lv_goto (tgt := 48) hx hb dX3_send_44 (by decide) ?_
            exact L48 1 _ (by first | exact ite_p ⟨c30, c40⟩ | exact ite_n (fun z => c30 z.1) | exact ite_n (fun z => c40 z.2)) (lv_sub hl [0, 1, 2, 3, 4, 5] rfl)
  exact L10 ((ss - 0) + 1) 0 0 u1 _ _ _ (Nat.lt_succ_self _) (Nat.zero_le _) rfl (fun j a b => ⟨fun z => absurd (hr1.1 j a b) z, fun ⟨k, hk, _⟩ => absurd hk (by omega)⟩) hr1.2 hP hD hS (lv_sub hl [2, 3, 4, 5, 1, 0] rfl)
end
section
/-! the class's dynamic frames, and the class -/
theorem rm_step {X X' : Nat → Nat → Int32} {at0 i : Nat} (h1 : at0 ≤ i) (h3 : ∀ a, (a = 17 ∨ a = 18 ∨ a = 19) → (∀ k, k < i → X' a k = if k < at0 then X a k else X a (k + 1)) ∧ ∀ k, i ≤ k → X' a k = X a k) :
    ∀ a, (a = 17 ∨ a = 18 ∨ a = 19) → (∀ k, k < i + 1 → sX (sX (sX X' 17 i (X' 17 (i + 1))) 18 i (X' 18 (i + 1))) 19 i (X' 19 (i + 1)) a k = if k < at0 then X a k else X a (k + 1)) ∧ ∀ k, i + 1 ≤ k → sX (sX (sX X' 17 i (X' 17 (i + 1))) 18 i (X' 18 (i + 1))) 19 i (X' 19 (i + 1)) a k = X a k := by
  intro a ha
  obtain ⟨q1, q2⟩ := h3 a ha
  have key : ∀ k, sX (sX (sX X' 17 i (X' 17 (i + 1))) 18 i (X' 18 (i + 1))) 19 i (X' 19 (i + 1)) a k = if k = i then X' a (i + 1) else X' a k := by
    intro k
    rw [sX_app, sX_app, sX_app]
    rcases ha with rfl | rfl | rfl <;> by_cases e : k = i <;> simp [e]
  refine ⟨fun k hk => ?_, fun k hk => ?_⟩
  · rw [key]
    by_cases e : k = i
    · subst e
      rw [if_pos rfl, if_neg (by omega)]
      exact q2 (k + 1) (by omega)
    · rw [if_neg e]; exact q1 k (by omega)
  · rw [key, if_neg (by omega)]
    exact q2 k (by omega)
theorem dy_rm {X u : Nat → Nat → Int32} {n ds k : Nat} (hk : k < ds) (hY : DyI (X 17) (X 19) n ds) (h : ∀ a, (a = 17 ∨ a = 18 ∨ a = 19) → ∀ j, j < ds - 1 → u a j = if j < k then X a j else X a (j + 1)) : DyI (u 17) (u 19) n (ds - 1) := by
  intro j hj
  rw [h 17 (Or.inl rfl) j hj, h 19 (Or.inr (Or.inr rfl)) j hj]
  split
  · exact hY j (by omega)
  · exact hY (j + 1) (by omega)
theorem dy_take {X u : Nat → Nat → Int32} {p : Nat → T3 → Bool} {mi f id m d k ds ln : Nat} (h : m ≤ mi) (hn : (dl X 17 18 19 ds).findIdx? (p id) = some k) (hl : dlen (dl X 17 18 19 ds) k = ln) (hf : m + ln - 1 ≤ mi) (hk : k < ds) (hu : ∀ a, (a = 17 ∨ a = 18 ∨ a = 19) → ∀ j, j < ds - 1 → u a j = if j < k then X a j else X a (j + 1)) :
    dyn p mi f (id + 1) (dl u 17 18 19 (ds - 1)) (m + ln) (d + 1) = dyn p mi (f + 1) id (dl X 17 18 19 ds) m d := by
  rw [dyn_take h hn (by rw [hl]; exact hf), hl, dl_rm hk hu]
set_option maxHeartbeats 4000000 in
set_option maxRecDepth 100000 in
theorem c_X0_isFull {l : Launch} {D : va_G} {cI cZ cL : ClassId} {g : Nat → Nat} {sl mi n : Nat} {X : Nat → Nat → Int32} {cy ss ds fs : Nat} (hd : ds ≤ 100) : KR l yX0_isFull (.code yX0_isFull cX0_isFull 1 (some .boolean)) 0 D (tyz cI cZ cL) [.ref (g 3)] (cw g cI cZ sl mi n X cy ss ds fs) (fun r => r = if 100 ≤ ds then 1 else 0) := by
  refine KR.ofz (own := RX0) (lvs := [(0, .ref (g 3))]) (by decide) rfl (Nat.le_of_ble_eq_true rfl) rfl ?_
  intro p e s m args below meth c Q C hK hN hP hD ret ls hl
  obtain ⟨hx, hb, hml, hown, hts, hr9, hlk9⟩ := id C
  refine lv_aload_n hx hb dX0_isFull_0 rfl (lv_at hl 0 rfl) ?_
  refine va_get (D := D) (ci := 2) (v := .int (nI ds)) (C := RX0) (T := TX0) (N := 4) hx hb hts inX0 hown hK hP 3 rfl rfl 3 (by decide) (hts _ wF_X0_19) (fun _ h9 => h9) rfl dX0_isFull_1 ?_
  refine lv_bipush (v := 100) hx hb dX0_isFull_4 (by decide) ?_
  refine k_icmp_lt (tgt := 13) hx hb ds 100 rfl rfl (by omega) (by omega) dX0_isFull_6 (by decide) (fun c6 => ?_) (fun c6 => ?_)
  · skip
    refine lv_iconst (v := 0) hx hb dX0_isFull_13 (by decide) ?_
    exact ret _ _ _ dX0_isFull_14 (Or.inl rfl) (ite_n (by omega))
  · skip
    refine lv_iconst (v := 1) hx hb dX0_isFull_9 (by decide) ?_
    refine lv_goto (tgt := 14) hx hb dX0_isFull_10 (by decide) ?_
    exact ret _ _ _ dX0_isFull_14 (Or.inr rfl) (ite_p c6)
set_option maxHeartbeats 4000000 in
set_option maxRecDepth 100000 in
theorem c_X0_add {l : Launch} {D : va_G} {cI cZ cL : ClassId} {g : Nat → Nat} {sl mi n : Nat} {X : Nat → Nat → Int32} {cy ss ds fs : Nat} (hd : ds < 100) (v1 v2 v3 : Int32) : KI l yX0_add (.code yX0_add cX0_add 4 (some .int)) 0 D (tyz cI cZ cL) [.ref (g 3), .int v1, .int v2, .int v3] (cw g cI cZ sl mi n X cy ss ds fs) (fun r u => r = nI (ds + 1) ∧ u = sX (sX (sX X 17 ds v1) 18 ds v2) 19 ds v3) (fun u : Nat → Nat → Int32 => cw g cI cZ sl mi n u cy ss (ds + 1) fs) := by
  refine KI.of (own := RX0) (lvs := [(0, .ref (g 3)), (1, .int v1), (2, .int v2), (3, .int v3)]) (by decide) rfl (Nat.le_of_ble_eq_true rfl) rfl ?_
  intro p e s m args below meth c Q C hK hN A hA hP hD hS ret ls hl
  obtain ⟨hx, hb, hml, hown, hts, hr9, hlk9⟩ := id C
  refine lv_aload_n hx hb dX0_add_0 rfl (lv_at hl 0 rfl) ?_
  refine va_get (D := D) (ci := 2) (v := .ref (g 27)) (C := RX0) (T := TX0) (N := 4) hx hb hts inX0 hown hK hP 3 rfl rfl 0 (by decide) (hts _ wF_X0_9) (fun _ h9 => h9) rfl dX0_add_1 ?_
  refine lv_aload_n hx hb dX0_add_4 rfl (lv_at hl 0 rfl) ?_
  refine va_get (D := D) (ci := 2) (v := .int (nI ds)) (C := RX0) (T := TX0) (N := 4) hx hb hts inX0 hown hK hP 3 rfl rfl 3 (by decide) (hts _ wF_X0_19) (fun _ h9 => h9) rfl dX0_add_5 ?_
  refine lv_iload_n hx hb dX0_add_8 rfl (lv_at hl 1 rfl) ?_
  refine k_iast (D := D) (f := X 17) (ws' := cw g cI cZ sl mi n (sX X 17 ds v1) cy ss ds fs) hx hb hK hP hD hS 21 0 rfl rfl ds rfl (by omega) (by omega) rfl dX0_add_9 (fun H locs hP hD hS => ?_)
  refine lv_aload_n hx hb dX0_add_10 rfl (lv_at hl 0 rfl) ?_
  refine va_get (D := D) (ci := 2) (v := .ref (g 28)) (C := RX0) (T := TX0) (N := 4) hx hb hts inX0 hown hK hP 3 rfl rfl 1 (by decide) (hts _ wF_X0_13) (fun _ h9 => h9) rfl dX0_add_11 ?_
  refine lv_aload_n hx hb dX0_add_14 rfl (lv_at hl 0 rfl) ?_
  refine va_get (D := D) (ci := 2) (v := .int (nI ds)) (C := RX0) (T := TX0) (N := 4) hx hb hts inX0 hown hK hP 3 rfl rfl 3 (by decide) (hts _ wF_X0_19) (fun _ h9 => h9) rfl dX0_add_15 ?_
  refine lv_iload_n hx hb dX0_add_18 rfl (lv_at hl 2 rfl) ?_
  refine k_iast (D := D) (f := X 18) (ws' := cw g cI cZ sl mi n (sX (sX X 17 ds v1) 18 ds v2) cy ss ds fs) hx hb hK hP hD hS 22 0 rfl rfl ds rfl (by omega) (by omega) rfl dX0_add_19 (fun H locs hP hD hS => ?_)
  refine lv_aload_n hx hb dX0_add_20 rfl (lv_at hl 0 rfl) ?_
  refine va_get (D := D) (ci := 2) (v := .ref (g 29)) (C := RX0) (T := TX0) (N := 4) hx hb hts inX0 hown hK hP 3 rfl rfl 2 (by decide) (hts _ wF_X0_16) (fun _ h9 => h9) rfl dX0_add_21 ?_
  refine lv_aload_n hx hb dX0_add_24 rfl (lv_at hl 0 rfl) ?_
  refine va_get (D := D) (ci := 2) (v := .int (nI ds)) (C := RX0) (T := TX0) (N := 4) hx hb hts inX0 hown hK hP 3 rfl rfl 3 (by decide) (hts _ wF_X0_19) (fun _ h9 => h9) rfl dX0_add_25 ?_
  refine lv_iload_n hx hb dX0_add_28 rfl (lv_at hl 3 rfl) ?_
  refine k_iast (D := D) (f := X 19) (ws' := cw g cI cZ sl mi n (sX (sX (sX X 17 ds v1) 18 ds v2) 19 ds v3) cy ss ds fs) hx hb hK hP hD hS 23 0 rfl rfl ds rfl (by omega) (by omega) rfl dX0_add_29 (fun H locs hP hD hS => ?_)
  refine lv_aload_n hx hb dX0_add_30 rfl (lv_at hl 0 rfl) ?_
  refine lv_dup hx hb dX0_add_31 rfl ?_
  refine va_get (D := D) (ci := 2) (v := .int (nI ds)) (C := RX0) (T := TX0) (N := 4) hx hb hts inX0 hown hK hP 3 rfl rfl 3 (by decide) (hts _ wF_X0_19) (fun _ h9 => h9) rfl dX0_add_32 ?_
  refine lv_iconst (v := 1) hx hb dX0_add_35 (by decide) ?_
  refine k_iadd hx hb ds 1 rfl rfl dX0_add_36 ?_
  refine k_put (D := D) (ci := 2) (v := .int (nI (ds + 1))) (ty := .int) (C := RX0) (T := TX0) (N := 4) (ws' := cw g cI cZ sl mi n (sX (sX (sX X 17 ds v1) 18 ds v2) 19 ds v3) cy ss (ds + 1) fs) hx hb hts inX0 tyX0 tyX0_ok nmX0 hown hK hP hD hS 3 rfl rfl 3 (by decide) (hts _ wF_X0_19) (fun _ h9 => h9) rfl (by decide +kernel) rfl rfl (Nat.le_of_ble_eq_true rfl) rfl dX0_add_37 (fun H locs hP hD hS => ?_)
  refine lv_aload_n hx hb dX0_add_40 rfl (lv_at hl 0 rfl) ?_
  refine va_get (D := D) (ci := 2) (v := .int (nI (ds + 1))) (C := RX0) (T := TX0) (N := 4) hx hb hts inX0 hown hK hP 3 rfl rfl 3 (by decide) (hts _ wF_X0_19) (fun _ h9 => h9) rfl dX0_add_41 ?_
  exact ret _ (sX (sX (sX X 17 ds v1) 18 ds v2) 19 ds v3) _ _ _ _ dX0_add_44 hP hD hS ⟨rfl, rfl⟩
set_option maxHeartbeats 4000000 in
set_option maxRecDepth 100000 in
theorem c_X0_firstOf {l : Launch} {D : va_G} {cI cZ cL : ClassId} {g : Nat → Nat} {sl mi n : Nat} {X : Nat → Nat → Int32} {cy ss ds fs : Nat} (hn : n ≤ 16) (hd : ds ≤ 100) (idn : Nat) (hY : DyI (X 17) (X 19) n ds) : KR l yX0_firstOf (.code yX0_firstOf cX0_firstOf 4 (some .int)) 1 D (tyz cI cZ cL) [.ref (g 3), .int (nI idn), .ref (g 1)] (cw g cI cZ sl mi n X cy ss ds fs) (fun r => (∃ k : Nat, k < ds ∧ r = nI k ∧ (X 18 k = nI idn ∧ X 1 (X 17 k).toNatClampNeg = 2) ∧ ∀ j, j < k → ¬ (X 18 j = nI idn ∧ X 1 (X 17 j).toNatClampNeg = 2)) ∨ (r = -1 ∧ ∀ j, j < ds → ¬ (X 18 j = nI idn ∧ X 1 (X 17 j).toNatClampNeg = 2))) := by
  refine KR.of (own := RX0) (lvs := [(0, .ref (g 3)), (1, .int (nI idn)), (2, .ref (g 1))]) (by decide) rfl (Nat.le_of_ble_eq_true rfl) rfl ?_
  intro p e s m args below meth c Q C hK hN hP hD ret ls hl
  obtain ⟨hx, hb, hml, hown, hts, hr9, hlk9⟩ := id C
  refine lv_iconst (v := 0) hx hb dX0_firstOf_0 (by decide) ?_
  refine lv_istore_n (lv' := [(3, .int 0), (0, .ref (g 3)), (1, .int (nI idn)), (2, .ref (g 1))]) hx hb dX0_firstOf_1 rfl hl (by decide) rfl (fun ls hl => ?_)
  have L2 : ∀ (kf : Nat) (i : Nat) (ls : Array Slot), (ds - i < kf) → (i ≤ ds) → (∀ j, j < i → ¬ (X 18 j = nI idn ∧ X 1 (X 17 j).toNatClampNeg = 2)) → (lv_has ls 4 [(0, .ref (g 3)), (1, .int (nI idn)), (2, .ref (g 1)), (3, .int (nI i))]) → W p l e (rmK 1) s m args below meth c s.heap [] 0 0 Q (F0 m 2 ls []) := by
    intro kf
    induction kf with
    | zero =>
      intro i ls hm
      exact absurd hm (Nat.not_lt_zero _)
    | succ kf ih2 =>
      intro i ls hm h2 h3 hl
      refine lv_iload_n hx hb dX0_firstOf_2 rfl (lv_at hl 3 rfl) ?_
      refine lv_aload_n hx hb dX0_firstOf_3 rfl (lv_at hl 0 rfl) ?_
      refine va_get (D := D) (ci := 2) (v := .int (nI ds)) (C := RX0) (T := TX0) (N := 4) hx hb hts inX0 hown hK hP 3 rfl rfl 3 (by decide) (hts _ wF_X0_19) (fun _ h9 => h9) rfl dX0_firstOf_4 ?_
      refine k_icmp_ge (tgt := 41) hx hb i ds rfl rfl (by omega) (by omega) dX0_firstOf_7 (by decide) (fun c7 => ?_) (fun c7 => ?_)
      · skip
        refine lv_iconst (v := (-1)) hx hb dX0_firstOf_41 (by decide) ?_
        exact ret _ _ _ dX0_firstOf_42 (Or.inr ⟨rfl, fun j b => h3 j (by omega)⟩)
      · skip
        obtain ⟨jn, hj1, hj2, hje⟩ := inR_of (hY i c7).1
        refine lv_aload_n hx hb dX0_firstOf_10 rfl (lv_at hl 0 rfl) ?_
        refine va_get (D := D) (ci := 2) (v := .ref (g 28)) (C := RX0) (T := TX0) (N := 4) hx hb hts inX0 hown hK hP 3 rfl rfl 1 (by decide) (hts _ wF_X0_13) (fun _ h9 => h9) rfl dX0_firstOf_11 ?_
        refine lv_iload_n hx hb dX0_firstOf_14 rfl (lv_at hl 3 rfl) ?_
        refine k_iald (D := D) (f := X 18) hx hb hK hP 22 0 rfl rfl i rfl (by omega) (by omega) dX0_firstOf_15 ?_
        refine lv_iload_n hx hb dX0_firstOf_16 rfl (lv_at hl 1 rfl) ?_
        refine lv_icmp_ne (tgt := 35) hx hb dX0_firstOf_17 (by decide) (fun c17 => ?_) (fun c17 => ?_)
        · skip
          refine k_iinc (k := 3) (lv' := [(3, .int (nI (i + 1))), (0, .ref (g 3)), (1, .int (nI idn)), (2, .ref (g 1))]) hx hb i rfl dX0_firstOf_35 hl rfl (by decide) rfl (fun ls hl => ?_)
          refine lv_goto (tgt := 2) hx hb dX0_firstOf_38 (by decide) ?_
          exact ih2 (i + 1) _ (by omega) (by omega) (fun j b => if e : j = i then (by subst e; first | exact fun z => c17 z.1 | exact fun z => c30 (by have := z.2; rwa [hje, nI_clamp (by omega)] at this)) else h3 j (by omega)) (lv_sub hl [1, 2, 3, 0] rfl)
        · skip
          refine lv_aload_n hx hb dX0_firstOf_20 rfl (lv_at hl 2 rfl) ?_
          refine lv_aload_n hx hb dX0_firstOf_21 rfl (lv_at hl 0 rfl) ?_
          refine va_get (D := D) (ci := 2) (v := .ref (g 27)) (C := RX0) (T := TX0) (N := 4) hx hb hts inX0 hown hK hP 3 rfl rfl 0 (by decide) (hts _ wF_X0_9) (fun _ h9 => h9) rfl dX0_firstOf_22 ?_
          refine lv_iload_n hx hb dX0_firstOf_25 rfl (lv_at hl 3 rfl) ?_
          refine k_iald (D := D) (f := X 17) hx hb hK hP 21 0 rfl rfl i rfl (by omega) (by omega) dX0_firstOf_26 ?_
          refine k_int (y := (nI jn)) hje ?_
          refine k_callR (D := D) C hK hN hP hD (c_X2_isActive hn jn (by omega)) hl cf_yX2_isActive wM_X0_31 1 4 rfl rfl rfl rfl (Nat.le_of_ble_eq_true rfl) ⟨by decide, by decide⟩ ⟨Nat.zero_le _, Nat.zero_le _⟩ dX0_firstOf_27 (fun r27 hr27 => ?_)
          have hr27 : r27 = (if X 1 jn = 2 then 1 else 0) := hr27
          subst hr27
          refine k_ifeq_P (P := (X 1 jn = 2)) (tgt := 35) hx hb rfl dX0_firstOf_30 (by decide) (fun c30 => ?_) (fun c30 => ?_)
          · skip
            refine k_iinc (k := 3) (lv' := [(3, .int (nI (i + 1))), (0, .ref (g 3)), (1, .int (nI idn)), (2, .ref (g 1))]) hx hb i rfl dX0_firstOf_35 hl rfl (by decide) rfl (fun ls hl => ?_)
            refine lv_goto (tgt := 2) hx hb dX0_firstOf_38 (by decide) ?_
            exact ih2 (i + 1) _ (by omega) (by omega) (fun j b => if e : j = i then (by subst e; first | exact fun z => c17 z.1 | exact fun z => c30 (by have := z.2; rwa [hje, nI_clamp (by omega)] at this)) else h3 j (by omega)) (lv_sub hl [1, 2, 3, 0] rfl)
          · skip
            refine lv_iload_n hx hb dX0_firstOf_33 rfl (lv_at hl 3 rfl) ?_
            exact ret _ _ _ dX0_firstOf_34 (Or.inl ⟨i, c7, rfl, ⟨c17, by rw [hje, nI_clamp (by omega)]; exact c30⟩, h3⟩)
  exact L2 ((ds - 0) + 1) 0 _ (Nat.lt_succ_self _) (Nat.zero_le _) (fun j b => absurd b (by omega)) (lv_sub hl [1, 2, 3, 0] rfl)
set_option maxHeartbeats 4000000 in
set_option maxRecDepth 100000 in
theorem c_X0_remove {l : Launch} {D : va_G} {cI cZ cL : ClassId} {g : Nat → Nat} {sl mi n : Nat} {X : Nat → Nat → Int32} {cy ss ds fs : Nat} (hd : ds ≤ 100) (at0 : Nat) (ha : at0 < ds) : KV l yX0_remove (.code yX0_remove cX0_remove 3 none) 0 D (tyz cI cZ cL) [.ref (g 3), .int (nI at0)] (cw g cI cZ sl mi n X cy ss ds fs) (fun u => (∀ a, (a = 17 ∨ a = 18 ∨ a = 19) → ∀ k, k < ds - 1 → u a k = if k < at0 then X a k else X a (k + 1)) ∧ ∀ a, a ≠ 17 → a ≠ 18 → a ≠ 19 → u a = X a) (fun u : Nat → Nat → Int32 => cw g cI cZ sl mi n u cy ss (ds - 1) fs) := by
  refine KN.of (own := RX0) (lvs := [(0, .ref (g 3)), (1, .int (nI at0))]) (by decide) rfl (Nat.le_of_ble_eq_true rfl) rfl ?_
  intro p e s m args below meth c Q C hK hN A hA hP hD hS hin ret ls hl
  obtain ⟨hx, hb, hml, hown, hts, hr9, hlk9⟩ := id C
  refine lv_aload_n hx hb dX0_remove_0 rfl (lv_at hl 0 rfl) ?_
  refine lv_dup hx hb dX0_remove_1 rfl ?_
  refine va_get (D := D) (ci := 2) (v := .int (nI ds)) (C := RX0) (T := TX0) (N := 4) hx hb hts inX0 hown hK hP 3 rfl rfl 3 (by decide) (hts _ wF_X0_19) (fun _ h9 => h9) rfl dX0_remove_2 ?_
  refine lv_iconst (v := 1) hx hb dX0_remove_5 (by decide) ?_
  refine k_isub hx hb ds 1 rfl rfl (by omega) dX0_remove_6 ?_
  refine k_put (D := D) (ci := 2) (v := .int (nI (ds - 1))) (ty := .int) (C := RX0) (T := TX0) (N := 4) (ws' := cw g cI cZ sl mi n X cy ss (ds - 1) fs) hx hb hts inX0 tyX0 tyX0_ok nmX0 hown hK hP hD hS 3 rfl rfl 3 (by decide) (hts _ wF_X0_19) (fun _ h9 => h9) rfl (by decide +kernel) rfl rfl (Nat.le_of_ble_eq_true rfl) rfl dX0_remove_7 (fun H locs hP hD hS => ?_)
  refine lv_iload_n hx hb dX0_remove_10 rfl (lv_at hl 1 rfl) ?_
  refine lv_istore_n (lv' := [(2, .int (nI at0)), (0, .ref (g 3)), (1, .int (nI at0))]) hx hb dX0_remove_11 rfl hl (by decide) rfl (fun ls hl => ?_)
  have L12 : ∀ (kf : Nat) (i : Nat) (X' : Nat → Nat → Int32) (H : Heap) (locs : List Loc) (ls : Array Slot), (ds - 1 - i < kf) → (at0 ≤ i) → (i ≤ ds - 1) → (∀ a, (a = 17 ∨ a = 18 ∨ a = 19) → (∀ k, k < i → X' a k = if k < at0 then X a k else X a (k + 1)) ∧ ∀ k, i ≤ k → X' a k = X a k) → (∀ a, a ≠ 17 → a ≠ 18 → a ≠ 19 → X' a = X a) → (va_P D vwCl (cw g cI cZ sl mi n X' cy ss (ds - 1) fs) H) → (va_D A (cw g cI cZ sl mi n X' cy ss (ds - 1) fs)) → (va_S A s.heap H locs) → (lv_has ls 3 [(0, .ref (g 3)), (1, .int (nI at0)), (2, .int (nI i))]) → W p l e (rmK 0) s m args below meth c H locs 0 0 Q (F0 m 12 ls []) := by
    intro kf
    induction kf with
    | zero =>
      intro i X' H locs ls hm
      exact absurd hm (Nat.not_lt_zero _)
    | succ kf ih12 =>
      intro i X' H locs ls hm h1 h2 h3 h5 hP hD hS hl
      refine lv_iload_n hx hb dX0_remove_12 rfl (lv_at hl 2 rfl) ?_
      refine lv_aload_n hx hb dX0_remove_13 rfl (lv_at hl 0 rfl) ?_
      refine va_get (D := D) (ci := 2) (v := .int (nI (ds - 1))) (C := RX0) (T := TX0) (N := 4) hx hb hts inX0 hown hK hP 3 rfl rfl 3 (by decide) (hts _ wF_X0_19) (fun _ h9 => h9) rfl dX0_remove_14 ?_
      refine k_icmp_ge (tgt := 68) hx hb i (ds - 1) rfl rfl (by omega) (by omega) dX0_remove_17 (by decide) (fun c17 => ?_) (fun c17 => ?_)
      · skip
        exact ret X' _ _ _ _ dX0_remove_68 hP hD hS ⟨fun a ha k hk => (h3 a ha).1 k (by omega), h5⟩
      · skip
        refine lv_aload_n hx hb dX0_remove_20 rfl (lv_at hl 0 rfl) ?_
        refine va_get (D := D) (ci := 2) (v := .ref (g 27)) (C := RX0) (T := TX0) (N := 4) hx hb hts inX0 hown hK hP 3 rfl rfl 0 (by decide) (hts _ wF_X0_9) (fun _ h9 => h9) rfl dX0_remove_21 ?_
        refine lv_iload_n hx hb dX0_remove_24 rfl (lv_at hl 2 rfl) ?_
        refine lv_aload_n hx hb dX0_remove_25 rfl (lv_at hl 0 rfl) ?_
        refine va_get (D := D) (ci := 2) (v := .ref (g 27)) (C := RX0) (T := TX0) (N := 4) hx hb hts inX0 hown hK hP 3 rfl rfl 0 (by decide) (hts _ wF_X0_9) (fun _ h9 => h9) rfl dX0_remove_26 ?_
        refine lv_iload_n hx hb dX0_remove_29 rfl (lv_at hl 2 rfl) ?_
        refine lv_iconst (v := 1) hx hb dX0_remove_30 (by decide) ?_
        refine k_iadd hx hb i 1 rfl rfl dX0_remove_31 ?_
        refine k_iald (D := D) (f := X' 17) hx hb hK hP 21 0 rfl rfl (i + 1) rfl (by omega) (by omega) dX0_remove_32 ?_
        refine k_iast (D := D) (f := X' 17) (ws' := cw g cI cZ sl mi n (sX X' 17 i (X' 17 (i + 1))) cy ss (ds - 1) fs) hx hb hK hP hD hS 21 0 rfl rfl i rfl (by omega) (by omega) rfl dX0_remove_33 (fun H locs hP hD hS => ?_)
        refine lv_aload_n hx hb dX0_remove_34 rfl (lv_at hl 0 rfl) ?_
        refine va_get (D := D) (ci := 2) (v := .ref (g 28)) (C := RX0) (T := TX0) (N := 4) hx hb hts inX0 hown hK hP 3 rfl rfl 1 (by decide) (hts _ wF_X0_13) (fun _ h9 => h9) rfl dX0_remove_35 ?_
        refine lv_iload_n hx hb dX0_remove_38 rfl (lv_at hl 2 rfl) ?_
        refine lv_aload_n hx hb dX0_remove_39 rfl (lv_at hl 0 rfl) ?_
        refine va_get (D := D) (ci := 2) (v := .ref (g 28)) (C := RX0) (T := TX0) (N := 4) hx hb hts inX0 hown hK hP 3 rfl rfl 1 (by decide) (hts _ wF_X0_13) (fun _ h9 => h9) rfl dX0_remove_40 ?_
        refine lv_iload_n hx hb dX0_remove_43 rfl (lv_at hl 2 rfl) ?_
        refine lv_iconst (v := 1) hx hb dX0_remove_44 (by decide) ?_
        refine k_iadd hx hb i 1 rfl rfl dX0_remove_45 ?_
        refine k_iald (D := D) (f := X' 18) hx hb hK hP 22 0 rfl rfl (i + 1) rfl (by omega) (by omega) dX0_remove_46 ?_
        refine k_iast (D := D) (f := X' 18) (ws' := cw g cI cZ sl mi n (sX (sX X' 17 i (X' 17 (i + 1))) 18 i (X' 18 (i + 1))) cy ss (ds - 1) fs) hx hb hK hP hD hS 22 0 rfl rfl i rfl (by omega) (by omega) rfl dX0_remove_47 (fun H locs hP hD hS => ?_)
        refine lv_aload_n hx hb dX0_remove_48 rfl (lv_at hl 0 rfl) ?_
        refine va_get (D := D) (ci := 2) (v := .ref (g 29)) (C := RX0) (T := TX0) (N := 4) hx hb hts inX0 hown hK hP 3 rfl rfl 2 (by decide) (hts _ wF_X0_16) (fun _ h9 => h9) rfl dX0_remove_49 ?_
        refine lv_iload_n hx hb dX0_remove_52 rfl (lv_at hl 2 rfl) ?_
        refine lv_aload_n hx hb dX0_remove_53 rfl (lv_at hl 0 rfl) ?_
        refine va_get (D := D) (ci := 2) (v := .ref (g 29)) (C := RX0) (T := TX0) (N := 4) hx hb hts inX0 hown hK hP 3 rfl rfl 2 (by decide) (hts _ wF_X0_16) (fun _ h9 => h9) rfl dX0_remove_54 ?_
        refine lv_iload_n hx hb dX0_remove_57 rfl (lv_at hl 2 rfl) ?_
        refine lv_iconst (v := 1) hx hb dX0_remove_58 (by decide) ?_
        refine k_iadd hx hb i 1 rfl rfl dX0_remove_59 ?_
        refine k_iald (D := D) (f := X' 19) hx hb hK hP 23 0 rfl rfl (i + 1) rfl (by omega) (by omega) dX0_remove_60 ?_
        refine k_iast (D := D) (f := X' 19) (ws' := cw g cI cZ sl mi n (sX (sX (sX X' 17 i (X' 17 (i + 1))) 18 i (X' 18 (i + 1))) 19 i (X' 19 (i + 1))) cy ss (ds - 1) fs) hx hb hK hP hD hS 23 0 rfl rfl i rfl (by omega) (by omega) rfl dX0_remove_61 (fun H locs hP hD hS => ?_)
        refine k_iinc (k := 2) (lv' := [(2, .int (nI (i + 1))), (0, .ref (g 3)), (1, .int (nI at0))]) hx hb i rfl dX0_remove_62 hl rfl (by decide) rfl (fun ls hl => ?_)
        refine lv_goto (tgt := 12) hx hb dX0_remove_65 (by decide) ?_
        exact ih12 (i + 1) (sX (sX (sX X' 17 i (X' 17 (i + 1))) 18 i (X' 18 (i + 1))) 19 i (X' 19 (i + 1))) _ _ _ (by omega) (by omega) (by omega) (rm_step h1 h3) (fun a a1 a2 a3 => by rw [sX_ne a3, sX_ne a2, sX_ne a1]; exact h5 a a1 a2 a3) hP hD hS (lv_sub hl [1, 2, 0] rfl)
  exact L12 ((ds - 1 - at0) + 1) at0 X _ _ _ (Nat.lt_succ_self _) (Nat.le_refl _) (by omega) (fun a _ => ⟨fun k hk => by rw [if_pos hk], fun _ _ => rfl⟩) (fun _ _ _ _ => rfl) hP hD hS (lv_sub hl [1, 2, 0] rfl)
set_option maxHeartbeats 4000000 in
set_option maxRecDepth 100000 in
theorem c_X0_send {l : Launch} {D : va_G} {cI cZ cL : ClassId} {g : Nat → Nat} {sl mi n : Nat} {X : Nat → Nat → Int32} {cy ss ds fs : Nat} (hn : n ≤ 16) (hd : ds ≤ 100) (hmi : mi ≤ 60) (hY : DyI (X 17) (X 19) n ds) : KI l yX0_send (.code yX0_send cX0_send 7 (some .int)) 2 D (tyz cI cZ cL) [.ref (g 3), .int (nI mi), .ref (g 1)] (cw g cI cZ sl mi n X cy ss ds fs) (fun r u => ∃ d : Nat, r = nI d ∧ (dl u.1 17 18 19 u.2, d) = dyn (pm (X 1)) mi 60 1 (dl X 17 18 19 ds) 1 0 ∧ u.2 ≤ ds ∧ DyI (u.1 17) (u.1 19) n u.2 ∧ (∀ a, a ≠ 17 → a ≠ 18 → a ≠ 19 → u.1 a = X a) ∧ d ≤ 60) (fun u : (Nat → Nat → Int32) × Nat => cw g cI cZ sl mi n u.1 cy ss u.2 fs) := by
  refine KI.of (own := RX0) (lvs := [(0, .ref (g 3)), (1, .int (nI mi)), (2, .ref (g 1))]) (by decide) rfl (Nat.le_of_ble_eq_true rfl) rfl ?_
  intro p e s m args below meth c Q C hK hN A hA hP hD hS ret ls hl
  obtain ⟨hx, hb, hml, hown, hts, hr9, hlk9⟩ := id C
  refine lv_iconst (v := 0) hx hb dX0_send_0 (by decide) ?_
  refine lv_istore_n (lv' := [(3, .int 0), (0, .ref (g 3)), (1, .int (nI mi)), (2, .ref (g 1))]) hx hb dX0_send_1 rfl hl (by decide) rfl (fun ls hl => ?_)
  refine lv_iconst (v := 1) hx hb dX0_send_2 (by decide) ?_
  refine lv_istore (lv' := [(4, .int 1), (3, .int 0), (0, .ref (g 3)), (1, .int (nI mi)), (2, .ref (g 1))]) hx hb dX0_send_3 hl (by decide) rfl (fun ls hl => ?_)
  refine lv_iconst (v := 1) hx hb dX0_send_5 (by decide) ?_
  refine lv_istore (lv' := [(5, .int 1), (4, .int 1), (3, .int 0), (0, .ref (g 3)), (1, .int (nI mi)), (2, .ref (g 1))]) hx hb dX0_send_6 hl (by decide) rfl (fun ls hl => ?_)
  have L8 : ∀ (kf : Nat) (i : Nat) (mm : Nat) (d : Nat) (X' : Nat → Nat → Int32) (ds' : Nat) (H : Heap) (locs : List Loc) (ls : Array Slot), (61 - i < kf) → (1 ≤ i) → (i ≤ 61) → (i ≤ mm ∧ mm ≤ 121) → (ds' ≤ ds ∧ d < i) → (DyI (X' 17) (X' 19) n ds') → (dyn (pm (X 1)) mi (61 - i) i (dl X' 17 18 19 ds') mm d = dyn (pm (X 1)) mi 60 1 (dl X 17 18 19 ds) 1 0) → (∀ a, a ≠ 17 → a ≠ 18 → a ≠ 19 → X' a = X a) → (va_P D vwCl (cw g cI cZ sl mi n X' cy ss ds' fs) H) → (va_D A (cw g cI cZ sl mi n X' cy ss ds' fs)) → (va_S A s.heap H locs) → (lv_has ls 7 [(0, .ref (g 3)), (1, .int (nI mi)), (2, .ref (g 1)), (3, .int (nI d)), (4, .int (nI mm)), (5, .int (nI i))]) → W p l e (rmK 2) s m args below meth c H locs 0 0 Q (F0 m 8 ls []) := by
    intro kf
    induction kf with
    | zero =>
      intro i mm d X' ds' H locs ls hm
      exact absurd hm (Nat.not_lt_zero _)
    | succ kf ih8 =>
      intro i mm d X' ds' H locs ls hm h1 h2 h0 hd2 hY2 h3 h5 hP hD hS hl
      refine lv_iload hx hb dX0_send_8 (lv_at hl 5 rfl) ?_
      refine lv_bipush (v := 60) hx hb dX0_send_10 (by decide) ?_
      refine k_icmp_gt (tgt := 85) hx hb i 60 rfl rfl (by omega) (by omega) dX0_send_12 (by decide) (fun c12 => ?_) (fun c12 => ?_)
      · skip
        refine lv_iload_n hx hb dX0_send_85 rfl (lv_at hl 3 rfl) ?_
        exact ret _ (X', ds') _ _ _ _ dX0_send_86 hP hD hS ⟨d, rfl, (by rw [← h3]; first | rw [dyn_out c18] | rw [show 61 - i = 0 by omega]; rfl), hd2.1, hY2, h5, by omega⟩
      · skip
        refine lv_iload hx hb dX0_send_15 (lv_at hl 4 rfl) ?_
        refine lv_iload_n hx hb dX0_send_17 rfl (lv_at hl 1 rfl) ?_
        refine k_icmp_gt (tgt := 85) hx hb mm mi rfl rfl (by omega) (by omega) dX0_send_18 (by decide) (fun c18 => ?_) (fun c18 => ?_)
        · skip
          refine lv_iload_n hx hb dX0_send_85 rfl (lv_at hl 3 rfl) ?_
          exact ret _ (X', ds') _ _ _ _ dX0_send_86 hP hD hS ⟨d, rfl, (by rw [← h3]; first | rw [dyn_out c18] | rw [show 61 - i = 0 by omega]; rfl), hd2.1, hY2, h5, by omega⟩
        · skip
          have e1 : X' 1 = X 1 := h5 1 (by decide) (by decide) (by decide)
          have hfu : 61 - i = (61 - (i + 1)) + 1 := by omega
          refine lv_aload_n hx hb dX0_send_21 rfl (lv_at hl 0 rfl) ?_
          refine lv_iload hx hb dX0_send_22 (lv_at hl 5 rfl) ?_
          refine lv_aload_n hx hb dX0_send_24 rfl (lv_at hl 2 rfl) ?_
          refine k_callR (D := D) C hK hN hP hD (c_X0_firstOf hn (by omega) i hY2) hl cf_yX0_firstOf wM_X0_23 3 2 rfl rfl rfl rfl (Nat.le_of_ble_eq_true rfl) ⟨by decide, by decide⟩ ⟨Nat.zero_le _, Nat.zero_le _⟩ dX0_send_25 (fun r25 hr25 => ?_)
          refine lv_istore (lv' := [(6, .int r25), (0, .ref (g 3)), (1, .int (nI mi)), (2, .ref (g 1)), (3, .int (nI d)), (4, .int (nI mm)), (5, .int (nI i))]) hx hb dX0_send_28 hl (by decide) rfl (fun ls hl => ?_)
          refine lv_iload hx hb dX0_send_30 (lv_at hl 0 rfl) ?_
          refine lv_iconst (v := (-1)) hx hb dX0_send_32 (by decide) ?_
          refine lv_icmp_eq (tgt := 76) hx hb dX0_send_33 (by decide) (fun c33 => ?_) (fun c33 => ?_)
          · skip
            have hfi : (dl X' 17 18 19 ds').findIdx? (pm (X 1) i) = none := by
              rcases hr25 with ⟨k, hk, rfl, _⟩ | ⟨_, h⟩
              · exact absurd c33 (nI_m1 (by omega))
              · rw [← e1]; exact fi_none h
            refine k_iinc (k := 5) (lv' := [(4, .int (nI (mm + 1))), (6, .int r25), (0, .ref (g 3)), (1, .int (nI mi)), (2, .ref (g 1)), (3, .int (nI d)), (5, .int (nI i))]) hx hb mm rfl dX0_send_76 hl rfl (by decide) rfl (fun ls hl => ?_)
            refine k_iinc (k := 6) (lv' := [(5, .int (nI (i + 1))), (4, .int (nI (mm + 1))), (6, .int r25), (0, .ref (g 3)), (1, .int (nI mi)), (2, .ref (g 1)), (3, .int (nI d))]) hx hb i rfl dX0_send_79 hl rfl (by decide) rfl (fun ls hl => ?_)
            refine lv_goto (tgt := 8) hx hb dX0_send_82 (by decide) ?_
            exact ih8 (i + 1) (mm + 1) d X' ds' _ _ _ (by omega) (by omega) (by omega) (by omega) (by omega) (by first | exact hY2 | exact dy_rm hk1 hY2 hr67.1) (by rw [← h3, hfu]; first | exact (dyn_none c18 hfi).symm | exact (dyn_long c18 hfi (by rw [hln]; omega)).symm | exact dy_take c18 hfi hln (by omega) hk1 hr67.1) (by first | exact h5 | exact fun a a1 a2 a3 => (hr67.2 a a1 a2 a3).trans (h5 a a1 a2 a3)) hP hD hS (lv_sub hl [3, 4, 5, 6, 1, 0] rfl)
          · skip
            obtain ⟨k, hk1, rfl, hk2, hk3⟩ := hr25.resolve_right (fun z => c33 z.1)
            have hfi : (dl X' 17 18 19 ds').findIdx? (pm (X 1) i) = some k := by rw [← e1]; exact fi_some hk1 hk2 hk3
            obtain ⟨ln, hl1, hl2, hle⟩ := inR_of (hY2 k hk1).2
            have hln : dlen (dl X' 17 18 19 ds') k = ln := by rw [dlen_dl hk1, hle]; exact nI_clamp (by omega)
            refine lv_iload hx hb dX0_send_36 (lv_at hl 5 rfl) ?_
            refine lv_aload_n hx hb dX0_send_38 rfl (lv_at hl 1 rfl) ?_
            refine va_get (D := D) (ci := 2) (v := .ref (g 29)) (C := RX0) (T := TX0) (N := 4) hx hb hts inX0 hown hK hP 3 rfl rfl 2 (by decide) (hts _ wF_X0_16) (fun _ h9 => h9) rfl dX0_send_39 ?_
            refine lv_iload hx hb dX0_send_42 (lv_at hl 0 rfl) ?_
            refine k_iald (D := D) (f := X' 19) hx hb hK hP 23 0 rfl rfl k rfl (by omega) (by omega) dX0_send_44 ?_
            refine k_int (y := (nI ln)) hle ?_
            refine k_iadd hx hb mm ln rfl rfl dX0_send_45 ?_
            refine lv_iconst (v := 1) hx hb dX0_send_46 (by decide) ?_
            refine k_isub hx hb (mm + ln) 1 rfl rfl (by omega) dX0_send_47 ?_
            refine lv_iload_n hx hb dX0_send_48 rfl (lv_at hl 2 rfl) ?_
            refine k_icmp_gt (tgt := 76) hx hb ((mm + ln) - 1) mi rfl rfl (by omega) (by omega) dX0_send_49 (by decide) (fun c49 => ?_) (fun c49 => ?_)
            · skip
              refine k_iinc (k := 5) (lv' := [(4, .int (nI (mm + 1))), (6, .int (nI k)), (0, .ref (g 3)), (1, .int (nI mi)), (2, .ref (g 1)), (3, .int (nI d)), (5, .int (nI i))]) hx hb mm rfl dX0_send_76 hl rfl (by decide) rfl (fun ls hl => ?_)
              refine k_iinc (k := 6) (lv' := [(5, .int (nI (i + 1))), (4, .int (nI (mm + 1))), (6, .int (nI k)), (0, .ref (g 3)), (1, .int (nI mi)), (2, .ref (g 1)), (3, .int (nI d))]) hx hb i rfl dX0_send_79 hl rfl (by decide) rfl (fun ls hl => ?_)
              refine lv_goto (tgt := 8) hx hb dX0_send_82 (by decide) ?_
              exact ih8 (i + 1) (mm + 1) d X' ds' _ _ _ (by omega) (by omega) (by omega) (by omega) (by omega) (by first | exact hY2 | exact dy_rm hk1 hY2 hr67.1) (by rw [← h3, hfu]; first | exact (dyn_none c18 hfi).symm | exact (dyn_long c18 hfi (by rw [hln]; omega)).symm | exact dy_take c18 hfi hln (by omega) hk1 hr67.1) (by first | exact h5 | exact fun a a1 a2 a3 => (hr67.2 a a1 a2 a3).trans (h5 a a1 a2 a3)) hP hD hS (lv_sub hl [3, 4, 5, 6, 1, 0] rfl)
            · skip
              refine lv_iload hx hb dX0_send_52 (lv_at hl 5 rfl) ?_
              refine lv_aload_n hx hb dX0_send_54 rfl (lv_at hl 1 rfl) ?_
              refine va_get (D := D) (ci := 2) (v := .ref (g 29)) (C := RX0) (T := TX0) (N := 4) hx hb hts inX0 hown hK hP 3 rfl rfl 2 (by decide) (hts _ wF_X0_16) (fun _ h9 => h9) rfl dX0_send_55 ?_
              refine lv_iload hx hb dX0_send_58 (lv_at hl 0 rfl) ?_
              refine k_iald (D := D) (f := X' 19) hx hb hK hP 23 0 rfl rfl k rfl (by omega) (by omega) dX0_send_60 ?_
              refine k_int (y := (nI ln)) hle ?_
              refine k_iadd hx hb mm ln rfl rfl dX0_send_61 ?_
              refine lv_istore (lv' := [(4, .int (nI (mm + ln))), (6, .int (nI k)), (0, .ref (g 3)), (1, .int (nI mi)), (2, .ref (g 1)), (3, .int (nI d)), (5, .int (nI i))]) hx hb dX0_send_62 hl (by decide) rfl (fun ls hl => ?_)
              refine lv_aload_n hx hb dX0_send_64 rfl (lv_at hl 2 rfl) ?_
              refine lv_iload hx hb dX0_send_65 (lv_at hl 1 rfl) ?_
              refine k_callV (D := D) C hK hN hP hD hS hA (c_X0_remove (by omega) k hk1) hl cf_yX0_remove wM_X0_27 3 2 rfl rfl rfl rfl (Nat.le_of_ble_eq_true rfl) ⟨by decide, by decide⟩ ⟨Nat.zero_le _, Nat.zero_le _⟩ dX0_send_67 (fun u67 H locs hr67 hP hD hS _ _ => ?_)
              have hP : va_P D vwCl (cw g cI cZ sl mi n u67 cy ss (ds' - 1) fs) H := hP
              have hD : va_D A (cw g cI cZ sl mi n u67 cy ss (ds' - 1) fs) := hD
              refine k_iinc (k := 5) (lv' := [(3, .int (nI (d + 1))), (4, .int (nI (mm + ln))), (6, .int (nI k)), (0, .ref (g 3)), (1, .int (nI mi)), (2, .ref (g 1)), (5, .int (nI i))]) hx hb d rfl dX0_send_70 hl rfl (by decide) rfl (fun ls hl => ?_)
              refine lv_goto (tgt := 79) hx hb dX0_send_73 (by decide) ?_
              refine k_iinc (k := 6) (lv' := [(5, .int (nI (i + 1))), (3, .int (nI (d + 1))), (4, .int (nI (mm + ln))), (6, .int (nI k)), (0, .ref (g 3)), (1, .int (nI mi)), (2, .ref (g 1))]) hx hb i rfl dX0_send_79 hl rfl (by decide) rfl (fun ls hl => ?_)
              refine lv_goto (tgt := 8) hx hb dX0_send_82 (by decide) ?_
              exact ih8 (i + 1) (mm + ln) (d + 1) u67 (ds' - 1) _ _ _ (by omega) (by omega) (by omega) (by omega) (by omega) (by first | exact hY2 | exact dy_rm hk1 hY2 hr67.1) (by rw [← h3, hfu]; first | exact (dyn_none c18 hfi).symm | exact (dyn_long c18 hfi (by rw [hln]; omega)).symm | exact dy_take c18 hfi hln (by omega) hk1 hr67.1) (by first | exact h5 | exact fun a a1 a2 a3 => (hr67.2 a a1 a2 a3).trans (h5 a a1 a2 a3)) hP hD hS (lv_sub hl [4, 5, 6, 1, 2, 0] rfl)
  exact L8 ((61 - 1) + 1) 1 1 0 X ds _ _ _ (Nat.lt_succ_self _) (Nat.le_refl _) (by omega) ⟨Nat.le_refl _, by omega⟩ ⟨Nat.le_refl _, by omega⟩ hY rfl (fun _ _ _ _ => rfl) hP hD hS (lv_sub hl [3, 4, 5, 2, 1, 0] rfl)
end
section
/-! the class -/
theorem ite_c {p q : Prop} [Decidable p] [Decidable q] (h : p ↔ q) : (if p then (1 : Int32) else 0) = if q then 1 else 0 := by simp only [h]
theorem inR_iff {x : Int32} {a b : Nat} (ha : a < 2147483648) (hb : b < 2147483648) : (nI a ≤ x ∧ x ≤ nI b) ↔ inR x a b := by
  unfold inR
  rw [Int32.le_iff_toInt_le, Int32.le_iff_toInt_le, nI_toInt ha, nI_toInt hb]
theorem SU_keep {X u : Nat → Nat → Int32} {n : Nat} (h : SU X u n) : ∀ a, a ≠ 1 → a ≠ 2 → a ≠ 6 → u a = X a := by
  intro a h1 h2 h6
  obtain ⟨k, -, ⟨-, -, h⟩ | ⟨-, -, -, h⟩ | ⟨-, -, rfl⟩⟩ := h
  · exact h a h1 h2 h6
  · exact h a h1
  · rfl
/-- a cycle of the class, its parts in their order -/
def RunC (sl mi n ss : Nat) (X : Nat → Nat → Int32) (cy ds : Nat) (r : Int32) (X6 : Nat → Nat → Int32) (ds6 : Nat) : Prop :=
  ∃ (X1 X2 X3 X4 X5 : Nat → Nat → Int32) (r1 : Int32) (d : Nat), SU X X1 n ∧
    (r1 = nI (cnz (fun i => decide (Dn (fun i => decide (nI cy &&& (X1 16 i - 1) = X1 15 i)) (X1 1) (X1 12) (X1 13) (X1 14) (X1 20) i)) ss) ∧ (∀ j, 1 ≤ j → j ≤ n → (X2 7 j ≠ 0 ↔ ∃ i, i < ss ∧ Dn (fun i => decide (nI cy &&& (X1 16 i - 1) = X1 15 i)) (X1 1) (X1 12) (X1 13) (X1 14) (X1 20) i ∧ (X1 12 i).toNatClampNeg = j)) ∧ ∀ a, a ≠ 7 → X2 a = X1 a) ∧
    ((dl X3 17 18 19 ds6, d) = dyn (pm (X2 1)) mi 60 1 (dl X2 17 18 19 ds) 1 0 ∧ ds6 ≤ ds ∧ DyI (X3 17) (X3 19) n ds6 ∧ ∀ a, a ≠ 17 → a ≠ 18 → a ≠ 19 → X3 a = X2 a) ∧
    ((∀ j, 1 ≤ j → j ≤ n → CR X3 X4 n j (if nI cy &&& 1 = 1 then 1 else 0)) ∧ ∀ a, a ≠ 1 → a ≠ 2 → a ≠ 4 → a ≠ 8 → a ≠ 9 → a ≠ 10 → a ≠ 11 → X4 a = X3 a) ∧
    ((∀ j, 1 ≤ j → j ≤ n → X5 2 j = if X4 1 j = 4 then X4 2 j else X4 2 j + (X4 3 j + X4 4 j)) ∧ ∀ a, a ≠ 2 → X5 a = X4 a) ∧
    ((∀ q, q < sl → X6 20 q = 0) ∧ ∀ a, a ≠ 20 → X6 a = X5 a) ∧ r = r1 + nI d
theorem RunC_keep {sl mi n ss : Nat} {X : Nat → Nat → Int32} {cy ds : Nat} {r : Int32} {X6 : Nat → Nat → Int32} {ds6 : Nat} (h : RunC sl mi n ss X cy ds r X6 ds6) : ∀ a, (a = 3 ∨ a = 5 ∨ a = 12 ∨ a = 13 ∨ a = 14 ∨ a = 15 ∨ a = 16) → X6 a = X a := by
  obtain ⟨X1, X2, X3, X4, X5, r1, d, h1, h2, h3, h4, h5, h6, -⟩ := h
  intro a ha
  rcases ha with rfl | rfl | rfl | rfl | rfl | rfl | rfl <;>
    rw [h6.2 _ (by decide), h5.2 _ (by decide), h4.2 _ (by decide) (by decide) (by decide) (by decide) (by decide) (by decide) (by decide), h3.2.2.2 _ (by decide) (by decide) (by decide), h2.2.2 _ (by decide), SU_keep h1 _ (by decide) (by decide) (by decide)]
theorem RunC_ds {sl mi n ss : Nat} {X : Nat → Nat → Int32} {cy ds : Nat} {r : Int32} {X6 : Nat → Nat → Int32} {ds6 : Nat} (h : RunC sl mi n ss X cy ds r X6 ds6) : ds6 ≤ ds := by
  obtain ⟨X1, X2, X3, X4, X5, r1, d, h1, h2, h3, h4, h5, h6, -⟩ := h
  exact h3.2.1
theorem RunC_dy {sl mi n ss : Nat} {X : Nat → Nat → Int32} {cy ds : Nat} {r : Int32} {X6 : Nat → Nat → Int32} {ds6 : Nat} (h : RunC sl mi n ss X cy ds r X6 ds6) : DyI (X6 17) (X6 19) n ds6 := by
  obtain ⟨X1, X2, X3, X4, X5, r1, d, h1, h2, h3, h4, h5, h6, -⟩ := h
  rw [h6.2 _ (by decide), h5.2 _ (by decide), h4.2 _ (by decide) (by decide) (by decide) (by decide) (by decide) (by decide) (by decide), h6.2 _ (by decide), h5.2 _ (by decide), h4.2 _ (by decide) (by decide) (by decide) (by decide) (by decide) (by decide) (by decide)]
  exact h3.2.2.1
/-- so many cycles -/
def RunS (sl mi n ss : Nat) : Nat → (Nat → Nat → Int32) × Nat × Nat × Nat → Int32 → (Nat → Nat → Int32) × Nat × Nat × Nat → Prop
  | 0, S, r, S2 => r = 0 ∧ S2 = S
  | k + 1, S, r, S2 => ∃ (S1 : (Nat → Nat → Int32) × Nat × Nat × Nat) (r1 r2 : Int32) (X2 : Nat → Nat → Int32) (d2 : Nat), RunS sl mi n ss k S r1 S1 ∧ RunC sl mi n ss S1.1 S1.2.1 S1.2.2.1 r2 X2 d2 ∧ r = r1 + r2 ∧ S2 = (X2, S1.2.1 + 1, d2, 0)
theorem RunS_step {sl mi n ss k : Nat} {S : (Nat → Nat → Int32) × Nat × Nat × Nat} {r1 r2 : Int32} {X X2 : Nat → Nat → Int32} {cy ds fs d2 : Nat} (h : RunS sl mi n ss k S r1 (X, cy, ds, fs)) (h2 : RunC sl mi n ss X cy ds r2 X2 d2) : RunS sl mi n ss (k + 1) S (r1 + r2) (X2, cy + 1, d2, 0) := ⟨(X, cy, ds, fs), r1, r2, X2, d2, h, h2, rfl, rfl⟩
set_option maxHeartbeats 4000000 in
set_option maxRecDepth 100000 in
theorem c_X4_hasSlot {l : Launch} {D : va_G} {cI cZ cL : ClassId} {g : Nat → Nat} {sl mi n : Nat} {X : Nat → Nat → Int32} {cy ss ds fs : Nat} (hs1 : 1 ≤ sl) (hsl : sl ≤ 60) (x : Int32) : KR l yX4_hasSlot (.code yX4_hasSlot cX4_hasSlot 2 (some .boolean)) 1 D (tyz cI cZ cL) [.ref (g 0), .int x] (cw g cI cZ sl mi n X cy ss ds fs) (fun r => r = if inR x 0 (sl - 1) then 1 else 0) := by
  refine KR.ofz (own := RX4) (lvs := [(0, .ref (g 0)), (1, .int x)]) (by decide) rfl (Nat.le_of_ble_eq_true rfl) rfl ?_
  intro p e s m args below meth c Q C hK hN hP hD ret ls hl
  obtain ⟨hx, hb, hml, hown, hts, hr9, hlk9⟩ := id C
  refine lv_iload_n hx hb dX4_hasSlot_0 rfl (lv_at hl 1 rfl) ?_
  refine lv_iconst (v := 0) hx hb dX4_hasSlot_1 (by decide) ?_
  refine lv_aload_n hx hb dX4_hasSlot_2 rfl (lv_at hl 0 rfl) ?_
  refine va_get (D := D) (ci := 6) (v := .int (nI sl)) (C := RX4) (T := TX4) (N := 7) hx hb hts inX4 hown hK hP 0 rfl rfl 0 (by decide) (hts _ wF_X4_13) (fun _ h9 => h9) rfl dX4_hasSlot_3 ?_
  refine lv_iconst (v := 1) hx hb dX4_hasSlot_6 (by decide) ?_
  refine k_isub hx hb sl 1 rfl rfl (by omega) dX4_hasSlot_7 ?_
  refine k_callS (D := D) C hK hN hP hD (c_X4_within x 0 (nI (sl - 1))) hl cf_yX4_within wM_X4_7 rfl rfl (Nat.le_of_ble_eq_true rfl) ⟨by decide, by decide⟩ ⟨Nat.zero_le _, Nat.zero_le _⟩ dX4_hasSlot_8 (fun r8 hr8 => ?_)
  have hr8 : r8 = (if 0 ≤ x ∧ x ≤ (nI (sl - 1)) then 1 else 0) := hr8
  subst hr8
  exact ret _ _ _ dX4_hasSlot_11 (ite01 _) (ite_c (inR_iff (x := x) (a := 0) (b := sl - 1) (by omega) (by omega)))
set_option maxHeartbeats 4000000 in
set_option maxRecDepth 100000 in
theorem c_X4_state {l : Launch} {D : va_G} {cI cZ cL : ClassId} {g : Nat → Nat} {sl mi n : Nat} {X : Nat → Nat → Int32} {cy ss ds fs : Nat} (hn : n ≤ 16) (x : Int32) : KR l yX4_state (.code yX4_state cX4_state 2 (some .int)) 1 D (tyz cI cZ cL) [.ref (g 0), .int x] (cw g cI cZ sl mi n X cy ss ds fs) (fun r => r = if inR x 1 n then X 1 x.toNatClampNeg else -1) := by
  refine KR.of (own := RX4) (lvs := [(0, .ref (g 0)), (1, .int x)]) (by decide) rfl (Nat.le_of_ble_eq_true rfl) rfl ?_
  intro p e s m args below meth c Q C hK hN hP hD ret ls hl
  obtain ⟨hx, hb, hml, hown, hts, hr9, hlk9⟩ := id C
  refine lv_aload_n hx hb dX4_state_0 rfl (lv_at hl 0 rfl) ?_
  refine va_get (D := D) (ci := 6) (v := .ref (g 1)) (C := RX4) (T := TX4) (N := 7) hx hb hts inX4 hown hK hP 0 rfl rfl 2 (by decide) (hts _ wF_X4_25) (fun _ h9 => h9) rfl dX4_state_1 ?_
  refine lv_iload_n hx hb dX4_state_4 rfl (lv_at hl 1 rfl) ?_
  refine k_callR (D := D) C hK hN hP hD (c_X2_has hn x) hl cf_yX2_has wM_X4_53 1 4 rfl rfl rfl rfl (Nat.le_of_ble_eq_true rfl) ⟨by decide, by decide⟩ ⟨Nat.zero_le _, Nat.zero_le _⟩ dX4_state_5 (fun r5 hr5 => ?_)
  have hr5 : r5 = (if inR x 1 n then 1 else 0) := hr5
  subst hr5
  refine k_ifeq_P (P := (inR x 1 n)) (tgt := 23) hx hb rfl dX4_state_8 (by decide) (fun c8 => ?_) (fun c8 => ?_)
  · skip
    refine lv_iconst (v := (-1)) hx hb dX4_state_23 (by decide) ?_
    exact ret _ _ _ dX4_state_24 (ite_n c8)
  · skip
    obtain ⟨j, hj1, hj2, rfl⟩ := inR_of c8
    refine lv_aload_n hx hb dX4_state_11 rfl (lv_at hl 0 rfl) ?_
    refine va_get (D := D) (ci := 6) (v := .ref (g 1)) (C := RX4) (T := TX4) (N := 7) hx hb hts inX4 hown hK hP 0 rfl rfl 2 (by decide) (hts _ wF_X4_25) (fun _ h9 => h9) rfl dX4_state_12 ?_
    refine va_getN (host := "FlexCycles") (ref := "FlexCycles$Nodes") (D := D) (ci := 4) (v := .ref (g 11)) (C := RX2) (T := TX2) (N := 12) hx hb hts inX2 hown hK hP 1 rfl rfl 1 (by decide) (va_Nw.use rfl hN.1) (fun _ h9 => h9) rfl dX4_state_15 ?_
    refine lv_iload_n hx hb dX4_state_18 rfl (lv_at hl 1 rfl) ?_
    refine k_iald (D := D) (f := X 1) hx hb hK hP 5 0 rfl rfl j rfl (by omega) (by omega) dX4_state_19 ?_
    refine lv_goto (tgt := 24) hx hb dX4_state_20 (by decide) ?_
    exact ret _ _ _ dX4_state_24 (by rw [if_pos c8, nI_clamp (by omega)])
set_option maxHeartbeats 4000000 in
set_option maxRecDepth 100000 in
theorem c_X4_offset {l : Launch} {D : va_G} {cI cZ cL : ClassId} {g : Nat → Nat} {sl mi n : Nat} {X : Nat → Nat → Int32} {cy ss ds fs : Nat} (hn : n ≤ 16) (x : Int32) : KR l yX4_offset (.code yX4_offset cX4_offset 2 (some .int)) 1 D (tyz cI cZ cL) [.ref (g 0), .int x] (cw g cI cZ sl mi n X cy ss ds fs) (fun r => r = if inR x 1 n then X 2 x.toNatClampNeg else 0) := by
  refine KR.of (own := RX4) (lvs := [(0, .ref (g 0)), (1, .int x)]) (by decide) rfl (Nat.le_of_ble_eq_true rfl) rfl ?_
  intro p e s m args below meth c Q C hK hN hP hD ret ls hl
  obtain ⟨hx, hb, hml, hown, hts, hr9, hlk9⟩ := id C
  refine lv_aload_n hx hb dX4_offset_0 rfl (lv_at hl 0 rfl) ?_
  refine va_get (D := D) (ci := 6) (v := .ref (g 1)) (C := RX4) (T := TX4) (N := 7) hx hb hts inX4 hown hK hP 0 rfl rfl 2 (by decide) (hts _ wF_X4_25) (fun _ h9 => h9) rfl dX4_offset_1 ?_
  refine lv_iload_n hx hb dX4_offset_4 rfl (lv_at hl 1 rfl) ?_
  refine k_callR (D := D) C hK hN hP hD (c_X2_has hn x) hl cf_yX2_has wM_X4_53 1 4 rfl rfl rfl rfl (Nat.le_of_ble_eq_true rfl) ⟨by decide, by decide⟩ ⟨Nat.zero_le _, Nat.zero_le _⟩ dX4_offset_5 (fun r5 hr5 => ?_)
  have hr5 : r5 = (if inR x 1 n then 1 else 0) := hr5
  subst hr5
  refine k_ifeq_P (P := (inR x 1 n)) (tgt := 23) hx hb rfl dX4_offset_8 (by decide) (fun c8 => ?_) (fun c8 => ?_)
  · skip
    refine lv_iconst (v := 0) hx hb dX4_offset_23 (by decide) ?_
    exact ret _ _ _ dX4_offset_24 (ite_n c8)
  · skip
    obtain ⟨j, hj1, hj2, rfl⟩ := inR_of c8
    refine lv_aload_n hx hb dX4_offset_11 rfl (lv_at hl 0 rfl) ?_
    refine va_get (D := D) (ci := 6) (v := .ref (g 1)) (C := RX4) (T := TX4) (N := 7) hx hb hts inX4 hown hK hP 0 rfl rfl 2 (by decide) (hts _ wF_X4_25) (fun _ h9 => h9) rfl dX4_offset_12 ?_
    refine va_getN (host := "FlexCycles") (ref := "FlexCycles$Nodes") (D := D) (ci := 4) (v := .ref (g 12)) (C := RX2) (T := TX2) (N := 12) hx hb hts inX2 hown hK hP 1 rfl rfl 2 (by decide) (va_Nw.use rfl hN.2.1) (fun _ h9 => h9) rfl dX4_offset_15 ?_
    refine lv_iload_n hx hb dX4_offset_18 rfl (lv_at hl 1 rfl) ?_
    refine k_iald (D := D) (f := X 2) hx hb hK hP 6 0 rfl rfl j rfl (by omega) (by omega) dX4_offset_19 ?_
    refine lv_goto (tgt := 24) hx hb dX4_offset_20 (by decide) ?_
    exact ret _ _ _ dX4_offset_24 (by rw [if_pos c8, nI_clamp (by omega)])
set_option maxHeartbeats 4000000 in
set_option maxRecDepth 100000 in
theorem c_X4_rate {l : Launch} {D : va_G} {cI cZ cL : ClassId} {g : Nat → Nat} {sl mi n : Nat} {X : Nat → Nat → Int32} {cy ss ds fs : Nat} (hn : n ≤ 16) (x : Int32) : KR l yX4_rate (.code yX4_rate cX4_rate 2 (some .int)) 1 D (tyz cI cZ cL) [.ref (g 0), .int x] (cw g cI cZ sl mi n X cy ss ds fs) (fun r => r = if inR x 1 n then X 4 x.toNatClampNeg else 0) := by
  refine KR.of (own := RX4) (lvs := [(0, .ref (g 0)), (1, .int x)]) (by decide) rfl (Nat.le_of_ble_eq_true rfl) rfl ?_
  intro p e s m args below meth c Q C hK hN hP hD ret ls hl
  obtain ⟨hx, hb, hml, hown, hts, hr9, hlk9⟩ := id C
  refine lv_aload_n hx hb dX4_rate_0 rfl (lv_at hl 0 rfl) ?_
  refine va_get (D := D) (ci := 6) (v := .ref (g 1)) (C := RX4) (T := TX4) (N := 7) hx hb hts inX4 hown hK hP 0 rfl rfl 2 (by decide) (hts _ wF_X4_25) (fun _ h9 => h9) rfl dX4_rate_1 ?_
  refine lv_iload_n hx hb dX4_rate_4 rfl (lv_at hl 1 rfl) ?_
  refine k_callR (D := D) C hK hN hP hD (c_X2_has hn x) hl cf_yX2_has wM_X4_53 1 4 rfl rfl rfl rfl (Nat.le_of_ble_eq_true rfl) ⟨by decide, by decide⟩ ⟨Nat.zero_le _, Nat.zero_le _⟩ dX4_rate_5 (fun r5 hr5 => ?_)
  have hr5 : r5 = (if inR x 1 n then 1 else 0) := hr5
  subst hr5
  refine k_ifeq_P (P := (inR x 1 n)) (tgt := 23) hx hb rfl dX4_rate_8 (by decide) (fun c8 => ?_) (fun c8 => ?_)
  · skip
    refine lv_iconst (v := 0) hx hb dX4_rate_23 (by decide) ?_
    exact ret _ _ _ dX4_rate_24 (ite_n c8)
  · skip
    obtain ⟨j, hj1, hj2, rfl⟩ := inR_of c8
    refine lv_aload_n hx hb dX4_rate_11 rfl (lv_at hl 0 rfl) ?_
    refine va_get (D := D) (ci := 6) (v := .ref (g 1)) (C := RX4) (T := TX4) (N := 7) hx hb hts inX4 hown hK hP 0 rfl rfl 2 (by decide) (hts _ wF_X4_25) (fun _ h9 => h9) rfl dX4_rate_12 ?_
    refine va_getN (host := "FlexCycles") (ref := "FlexCycles$Nodes") (D := D) (ci := 4) (v := .ref (g 14)) (C := RX2) (T := TX2) (N := 12) hx hb hts inX2 hown hK hP 1 rfl rfl 4 (by decide) (va_Nw.use rfl hN.2.2.2.1) (fun _ h9 => h9) rfl dX4_rate_15 ?_
    refine lv_iload_n hx hb dX4_rate_18 rfl (lv_at hl 1 rfl) ?_
    refine k_iald (D := D) (f := X 4) hx hb hK hP 8 0 rfl rfl j rfl (by omega) (by omega) dX4_rate_19 ?_
    refine lv_goto (tgt := 24) hx hb dX4_rate_20 (by decide) ?_
    exact ret _ _ _ dX4_rate_24 (by rw [if_pos c8, nI_clamp (by omega)])
set_option maxHeartbeats 4000000 in
set_option maxRecDepth 100000 in
theorem c_X4_midpoint {l : Launch} {D : va_G} {cI cZ cL : ClassId} {g : Nat → Nat} {sl mi n : Nat} {X : Nat → Nat → Int32} {cy ss ds fs : Nat} (hn : n ≤ 16) (x : Int32) : KR l yX4_midpoint (.code yX4_midpoint cX4_midpoint 2 (some .int)) 1 D (tyz cI cZ cL) [.ref (g 0), .int x] (cw g cI cZ sl mi n X cy ss ds fs) (fun r => r = if inR x 1 n then X 9 x.toNatClampNeg else 0) := by
  refine KR.of (own := RX4) (lvs := [(0, .ref (g 0)), (1, .int x)]) (by decide) rfl (Nat.le_of_ble_eq_true rfl) rfl ?_
  intro p e s m args below meth c Q C hK hN hP hD ret ls hl
  obtain ⟨hx, hb, hml, hown, hts, hr9, hlk9⟩ := id C
  refine lv_aload_n hx hb dX4_midpoint_0 rfl (lv_at hl 0 rfl) ?_
  refine va_get (D := D) (ci := 6) (v := .ref (g 1)) (C := RX4) (T := TX4) (N := 7) hx hb hts inX4 hown hK hP 0 rfl rfl 2 (by decide) (hts _ wF_X4_25) (fun _ h9 => h9) rfl dX4_midpoint_1 ?_
  refine lv_iload_n hx hb dX4_midpoint_4 rfl (lv_at hl 1 rfl) ?_
  refine k_callR (D := D) C hK hN hP hD (c_X2_has hn x) hl cf_yX2_has wM_X4_53 1 4 rfl rfl rfl rfl (Nat.le_of_ble_eq_true rfl) ⟨by decide, by decide⟩ ⟨Nat.zero_le _, Nat.zero_le _⟩ dX4_midpoint_5 (fun r5 hr5 => ?_)
  have hr5 : r5 = (if inR x 1 n then 1 else 0) := hr5
  subst hr5
  refine k_ifeq_P (P := (inR x 1 n)) (tgt := 23) hx hb rfl dX4_midpoint_8 (by decide) (fun c8 => ?_) (fun c8 => ?_)
  · skip
    refine lv_iconst (v := 0) hx hb dX4_midpoint_23 (by decide) ?_
    exact ret _ _ _ dX4_midpoint_24 (ite_n c8)
  · skip
    obtain ⟨j, hj1, hj2, rfl⟩ := inR_of c8
    refine lv_aload_n hx hb dX4_midpoint_11 rfl (lv_at hl 0 rfl) ?_
    refine va_get (D := D) (ci := 6) (v := .ref (g 1)) (C := RX4) (T := TX4) (N := 7) hx hb hts inX4 hown hK hP 0 rfl rfl 2 (by decide) (hts _ wF_X4_25) (fun _ h9 => h9) rfl dX4_midpoint_12 ?_
    refine va_getN (host := "FlexCycles") (ref := "FlexCycles$Nodes") (D := D) (ci := 4) (v := .ref (g 19)) (C := RX2) (T := TX2) (N := 12) hx hb hts inX2 hown hK hP 1 rfl rfl 9 (by decide) (va_Nw.use rfl hN.2.2.2.2.2.1) (fun _ h9 => h9) rfl dX4_midpoint_15 ?_
    refine lv_iload_n hx hb dX4_midpoint_18 rfl (lv_at hl 1 rfl) ?_
    refine k_iald (D := D) (f := X 9) hx hb hK hP 13 0 rfl rfl j rfl (by omega) (by omega) dX4_midpoint_19 ?_
    refine lv_goto (tgt := 24) hx hb dX4_midpoint_20 (by decide) ?_
    exact ret _ _ _ dX4_midpoint_24 (by rw [if_pos c8, nI_clamp (by omega)])
set_option maxHeartbeats 4000000 in
set_option maxRecDepth 100000 in
theorem c_X4_drift {l : Launch} {D : va_G} {cI cZ cL : ClassId} {g : Nat → Nat} {sl mi n : Nat} {X : Nat → Nat → Int32} {cy ss ds fs : Nat} (hn : n ≤ 16) (x pa : Int32) : KI l yX4_drift (.code yX4_drift cX4_drift 3 (some .int)) 1 D (tyz cI cZ cL) [.ref (g 0), .int x, .int pa] (cw g cI cZ sl mi n X cy ss ds fs) (fun r u => (¬ inR x 1 n ∧ r = -1 ∧ u = X) ∨ (inR x 1 n ∧ ¬ ((-200) ≤ pa ∧ pa ≤ 200) ∧ r = -2 ∧ u = X) ∨ (inR x 1 n ∧ ((-200) ≤ pa ∧ pa ≤ 200) ∧ r = 1 ∧ u = sX X 3 x.toNatClampNeg pa)) (fun u : Nat → Nat → Int32 => cw g cI cZ sl mi n u cy ss ds fs) := by
  refine KI.of (own := RX4) (lvs := [(0, .ref (g 0)), (1, .int x), (2, .int pa)]) (by decide) rfl (Nat.le_of_ble_eq_true rfl) rfl ?_
  intro p e s m args below meth c Q C hK hN A hA hP hD hS ret ls hl
  obtain ⟨hx, hb, hml, hown, hts, hr9, hlk9⟩ := id C
  refine lv_aload_n hx hb dX4_drift_0 rfl (lv_at hl 0 rfl) ?_
  refine va_get (D := D) (ci := 6) (v := .ref (g 1)) (C := RX4) (T := TX4) (N := 7) hx hb hts inX4 hown hK hP 0 rfl rfl 2 (by decide) (hts _ wF_X4_25) (fun _ h9 => h9) rfl dX4_drift_1 ?_
  refine lv_iload_n hx hb dX4_drift_4 rfl (lv_at hl 1 rfl) ?_
  refine k_callR (D := D) C hK hN hP hD (c_X2_has hn x) hl cf_yX2_has wM_X4_53 1 4 rfl rfl rfl rfl (Nat.le_of_ble_eq_true rfl) ⟨by decide, by decide⟩ ⟨Nat.zero_le _, Nat.zero_le _⟩ dX4_drift_5 (fun r5 hr5 => ?_)
  have hr5 : r5 = (if inR x 1 n then 1 else 0) := hr5
  subst hr5
  refine k_ifne_P (P := (inR x 1 n)) (tgt := 13) hx hb rfl dX4_drift_8 (by decide) (fun c8 => ?_) (fun c8 => ?_)
  · skip
    refine lv_iload_n hx hb dX4_drift_13 rfl (lv_at hl 2 rfl) ?_
    refine lv_sipush (v := (-200)) hx hb dX4_drift_14 (by decide) ?_
    refine lv_sipush (v := 200) hx hb dX4_drift_17 (by decide) ?_
    refine k_callS (D := D) C hK hN hP hD (c_X4_within pa (-200) 200) hl cf_yX4_within wM_X4_7 rfl rfl (Nat.le_of_ble_eq_true rfl) ⟨by decide, by decide⟩ ⟨Nat.zero_le _, Nat.zero_le _⟩ dX4_drift_20 (fun r20 hr20 => ?_)
    have hr20 : r20 = (if (-200) ≤ pa ∧ pa ≤ 200 then 1 else 0) := hr20
    subst hr20
    refine k_ifne_P (P := ((-200) ≤ pa ∧ pa ≤ 200)) (tgt := 29) hx hb rfl dX4_drift_23 (by decide) (fun c23 => ?_) (fun c23 => ?_)
    · skip
      obtain ⟨j, hj1, hj2, rfl⟩ := inR_of c8
      refine lv_aload_n hx hb dX4_drift_29 rfl (lv_at hl 0 rfl) ?_
      refine va_get (D := D) (ci := 6) (v := .ref (g 1)) (C := RX4) (T := TX4) (N := 7) hx hb hts inX4 hown hK hP 0 rfl rfl 2 (by decide) (hts _ wF_X4_25) (fun _ h9 => h9) rfl dX4_drift_30 ?_
      refine va_getN (host := "FlexCycles") (ref := "FlexCycles$Nodes") (D := D) (ci := 4) (v := .ref (g 13)) (C := RX2) (T := TX2) (N := 12) hx hb hts inX2 hown hK hP 1 rfl rfl 3 (by decide) (va_Nw.use rfl hN.2.2.1) (fun _ h9 => h9) rfl dX4_drift_33 ?_
      refine lv_iload_n hx hb dX4_drift_36 rfl (lv_at hl 1 rfl) ?_
      refine lv_iload_n hx hb dX4_drift_37 rfl (lv_at hl 2 rfl) ?_
      refine k_iast (D := D) (f := X 3) (ws' := cw g cI cZ sl mi n (sX X 3 j pa) cy ss ds fs) hx hb hK hP hD hS 7 0 rfl rfl j rfl (by omega) (by omega) rfl dX4_drift_38 (fun H locs hP hD hS => ?_)
      refine lv_iconst (v := 1) hx hb dX4_drift_39 (by decide) ?_
      exact ret _ (sX X 3 j pa) _ _ _ _ dX4_drift_40 hP hD hS (Or.inr (Or.inr ⟨c8, c23, rfl, by rw [nI_clamp (by omega)]⟩))
    · skip
      refine lv_bipush (v := (-2)) hx hb dX4_drift_26 (by decide) ?_
      exact ret _ X _ _ _ _ dX4_drift_28 hP hD hS (Or.inr (Or.inl ⟨c8, c23, rfl, rfl⟩))
  · skip
    refine lv_iconst (v := (-1)) hx hb dX4_drift_11 (by decide) ?_
    exact ret _ X _ _ _ _ dX4_drift_12 hP hD hS (Or.inl ⟨c8, rfl, rfl⟩)
set_option maxHeartbeats 4000000 in
set_option maxRecDepth 100000 in
theorem c_X4_cold {l : Launch} {D : va_G} {cI cZ cL : ClassId} {g : Nat → Nat} {sl mi n : Nat} {X : Nat → Nat → Int32} {cy ss ds fs : Nat} (hn : n ≤ 16) (x on : Int32) (ho : on = 0 ∨ on = 1) : KI l yX4_cold (.code yX4_cold cX4_cold 3 (some .int)) 1 D (tyz cI cZ cL) [.ref (g 0), .int x, .int on] (cw g cI cZ sl mi n X cy ss ds fs) (fun r u => (¬ inR x 1 n ∧ r = -1 ∧ u = X) ∨ (inR x 1 n ∧ r = nI (nCo (u 5) (n + 1)) ∧ u = if on ≠ 0 ∧ (X 1 x.toNatClampNeg = 3 ∨ X 1 x.toNatClampNeg = 4) then sX (sX (sX (sX X 5 x.toNatClampNeg on) 1 x.toNatClampNeg 0) 2 x.toNatClampNeg 0) 4 x.toNatClampNeg 0 else sX X 5 x.toNatClampNeg on)) (fun u : Nat → Nat → Int32 => cw g cI cZ sl mi n u cy ss ds fs) := by
  refine KI.of (own := RX4) (lvs := [(0, .ref (g 0)), (1, .int x), (2, .int on)]) (by decide) rfl (Nat.le_of_ble_eq_true rfl) rfl ?_
  intro p e s m args below meth c Q C hK hN A hA hP hD hS ret ls hl
  obtain ⟨hx, hb, hml, hown, hts, hr9, hlk9⟩ := id C
  refine lv_aload_n hx hb dX4_cold_0 rfl (lv_at hl 0 rfl) ?_
  refine va_get (D := D) (ci := 6) (v := .ref (g 1)) (C := RX4) (T := TX4) (N := 7) hx hb hts inX4 hown hK hP 0 rfl rfl 2 (by decide) (hts _ wF_X4_25) (fun _ h9 => h9) rfl dX4_cold_1 ?_
  refine lv_iload_n hx hb dX4_cold_4 rfl (lv_at hl 1 rfl) ?_
  refine k_callR (D := D) C hK hN hP hD (c_X2_has hn x) hl cf_yX2_has wM_X4_53 1 4 rfl rfl rfl rfl (Nat.le_of_ble_eq_true rfl) ⟨by decide, by decide⟩ ⟨Nat.zero_le _, Nat.zero_le _⟩ dX4_cold_5 (fun r5 hr5 => ?_)
  have hr5 : r5 = (if inR x 1 n then 1 else 0) := hr5
  subst hr5
  refine k_ifne_P (P := (inR x 1 n)) (tgt := 13) hx hb rfl dX4_cold_8 (by decide) (fun c8 => ?_) (fun c8 => ?_)
  · skip
    obtain ⟨j, hj1, hj2, rfl⟩ := inR_of c8
    refine lv_aload_n hx hb dX4_cold_13 rfl (lv_at hl 0 rfl) ?_
    refine va_get (D := D) (ci := 6) (v := .ref (g 1)) (C := RX4) (T := TX4) (N := 7) hx hb hts inX4 hown hK hP 0 rfl rfl 2 (by decide) (hts _ wF_X4_25) (fun _ h9 => h9) rfl dX4_cold_14 ?_
    refine lv_iload_n hx hb dX4_cold_17 rfl (lv_at hl 1 rfl) ?_
    refine lv_iload_n hx hb dX4_cold_18 rfl (lv_at hl 2 rfl) ?_
    refine k_callV (D := D) C hK hN hP hD hS hA (c_X2_tellCold hn j (by omega) on ho) hl cf_yX2_tellCold wM_X4_102 1 4 rfl rfl rfl rfl (Nat.le_of_ble_eq_true rfl) ⟨by decide, by decide⟩ ⟨Nat.zero_le _, Nat.zero_le _⟩ dX4_cold_19 (fun u19 H locs hr19 hP hD hS _ _ => ?_)
    have hP : va_P D vwCl (cw g cI cZ sl mi n u19 cy ss ds fs) H := hP
    have hD : va_D A (cw g cI cZ sl mi n u19 cy ss ds fs) := hD
    refine lv_aload_n hx hb dX4_cold_22 rfl (lv_at hl 0 rfl) ?_
    refine va_get (D := D) (ci := 6) (v := .ref (g 1)) (C := RX4) (T := TX4) (N := 7) hx hb hts inX4 hown hK hP 0 rfl rfl 2 (by decide) (hts _ wF_X4_25) (fun _ h9 => h9) rfl dX4_cold_23 ?_
    refine k_callR (D := D) C hK hN hP hD (c_X2_countCold hn) hl cf_yX2_countCold wM_X4_106 1 4 rfl rfl rfl rfl (Nat.le_of_ble_eq_true rfl) ⟨by decide, by decide⟩ ⟨Nat.zero_le _, Nat.zero_le _⟩ dX4_cold_26 (fun r26 hr26 => ?_)
    have hr26 : r26 = (nI (nCo (u19 5) (n + 1))) := hr26
    subst hr26
    exact ret _ u19 _ _ _ _ dX4_cold_29 hP hD hS (Or.inr ⟨c8, rfl, by rw [nI_clamp (by omega)]; exact hr19⟩)
  · skip
    refine lv_iconst (v := (-1)) hx hb dX4_cold_11 (by decide) ?_
    exact ret _ X _ _ _ _ dX4_cold_12 hP hD hS (Or.inl ⟨c8, rfl, rfl⟩)
set_option maxHeartbeats 4000000 in
set_option maxRecDepth 100000 in
theorem c_X4_flip {l : Launch} {D : va_G} {cI cZ cL : ClassId} {g : Nat → Nat} {sl mi n : Nat} {X : Nat → Nat → Int32} {cy ss ds fs : Nat} (hs1 : 1 ≤ sl) (hsl : sl ≤ 60) (ch x : Int32) : KI l yX4_flip (.code yX4_flip cX4_flip 3 (some .int)) 2 D (tyz cI cZ cL) [.ref (g 0), .int ch, .int x] (cw g cI cZ sl mi n X cy ss ds fs) (fun r u => (¬ ((1 ≤ ch ∧ ch ≤ 2) ∧ inR x 0 (sl - 1)) ∧ r = -1 ∧ u = (X, fs)) ∨ (((1 ≤ ch ∧ ch ≤ 2) ∧ inR x 0 (sl - 1)) ∧ X 20 x.toNatClampNeg &&& ch ≠ 0 ∧ r = -3 ∧ u = (X, fs)) ∨ (((1 ≤ ch ∧ ch ≤ 2) ∧ inR x 0 (sl - 1)) ∧ ¬ (X 20 x.toNatClampNeg &&& ch ≠ 0) ∧ r = nI (fs + 1) ∧ u = (sX X 20 x.toNatClampNeg (X 20 x.toNatClampNeg ||| ch), fs + 1))) (fun u : (Nat → Nat → Int32) × Nat => cw g cI cZ sl mi n u.1 cy ss ds u.2) := by
  refine KI.of (own := RX4) (lvs := [(0, .ref (g 0)), (1, .int ch), (2, .int x)]) (by decide) rfl (Nat.le_of_ble_eq_true rfl) rfl ?_
  intro p e s m args below meth c Q C hK hN A hA hP hD hS ret ls hl
  obtain ⟨hx, hb, hml, hown, hts, hr9, hlk9⟩ := id C
  refine lv_iload_n hx hb dX4_flip_0 rfl (lv_at hl 1 rfl) ?_
  refine lv_iconst (v := 1) hx hb dX4_flip_1 (by decide) ?_
  refine lv_iconst (v := 2) hx hb dX4_flip_2 (by decide) ?_
  refine k_callS (D := D) C hK hN hP hD (c_X4_within ch 1 2) hl cf_yX4_within wM_X4_7 rfl rfl (Nat.le_of_ble_eq_true rfl) ⟨by decide, by decide⟩ ⟨Nat.zero_le _, Nat.zero_le _⟩ dX4_flip_3 (fun r3 hr3 => ?_)
  have hr3 : r3 = (if 1 ≤ ch ∧ ch ≤ 2 then 1 else 0) := hr3
  subst hr3
  refine k_ifeq_P (P := (1 ≤ ch ∧ ch ≤ 2)) (tgt := 17) hx hb rfl dX4_flip_6 (by decide) (fun c6 => ?_) (fun c6 => ?_)
  · skip
    refine lv_iconst (v := (-1)) hx hb dX4_flip_17 (by decide) ?_
    exact ret _ (X, fs) _ _ _ _ dX4_flip_18 hP hD hS (Or.inl ⟨(by first | exact fun z => c6 z.1 | exact fun z => c14 z.2), rfl, rfl⟩)
  · skip
    refine lv_aload_n hx hb dX4_flip_9 rfl (lv_at hl 0 rfl) ?_
    refine lv_iload_n hx hb dX4_flip_10 rfl (lv_at hl 2 rfl) ?_
    refine k_callR (D := D) C hK hN hP hD (c_X4_hasSlot hs1 hsl x) hl cf_yX4_hasSlot wM_X4_57 0 6 rfl rfl rfl rfl (Nat.le_of_ble_eq_true rfl) ⟨by decide, by decide⟩ ⟨Nat.zero_le _, Nat.zero_le _⟩ dX4_flip_11 (fun r11 hr11 => ?_)
    have hr11 : r11 = (if inR x 0 (sl - 1) then 1 else 0) := hr11
    subst hr11
    refine k_ifne_P (P := (inR x 0 (sl - 1))) (tgt := 19) hx hb rfl dX4_flip_14 (by decide) (fun c14 => ?_) (fun c14 => ?_)
    · skip
      obtain ⟨j, hj1, hj2, rfl⟩ := inR_of c14
      have hcl := nI_clamp (n := j) (by omega)
      refine lv_aload_n hx hb dX4_flip_19 rfl (lv_at hl 0 rfl) ?_
      refine va_get (D := D) (ci := 6) (v := .ref (g 4)) (C := RX4) (T := TX4) (N := 7) hx hb hts inX4 hown hK hP 0 rfl rfl 5 (by decide) (hts _ wF_X4_46) (fun _ h9 => h9) rfl dX4_flip_20 ?_
      refine lv_iload_n hx hb dX4_flip_23 rfl (lv_at hl 1 rfl) ?_
      refine lv_iload_n hx hb dX4_flip_24 rfl (lv_at hl 2 rfl) ?_
      refine k_callR (D := D) C hK hN hP hD (c_X1_has hsl ch j (by omega)) hl cf_yX1_has wM_X4_109 4 3 rfl rfl rfl rfl (Nat.le_of_ble_eq_true rfl) ⟨by decide, by decide⟩ ⟨Nat.zero_le _, Nat.zero_le _⟩ dX4_flip_25 (fun r25 hr25 => ?_)
      have hr25 : r25 = (if X 20 j &&& ch ≠ 0 then 1 else 0) := hr25
      subst hr25
      refine k_ifeq_P (P := (X 20 j &&& ch ≠ 0)) (tgt := 34) hx hb rfl dX4_flip_28 (by decide) (fun c28 => ?_) (fun c28 => ?_)
      · skip
        refine lv_aload_n hx hb dX4_flip_34 rfl (lv_at hl 0 rfl) ?_
        refine va_get (D := D) (ci := 6) (v := .ref (g 4)) (C := RX4) (T := TX4) (N := 7) hx hb hts inX4 hown hK hP 0 rfl rfl 5 (by decide) (hts _ wF_X4_46) (fun _ h9 => h9) rfl dX4_flip_35 ?_
        refine lv_iload_n hx hb dX4_flip_38 rfl (lv_at hl 1 rfl) ?_
        refine lv_iload_n hx hb dX4_flip_39 rfl (lv_at hl 2 rfl) ?_
        refine k_callI (D := D) C hK hN hP hD hS hA (c_X1_add hsl ch j (by omega)) hl cf_yX1_add wM_X4_112 4 3 rfl rfl rfl rfl (Nat.le_of_ble_eq_true rfl) ⟨by decide, by decide⟩ ⟨Nat.zero_le _, Nat.zero_le _⟩ dX4_flip_40 (fun r40 u40 H locs hr40 hP hD hS _ _ => ?_)
        have hP : va_P D vwCl (cw g cI cZ sl mi n u40 cy ss ds (fs + 1)) H := hP
        have hD : va_D A (cw g cI cZ sl mi n u40 cy ss ds (fs + 1)) := hD
        exact ret _ (u40, fs + 1) _ _ _ _ dX4_flip_43 hP hD hS (Or.inr (Or.inr ⟨⟨c6, c14⟩, by rw [hcl]; exact c28, hr40.1, by rw [hcl, hr40.2]⟩))
      · skip
        refine lv_bipush (v := (-3)) hx hb dX4_flip_31 (by decide) ?_
        exact ret _ (X, fs) _ _ _ _ dX4_flip_33 hP hD hS (Or.inr (Or.inl ⟨⟨c6, c14⟩, by rw [hcl]; exact c28, rfl, rfl⟩))
    · skip
      refine lv_iconst (v := (-1)) hx hb dX4_flip_17 (by decide) ?_
      exact ret _ (X, fs) _ _ _ _ dX4_flip_18 hP hD hS (Or.inl ⟨(by first | exact fun z => c6 z.1 | exact fun z => c14 z.2), rfl, rfl⟩)
set_option maxHeartbeats 4000000 in
set_option maxRecDepth 100000 in
theorem c_X4_close {l : Launch} {D : va_G} {cI cZ cL : ClassId} {g : Nat → Nat} {sl mi n : Nat} {X : Nat → Nat → Int32} {cy ss ds fs : Nat} (hn : n ≤ 16) (bd : Int32) : KR l yX4_close (.code yX4_close cX4_close 2 (some .boolean)) 3 D (tyz cI cZ cL) [.ref (g 0), .int bd] (cw g cI cZ sl mi n X cy ss ds fs) (fun r => (r = 1 ∧ ∀ a b, 1 ≤ a → a < b → b ≤ n → (X 1 a = 2 → X 1 b = 2 → dst (X 2 a) (X 2 b) ≤ bd.toInt64)) ∨ (r = 0 ∧ ∃ a b, 1 ≤ a ∧ a < b ∧ b ≤ n ∧ X 1 a = 2 ∧ X 1 b = 2 ∧ ¬ dst (X 2 a) (X 2 b) ≤ bd.toInt64)) := by
  refine KR.ofz (own := RX4) (lvs := [(0, .ref (g 0)), (1, .int bd)]) (by decide) rfl (Nat.le_of_ble_eq_true rfl) rfl ?_
  intro p e s m args below meth c Q C hK hN hP hD ret ls hl
  obtain ⟨hx, hb, hml, hown, hts, hr9, hlk9⟩ := id C
  refine lv_aload_n hx hb dX4_close_0 rfl (lv_at hl 0 rfl) ?_
  refine va_get (D := D) (ci := 6) (v := .ref (g 1)) (C := RX4) (T := TX4) (N := 7) hx hb hts inX4 hown hK hP 0 rfl rfl 2 (by decide) (hts _ wF_X4_25) (fun _ h9 => h9) rfl dX4_close_1 ?_
  refine lv_iload_n hx hb dX4_close_4 rfl (lv_at hl 1 rfl) ?_
  refine k_callR (D := D) C hK hN hP hD (c_X2_areWithin hn bd) hl cf_yX2_areWithin wM_X4_115 1 4 rfl rfl rfl rfl (Nat.le_of_ble_eq_true rfl) ⟨by decide, by decide⟩ ⟨Nat.zero_le _, Nat.zero_le _⟩ dX4_close_5 (fun r5 hr5 => ?_)
  exact ret _ _ _ dX4_close_8 (hr5.elim (fun h => Or.inr h.1) (fun h => Or.inl h.1)) hr5
set_option maxHeartbeats 4000000 in
set_option maxRecDepth 100000 in
theorem c_X4_dynamic {l : Launch} {D : va_G} {cI cZ cL : ClassId} {g : Nat → Nat} {sl mi n : Nat} {X : Nat → Nat → Int32} {cy ss ds fs : Nat} (hn : n ≤ 16) (hd : ds ≤ 100) (x di ln : Int32) : KI l yX4_dynamic (.code yX4_dynamic cX4_dynamic 4 (some .int)) 1 D (tyz cI cZ cL) [.ref (g 0), .int x, .int di, .int ln] (cw g cI cZ sl mi n X cy ss ds fs) (fun r u => (¬ inR x 1 n ∧ r = -1 ∧ u = (X, ds)) ∨ (inR x 1 n ∧ ¬ ((1 ≤ di ∧ di ≤ 60) ∧ 1 ≤ ln ∧ ln ≤ 60) ∧ r = -2 ∧ u = (X, ds)) ∨ (inR x 1 n ∧ ((1 ≤ di ∧ di ≤ 60) ∧ 1 ≤ ln ∧ ln ≤ 60) ∧ 100 ≤ ds ∧ r = -4 ∧ u = (X, ds)) ∨ (inR x 1 n ∧ ((1 ≤ di ∧ di ≤ 60) ∧ 1 ≤ ln ∧ ln ≤ 60) ∧ ds < 100 ∧ r = nI (ds + 1) ∧ u = (sX (sX (sX X 17 ds x) 18 ds di) 19 ds ln, ds + 1))) (fun u : (Nat → Nat → Int32) × Nat => cw g cI cZ sl mi n u.1 cy ss u.2 fs) := by
  refine KI.of (own := RX4) (lvs := [(0, .ref (g 0)), (1, .int x), (2, .int di), (3, .int ln)]) (by decide) rfl (Nat.le_of_ble_eq_true rfl) rfl ?_
  intro p e s m args below meth c Q C hK hN A hA hP hD hS ret ls hl
  obtain ⟨hx, hb, hml, hown, hts, hr9, hlk9⟩ := id C
  refine lv_aload_n hx hb dX4_dynamic_0 rfl (lv_at hl 0 rfl) ?_
  refine va_get (D := D) (ci := 6) (v := .ref (g 1)) (C := RX4) (T := TX4) (N := 7) hx hb hts inX4 hown hK hP 0 rfl rfl 2 (by decide) (hts _ wF_X4_25) (fun _ h9 => h9) rfl dX4_dynamic_1 ?_
  refine lv_iload_n hx hb dX4_dynamic_4 rfl (lv_at hl 1 rfl) ?_
  refine k_callR (D := D) C hK hN hP hD (c_X2_has hn x) hl cf_yX2_has wM_X4_53 1 4 rfl rfl rfl rfl (Nat.le_of_ble_eq_true rfl) ⟨by decide, by decide⟩ ⟨Nat.zero_le _, Nat.zero_le _⟩ dX4_dynamic_5 (fun r5 hr5 => ?_)
  have hr5 : r5 = (if inR x 1 n then 1 else 0) := hr5
  subst hr5
  refine k_ifne_P (P := (inR x 1 n)) (tgt := 13) hx hb rfl dX4_dynamic_8 (by decide) (fun c8 => ?_) (fun c8 => ?_)
  · skip
    refine lv_iload_n hx hb dX4_dynamic_13 rfl (lv_at hl 2 rfl) ?_
    refine lv_iconst (v := 1) hx hb dX4_dynamic_14 (by decide) ?_
    refine lv_bipush (v := 60) hx hb dX4_dynamic_15 (by decide) ?_
    refine k_callS (D := D) C hK hN hP hD (c_X4_within di 1 60) hl cf_yX4_within wM_X4_7 rfl rfl (Nat.le_of_ble_eq_true rfl) ⟨by decide, by decide⟩ ⟨Nat.zero_le _, Nat.zero_le _⟩ dX4_dynamic_17 (fun r17 hr17 => ?_)
    have hr17 : r17 = (if 1 ≤ di ∧ di ≤ 60 then 1 else 0) := hr17
    subst hr17
    refine k_ifeq_P (P := (1 ≤ di ∧ di ≤ 60)) (tgt := 33) hx hb rfl dX4_dynamic_20 (by decide) (fun c20 => ?_) (fun c20 => ?_)
    · skip
      refine lv_bipush (v := (-2)) hx hb dX4_dynamic_33 (by decide) ?_
      exact ret _ (X, ds) _ _ _ _ dX4_dynamic_35 hP hD hS (Or.inr (Or.inl ⟨c8, (by first | exact fun z => c20 z.1 | exact fun z => c30 z.2), rfl, rfl⟩))
    · skip
      refine lv_iload_n hx hb dX4_dynamic_23 rfl (lv_at hl 3 rfl) ?_
      refine lv_iconst (v := 1) hx hb dX4_dynamic_24 (by decide) ?_
      refine lv_bipush (v := 60) hx hb dX4_dynamic_25 (by decide) ?_
      refine k_callS (D := D) C hK hN hP hD (c_X4_within ln 1 60) hl cf_yX4_within wM_X4_7 rfl rfl (Nat.le_of_ble_eq_true rfl) ⟨by decide, by decide⟩ ⟨Nat.zero_le _, Nat.zero_le _⟩ dX4_dynamic_27 (fun r27 hr27 => ?_)
      have hr27 : r27 = (if 1 ≤ ln ∧ ln ≤ 60 then 1 else 0) := hr27
      subst hr27
      refine k_ifne_P (P := (1 ≤ ln ∧ ln ≤ 60)) (tgt := 36) hx hb rfl dX4_dynamic_30 (by decide) (fun c30 => ?_) (fun c30 => ?_)
      · skip
        refine lv_aload_n hx hb dX4_dynamic_36 rfl (lv_at hl 0 rfl) ?_
        refine va_get (D := D) (ci := 6) (v := .ref (g 3)) (C := RX4) (T := TX4) (N := 7) hx hb hts inX4 hown hK hP 0 rfl rfl 4 (by decide) (hts _ wF_X4_39) (fun _ h9 => h9) rfl dX4_dynamic_37 ?_
        refine k_callR (D := D) C hK hN hP hD (c_X0_isFull hd) hl cf_yX0_isFull wM_X4_75 3 2 rfl rfl rfl rfl (Nat.le_of_ble_eq_true rfl) ⟨by decide, by decide⟩ ⟨Nat.zero_le _, Nat.zero_le _⟩ dX4_dynamic_40 (fun r40 hr40 => ?_)
        have hr40 : r40 = (if 100 ≤ ds then 1 else 0) := hr40
        subst hr40
        refine k_ifeq_P (P := (100 ≤ ds)) (tgt := 49) hx hb rfl dX4_dynamic_43 (by decide) (fun c43 => ?_) (fun c43 => ?_)
        · skip
          refine lv_aload_n hx hb dX4_dynamic_49 rfl (lv_at hl 0 rfl) ?_
          refine va_get (D := D) (ci := 6) (v := .ref (g 3)) (C := RX4) (T := TX4) (N := 7) hx hb hts inX4 hown hK hP 0 rfl rfl 4 (by decide) (hts _ wF_X4_39) (fun _ h9 => h9) rfl dX4_dynamic_50 ?_
          refine lv_iload_n hx hb dX4_dynamic_53 rfl (lv_at hl 1 rfl) ?_
          refine lv_iload_n hx hb dX4_dynamic_54 rfl (lv_at hl 2 rfl) ?_
          refine lv_iload_n hx hb dX4_dynamic_55 rfl (lv_at hl 3 rfl) ?_
          refine k_callI (D := D) C hK hN hP hD hS hA (c_X0_add (by omega) x di ln) hl cf_yX0_add wM_X4_76 3 2 rfl rfl rfl rfl (Nat.le_of_ble_eq_true rfl) ⟨by decide, by decide⟩ ⟨Nat.zero_le _, Nat.zero_le _⟩ dX4_dynamic_56 (fun r56 u56 H locs hr56 hP hD hS _ _ => ?_)
          have hP : va_P D vwCl (cw g cI cZ sl mi n u56 cy ss (ds + 1) fs) H := hP
          have hD : va_D A (cw g cI cZ sl mi n u56 cy ss (ds + 1) fs) := hD
          exact ret _ (u56, ds + 1) _ _ _ _ dX4_dynamic_59 hP hD hS (Or.inr (Or.inr (Or.inr ⟨c8, ⟨c20, c30⟩, by omega, hr56.1, by rw [hr56.2]⟩)))
        · skip
          refine lv_bipush (v := (-4)) hx hb dX4_dynamic_46 (by decide) ?_
          exact ret _ (X, ds) _ _ _ _ dX4_dynamic_48 hP hD hS (Or.inr (Or.inr (Or.inl ⟨c8, ⟨c20, c30⟩, c43, rfl, rfl⟩)))
      · skip
        refine lv_bipush (v := (-2)) hx hb dX4_dynamic_33 (by decide) ?_
        exact ret _ (X, ds) _ _ _ _ dX4_dynamic_35 hP hD hS (Or.inr (Or.inl ⟨c8, (by first | exact fun z => c20 z.1 | exact fun z => c30 z.2), rfl, rfl⟩))
  · skip
    refine lv_iconst (v := (-1)) hx hb dX4_dynamic_11 (by decide) ?_
    exact ret _ (X, ds) _ _ _ _ dX4_dynamic_12 hP hD hS (Or.inl ⟨c8, rfl, rfl⟩)
set_option maxHeartbeats 4000000 in
set_option maxRecDepth 100000 in
theorem c_X4_frame {l : Launch} {D : va_G} {cI cZ cL : ClassId} {g : Nat → Nat} {sl mi n : Nat} {X : Nat → Nat → Int32} {cy ss ds fs : Nat} (hn : n ≤ 16) (hs1 : 1 ≤ sl) (hsl : sl ≤ 60) (hs : ss ≤ 100) (x q ch ba ev : Int32) : KI l yX4_frame (.code yX4_frame cX4_frame 6 (some .int)) 2 D (tyz cI cZ cL) [.ref (g 0), .int x, .int q, .int ch, .int ba, .int ev] (cw g cI cZ sl mi n X cy ss ds fs) (fun r u => (¬ (inR x 1 n ∧ inR q 0 (sl - 1)) ∧ r = -1 ∧ u = (X, ss)) ∨ ((inR x 1 n ∧ inR q 0 (sl - 1)) ∧ ¬ ((1 ≤ ch ∧ ch ≤ 3) ∧ isEv ev ∧ 0 ≤ ba ∧ ba ≤ ev - 1) ∧ r = -2 ∧ u = (X, ss)) ∨ ((inR x 1 n ∧ inR q 0 (sl - 1)) ∧ ((1 ≤ ch ∧ ch ≤ 3) ∧ isEv ev ∧ 0 ≤ ba ∧ ba ≤ ev - 1) ∧ (∃ i, i < ss ∧ Cl (X 13) (X 14) (X 15) (X 16) q ch ba ev i) ∧ r = -3 ∧ u = (X, ss)) ∨ ((inR x 1 n ∧ inR q 0 (sl - 1)) ∧ ((1 ≤ ch ∧ ch ≤ 3) ∧ isEv ev ∧ 0 ≤ ba ∧ ba ≤ ev - 1) ∧ (∀ i, i < ss → ¬ Cl (X 13) (X 14) (X 15) (X 16) q ch ba ev i) ∧ 100 ≤ ss ∧ r = -4 ∧ u = (X, ss)) ∨ ((inR x 1 n ∧ inR q 0 (sl - 1)) ∧ ((1 ≤ ch ∧ ch ≤ 3) ∧ isEv ev ∧ 0 ≤ ba ∧ ba ≤ ev - 1) ∧ (∀ i, i < ss → ¬ Cl (X 13) (X 14) (X 15) (X 16) q ch ba ev i) ∧ ss < 100 ∧ r = nI (ss + 1) ∧ u = (sX (sX (sX (sX (sX X 12 ss x) 13 ss q) 14 ss ch) 15 ss ba) 16 ss ev, ss + 1))) (fun u : (Nat → Nat → Int32) × Nat => cw g cI cZ sl mi n u.1 cy u.2 ds fs) := by
  refine KI.of (own := RX4) (lvs := [(0, .ref (g 0)), (1, .int x), (2, .int q), (3, .int ch), (4, .int ba), (5, .int ev)]) (by decide) rfl (Nat.le_of_ble_eq_true rfl) rfl ?_
  intro p e s m args below meth c Q C hK hN A hA hP hD hS ret ls hl
  obtain ⟨hx, hb, hml, hown, hts, hr9, hlk9⟩ := id C
  refine lv_aload_n hx hb dX4_frame_0 rfl (lv_at hl 0 rfl) ?_
  refine va_get (D := D) (ci := 6) (v := .ref (g 1)) (C := RX4) (T := TX4) (N := 7) hx hb hts inX4 hown hK hP 0 rfl rfl 2 (by decide) (hts _ wF_X4_25) (fun _ h9 => h9) rfl dX4_frame_1 ?_
  refine lv_iload_n hx hb dX4_frame_4 rfl (lv_at hl 1 rfl) ?_
  refine k_callR (D := D) C hK hN hP hD (c_X2_has hn x) hl cf_yX2_has wM_X4_53 1 4 rfl rfl rfl rfl (Nat.le_of_ble_eq_true rfl) ⟨by decide, by decide⟩ ⟨Nat.zero_le _, Nat.zero_le _⟩ dX4_frame_5 (fun r5 hr5 => ?_)
  have hr5 : r5 = (if inR x 1 n then 1 else 0) := hr5
  subst hr5
  refine k_ifeq_P (P := (inR x 1 n)) (tgt := 19) hx hb rfl dX4_frame_8 (by decide) (fun c8 => ?_) (fun c8 => ?_)
  · skip
    refine lv_iconst (v := (-1)) hx hb dX4_frame_19 (by decide) ?_
    exact ret _ (X, ss) _ _ _ _ dX4_frame_20 hP hD hS (Or.inl ⟨(by first | exact fun z => c8 z.1 | exact fun z => c16 z.2), rfl, rfl⟩)
  · skip
    refine lv_aload_n hx hb dX4_frame_11 rfl (lv_at hl 0 rfl) ?_
    refine lv_iload_n hx hb dX4_frame_12 rfl (lv_at hl 2 rfl) ?_
    refine k_callR (D := D) C hK hN hP hD (c_X4_hasSlot hs1 hsl q) hl cf_yX4_hasSlot wM_X4_57 0 6 rfl rfl rfl rfl (Nat.le_of_ble_eq_true rfl) ⟨by decide, by decide⟩ ⟨Nat.zero_le _, Nat.zero_le _⟩ dX4_frame_13 (fun r13 hr13 => ?_)
    have hr13 : r13 = (if inR q 0 (sl - 1) then 1 else 0) := hr13
    subst hr13
    refine k_ifne_P (P := (inR q 0 (sl - 1))) (tgt := 21) hx hb rfl dX4_frame_16 (by decide) (fun c16 => ?_) (fun c16 => ?_)
    · skip
      refine lv_iload_n hx hb dX4_frame_21 rfl (lv_at hl 3 rfl) ?_
      refine lv_iconst (v := 1) hx hb dX4_frame_22 (by decide) ?_
      refine lv_iconst (v := 3) hx hb dX4_frame_23 (by decide) ?_
      refine k_callS (D := D) C hK hN hP hD (c_X4_within ch 1 3) hl cf_yX4_within wM_X4_7 rfl rfl (Nat.le_of_ble_eq_true rfl) ⟨by decide, by decide⟩ ⟨Nat.zero_le _, Nat.zero_le _⟩ dX4_frame_24 (fun r24 hr24 => ?_)
      have hr24 : r24 = (if 1 ≤ ch ∧ ch ≤ 3 then 1 else 0) := hr24
      subst hr24
      refine k_ifeq_P (P := (1 ≤ ch ∧ ch ≤ 3)) (tgt := 51) hx hb rfl dX4_frame_27 (by decide) (fun c27 => ?_) (fun c27 => ?_)
      · skip
        refine lv_bipush (v := (-2)) hx hb dX4_frame_51 (by decide) ?_
        exact ret _ (X, ss) _ _ _ _ dX4_frame_53 hP hD hS (Or.inr (Or.inl ⟨⟨c8, c16⟩, (by first | exact fun z => c27 z.1 | exact fun z => c35 z.2.1 | exact fun z => c48 z.2.2), rfl, rfl⟩))
      · skip
        refine lv_iload hx hb dX4_frame_30 (lv_at hl 5 rfl) ?_
        refine k_callS (D := D) C hK hN hP hD (c_X3_isEvery ev) hl cf_yX3_isEvery wM_X4_60 rfl rfl (Nat.le_of_ble_eq_true rfl) ⟨by decide, by decide⟩ ⟨Nat.zero_le _, Nat.zero_le _⟩ dX4_frame_32 (fun r32 hr32 => ?_)
        have hr32 : r32 = (if isEv ev then 1 else 0) := hr32
        subst hr32
        refine k_ifeq_P (P := (isEv ev)) (tgt := 51) hx hb rfl dX4_frame_35 (by decide) (fun c35 => ?_) (fun c35 => ?_)
        · skip
          refine lv_bipush (v := (-2)) hx hb dX4_frame_51 (by decide) ?_
          exact ret _ (X, ss) _ _ _ _ dX4_frame_53 hP hD hS (Or.inr (Or.inl ⟨⟨c8, c16⟩, (by first | exact fun z => c27 z.1 | exact fun z => c35 z.2.1 | exact fun z => c48 z.2.2), rfl, rfl⟩))
        · skip
          refine lv_iload hx hb dX4_frame_38 (lv_at hl 4 rfl) ?_
          refine lv_iconst (v := 0) hx hb dX4_frame_40 (by decide) ?_
          refine lv_iload hx hb dX4_frame_41 (lv_at hl 5 rfl) ?_
          refine lv_iconst (v := 1) hx hb dX4_frame_43 (by decide) ?_
          refine lv_isub hx hb dX4_frame_44 ?_
          refine k_callS (D := D) C hK hN hP hD (c_X4_within ba 0 (ev - 1)) hl cf_yX4_within wM_X4_7 rfl rfl (Nat.le_of_ble_eq_true rfl) ⟨by decide, by decide⟩ ⟨Nat.zero_le _, Nat.zero_le _⟩ dX4_frame_45 (fun r45 hr45 => ?_)
          have hr45 : r45 = (if 0 ≤ ba ∧ ba ≤ (ev - 1) then 1 else 0) := hr45
          subst hr45
          refine k_ifne_P (P := (0 ≤ ba ∧ ba ≤ (ev - 1))) (tgt := 54) hx hb rfl dX4_frame_48 (by decide) (fun c48 => ?_) (fun c48 => ?_)
          · skip
            refine lv_aload_n hx hb dX4_frame_54 rfl (lv_at hl 0 rfl) ?_
            refine va_get (D := D) (ci := 6) (v := .ref (g 2)) (C := RX4) (T := TX4) (N := 7) hx hb hts inX4 hown hK hP 0 rfl rfl 3 (by decide) (hts _ wF_X4_32) (fun _ h9 => h9) rfl dX4_frame_55 ?_
            refine lv_iload_n hx hb dX4_frame_58 rfl (lv_at hl 2 rfl) ?_
            refine lv_iload_n hx hb dX4_frame_59 rfl (lv_at hl 3 rfl) ?_
            refine lv_iload hx hb dX4_frame_60 (lv_at hl 4 rfl) ?_
            refine lv_iload hx hb dX4_frame_62 (lv_at hl 5 rfl) ?_
            refine k_callR (D := D) C hK hN hP hD (c_X3_clashes hs q ch ba ev) hl cf_yX3_clashes wM_X4_63 2 5 rfl rfl rfl rfl (Nat.le_of_ble_eq_true rfl) ⟨by decide, by decide⟩ ⟨Nat.zero_le _, Nat.zero_le _⟩ dX4_frame_64 (fun r64 hr64 => ?_)
            refine lv_if_eq (tgt := 73) hx hb dX4_frame_67 (by decide) (fun c67 => ?_) (fun c67 => ?_)
            · skip
              have hno := (hr64.resolve_left (fun z => absurd (z.1.symm.trans c67) (by decide))).2
              refine lv_aload_n hx hb dX4_frame_73 rfl (lv_at hl 0 rfl) ?_
              refine va_get (D := D) (ci := 6) (v := .ref (g 2)) (C := RX4) (T := TX4) (N := 7) hx hb hts inX4 hown hK hP 0 rfl rfl 3 (by decide) (hts _ wF_X4_32) (fun _ h9 => h9) rfl dX4_frame_74 ?_
              refine k_callR (D := D) C hK hN hP hD (c_X3_isFull hs) hl cf_yX3_isFull wM_X4_67 2 5 rfl rfl rfl rfl (Nat.le_of_ble_eq_true rfl) ⟨by decide, by decide⟩ ⟨Nat.zero_le _, Nat.zero_le _⟩ dX4_frame_77 (fun r77 hr77 => ?_)
              have hr77 : r77 = (if 100 ≤ ss then 1 else 0) := hr77
              subst hr77
              refine k_ifeq_P (P := (100 ≤ ss)) (tgt := 86) hx hb rfl dX4_frame_80 (by decide) (fun c80 => ?_) (fun c80 => ?_)
              · skip
                refine lv_aload_n hx hb dX4_frame_86 rfl (lv_at hl 0 rfl) ?_
                refine va_get (D := D) (ci := 6) (v := .ref (g 2)) (C := RX4) (T := TX4) (N := 7) hx hb hts inX4 hown hK hP 0 rfl rfl 3 (by decide) (hts _ wF_X4_32) (fun _ h9 => h9) rfl dX4_frame_87 ?_
                refine lv_iload_n hx hb dX4_frame_90 rfl (lv_at hl 1 rfl) ?_
                refine lv_iload_n hx hb dX4_frame_91 rfl (lv_at hl 2 rfl) ?_
                refine lv_iload_n hx hb dX4_frame_92 rfl (lv_at hl 3 rfl) ?_
                refine lv_iload hx hb dX4_frame_93 (lv_at hl 4 rfl) ?_
                refine lv_iload hx hb dX4_frame_95 (lv_at hl 5 rfl) ?_
                refine k_callI (D := D) C hK hN hP hD hS hA (c_X3_add (by omega) x q ch ba ev) hl cf_yX3_add wM_X4_71 2 5 rfl rfl rfl rfl (Nat.le_of_ble_eq_true rfl) ⟨by decide, by decide⟩ ⟨Nat.zero_le _, Nat.zero_le _⟩ dX4_frame_97 (fun r97 u97 H locs hr97 hP hD hS _ _ => ?_)
                have hP : va_P D vwCl (cw g cI cZ sl mi n u97 cy (ss + 1) ds fs) H := hP
                have hD : va_D A (cw g cI cZ sl mi n u97 cy (ss + 1) ds fs) := hD
                exact ret _ (u97, ss + 1) _ _ _ _ dX4_frame_100 hP hD hS (Or.inr (Or.inr (Or.inr (Or.inr ⟨⟨c8, c16⟩, ⟨c27, c35, c48⟩, hno, by omega, hr97.1, by rw [hr97.2]⟩))))
              · skip
                refine lv_bipush (v := (-4)) hx hb dX4_frame_83 (by decide) ?_
                exact ret _ (X, ss) _ _ _ _ dX4_frame_85 hP hD hS (Or.inr (Or.inr (Or.inr (Or.inl ⟨⟨c8, c16⟩, ⟨c27, c35, c48⟩, hno, c80, rfl, rfl⟩))))
            · skip
              refine lv_bipush (v := (-3)) hx hb dX4_frame_70 (by decide) ?_
              exact ret _ (X, ss) _ _ _ _ dX4_frame_72 hP hD hS (Or.inr (Or.inr (Or.inl ⟨⟨c8, c16⟩, ⟨c27, c35, c48⟩, (hr64.resolve_right (fun z => c67 z.1)).2, rfl, rfl⟩)))
          · skip
            refine lv_bipush (v := (-2)) hx hb dX4_frame_51 (by decide) ?_
            exact ret _ (X, ss) _ _ _ _ dX4_frame_53 hP hD hS (Or.inr (Or.inl ⟨⟨c8, c16⟩, (by first | exact fun z => c27 z.1 | exact fun z => c35 z.2.1 | exact fun z => c48 z.2.2), rfl, rfl⟩))
    · skip
      refine lv_iconst (v := (-1)) hx hb dX4_frame_19 (by decide) ?_
      exact ret _ (X, ss) _ _ _ _ dX4_frame_20 hP hD hS (Or.inl ⟨(by first | exact fun z => c8 z.1 | exact fun z => c16 z.2), rfl, rfl⟩)
set_option maxHeartbeats 4000000 in
set_option maxRecDepth 100000 in
theorem c_X4_runOne {l : Launch} {D : va_G} {cI cZ cL : ClassId} {g : Nat → Nat} {sl mi n : Nat} {X : Nat → Nat → Int32} {cy ss ds fs : Nat} (hn : n ≤ 16) (hs : ss ≤ 100) (hsl : sl ≤ 60) (hd : ds ≤ 100) (hmi : mi ≤ 60) (hF : FrI (X 12) (X 13) n sl ss) (hY : DyI (X 17) (X 19) n ds) : KI l yX4_runOne (.code yX4_runOne cX4_runOne 2 (some .int)) 4 D (tyz cI cZ cL) [.ref (g 0)] (cw g cI cZ sl mi n X cy ss ds fs) (fun r u => RunC sl mi n ss X cy ds r u.1 u.2) (fun u : (Nat → Nat → Int32) × Nat => cw g cI cZ sl mi n u.1 (cy + 1) ss u.2 0) := by
  refine KI.of (own := RX4) (lvs := [(0, .ref (g 0))]) (by decide) rfl (Nat.le_of_ble_eq_true rfl) rfl ?_
  intro p e s m args below meth c Q C hK hN A hA hP hD hS ret ls hl
  obtain ⟨hx, hb, hml, hown, hts, hr9, hlk9⟩ := id C
  refine lv_aload_n hx hb dX4_runOne_0 rfl (lv_at hl 0 rfl) ?_
  refine va_get (D := D) (ci := 6) (v := .ref (g 1)) (C := RX4) (T := TX4) (N := 7) hx hb hts inX4 hown hK hP 0 rfl rfl 2 (by decide) (hts _ wF_X4_25) (fun _ h9 => h9) rfl dX4_runOne_1 ?_
  refine k_callV (D := D) C hK hN hP hD hS hA (c_X2_startUp hn) hl cf_yX2_startUp wM_X4_121 1 4 rfl rfl rfl rfl (Nat.le_of_ble_eq_true rfl) ⟨by decide, by decide⟩ ⟨Nat.zero_le _, Nat.zero_le _⟩ dX4_runOne_4 (fun u4 H locs hr4 hP hD hS _ _ => ?_)
  have hP : va_P D vwCl (cw g cI cZ sl mi n u4 cy ss ds fs) H := hP
  have hD : va_D A (cw g cI cZ sl mi n u4 cy ss ds fs) := hD
  have e4 := @SU_keep _ _ _ hr4
  refine lv_aload_n hx hb dX4_runOne_7 rfl (lv_at hl 0 rfl) ?_
  refine va_get (D := D) (ci := 6) (v := .ref (g 2)) (C := RX4) (T := TX4) (N := 7) hx hb hts inX4 hown hK hP 0 rfl rfl 3 (by decide) (hts _ wF_X4_32) (fun _ h9 => h9) rfl dX4_runOne_8 ?_
  refine lv_aload_n hx hb dX4_runOne_11 rfl (lv_at hl 0 rfl) ?_
  refine va_get (D := D) (ci := 6) (v := .int (nI cy)) (C := RX4) (T := TX4) (N := 7) hx hb hts inX4 hown hK hP 0 rfl rfl 6 (by decide) (hts _ wF_X4_50) (fun _ h9 => h9) rfl dX4_runOne_12 ?_
  refine lv_aload_n hx hb dX4_runOne_15 rfl (lv_at hl 0 rfl) ?_
  refine va_get (D := D) (ci := 6) (v := .ref (g 1)) (C := RX4) (T := TX4) (N := 7) hx hb hts inX4 hown hK hP 0 rfl rfl 2 (by decide) (hts _ wF_X4_25) (fun _ h9 => h9) rfl dX4_runOne_16 ?_
  refine lv_aload_n hx hb dX4_runOne_19 rfl (lv_at hl 0 rfl) ?_
  refine va_get (D := D) (ci := 6) (v := .ref (g 4)) (C := RX4) (T := TX4) (N := 7) hx hb hts inX4 hown hK hP 0 rfl rfl 5 (by decide) (hts _ wF_X4_46) (fun _ h9 => h9) rfl dX4_runOne_20 ?_
  refine k_callI (D := D) C hK hN hP hD hS hA (c_X3_send hn hs hsl (nI cy) (by rw [e4 12 (by decide) (by decide) (by decide), e4 13 (by decide) (by decide) (by decide)]; exact hF)) hl cf_yX3_send wM_X4_124 2 5 rfl rfl rfl rfl (Nat.le_of_ble_eq_true rfl) ⟨by decide, by decide⟩ ⟨Nat.zero_le _, Nat.zero_le _⟩ dX4_runOne_23 (fun r23 u23 H locs hr23 hP hD hS _ _ => ?_)
  have hP : va_P D vwCl (cw g cI cZ sl mi n u23 cy ss ds fs) H := hP
  have hD : va_D A (cw g cI cZ sl mi n u23 cy ss ds fs) := hD
  have e23 := hr23.2.2
  refine lv_aload_n hx hb dX4_runOne_26 rfl (lv_at hl 0 rfl) ?_
  refine va_get (D := D) (ci := 6) (v := .ref (g 3)) (C := RX4) (T := TX4) (N := 7) hx hb hts inX4 hown hK hP 0 rfl rfl 4 (by decide) (hts _ wF_X4_39) (fun _ h9 => h9) rfl dX4_runOne_27 ?_
  refine lv_aload_n hx hb dX4_runOne_30 rfl (lv_at hl 0 rfl) ?_
  refine va_get (D := D) (ci := 6) (v := .int (nI mi)) (C := RX4) (T := TX4) (N := 7) hx hb hts inX4 hown hK hP 0 rfl rfl 1 (by decide) (hts _ wF_X4_17) (fun _ h9 => h9) rfl dX4_runOne_31 ?_
  refine lv_aload_n hx hb dX4_runOne_34 rfl (lv_at hl 0 rfl) ?_
  refine va_get (D := D) (ci := 6) (v := .ref (g 1)) (C := RX4) (T := TX4) (N := 7) hx hb hts inX4 hown hK hP 0 rfl rfl 2 (by decide) (hts _ wF_X4_25) (fun _ h9 => h9) rfl dX4_runOne_35 ?_
  refine k_callI (D := D) C hK hN hP hD hS hA (c_X0_send hn hd hmi (by rw [e23 17 (by decide), e23 19 (by decide), e4 17 (by decide) (by decide) (by decide), e4 19 (by decide) (by decide) (by decide)]; exact hY)) hl cf_yX0_send wM_X4_128 3 2 rfl rfl rfl rfl (Nat.le_of_ble_eq_true rfl) ⟨by decide, by decide⟩ ⟨Nat.zero_le _, Nat.zero_le _⟩ dX4_runOne_38 (fun r38 u38 H locs hr38 hP hD hS _ _ => ?_)
  have hP : va_P D vwCl (cw g cI cZ sl mi n (u38.1) cy ss (u38.2) fs) H := hP
  have hD : va_D A (cw g cI cZ sl mi n (u38.1) cy ss (u38.2) fs) := hD
  obtain ⟨d, hd1, hd2, hd3, hY3, e38, hd4⟩ := hr38
  refine lv_iadd hx hb dX4_runOne_41 ?_
  refine lv_istore_n (lv' := [(1, .int (r23 + r38)), (0, .ref (g 0))]) hx hb dX4_runOne_42 rfl hl (by decide) rfl (fun ls hl => ?_)
  have L62 : ∀ (od : Int32) (ls : Array Slot), (od = if nI cy &&& 1 = 1 then 1 else 0) → (lv_has ls 2 [(0, .ref (g 0)), (1, .int (r23 + r38))]) → W p l e (rmK 4) s m args below meth c H locs 0 0 Q (F0 m 62 ls [.int od, .ref (g 1)]) := by
    intro od ls hod hl
    refine k_callV (D := D) C hK hN hP hD hS hA (c_X2_correct hn od) hl cf_yX2_correct wM_X4_131 1 4 rfl rfl rfl rfl (Nat.le_of_ble_eq_true rfl) ⟨by decide, by decide⟩ ⟨Nat.zero_le _, Nat.zero_le _⟩ dX4_runOne_62 (fun u62 H locs hr62 hP hD hS _ _ => ?_)
    have hP : va_P D vwCl (cw g cI cZ sl mi n u62 cy ss (u38.2) fs) H := hP
    have hD : va_D A (cw g cI cZ sl mi n u62 cy ss (u38.2) fs) := hD
    refine lv_aload_n hx hb dX4_runOne_65 rfl (lv_at hl 0 rfl) ?_
    refine va_get (D := D) (ci := 6) (v := .ref (g 1)) (C := RX4) (T := TX4) (N := 7) hx hb hts inX4 hown hK hP 0 rfl rfl 2 (by decide) (hts _ wF_X4_25) (fun _ h9 => h9) rfl dX4_runOne_66 ?_
    refine k_callV (D := D) C hK hN hP hD hS hA (c_X2_passTime hn) hl cf_yX2_passTime wM_X4_135 1 4 rfl rfl rfl rfl (Nat.le_of_ble_eq_true rfl) ⟨by decide, by decide⟩ ⟨Nat.zero_le _, Nat.zero_le _⟩ dX4_runOne_69 (fun u69 H locs hr69 hP hD hS _ _ => ?_)
    have hP : va_P D vwCl (cw g cI cZ sl mi n u69 cy ss (u38.2) fs) H := hP
    have hD : va_D A (cw g cI cZ sl mi n u69 cy ss (u38.2) fs) := hD
    refine lv_aload_n hx hb dX4_runOne_72 rfl (lv_at hl 0 rfl) ?_
    refine va_get (D := D) (ci := 6) (v := .ref (g 4)) (C := RX4) (T := TX4) (N := 7) hx hb hts inX4 hown hK hP 0 rfl rfl 5 (by decide) (hts _ wF_X4_46) (fun _ h9 => h9) rfl dX4_runOne_73 ?_
    refine k_callV (D := D) C hK hN hP hD hS hA (c_X1_clear hsl) hl cf_yX1_clear wM_X4_138 4 3 rfl rfl rfl rfl (Nat.le_of_ble_eq_true rfl) ⟨by decide, by decide⟩ ⟨Nat.zero_le _, Nat.zero_le _⟩ dX4_runOne_76 (fun u76 H locs hr76 hP hD hS _ _ => ?_)
    have hP : va_P D vwCl (cw g cI cZ sl mi n u76 cy ss (u38.2) 0) H := hP
    have hD : va_D A (cw g cI cZ sl mi n u76 cy ss (u38.2) 0) := hD
    refine lv_aload_n hx hb dX4_runOne_79 rfl (lv_at hl 0 rfl) ?_
    refine lv_dup hx hb dX4_runOne_80 rfl ?_
    refine va_get (D := D) (ci := 6) (v := .int (nI cy)) (C := RX4) (T := TX4) (N := 7) hx hb hts inX4 hown hK hP 0 rfl rfl 6 (by decide) (hts _ wF_X4_50) (fun _ h9 => h9) rfl dX4_runOne_81 ?_
    refine lv_iconst (v := 1) hx hb dX4_runOne_84 (by decide) ?_
    refine k_iadd hx hb cy 1 rfl rfl dX4_runOne_85 ?_
    refine k_put (D := D) (ci := 6) (v := .int (nI (cy + 1))) (ty := .int) (C := RX4) (T := TX4) (N := 7) (ws' := cw g cI cZ sl mi n u76 (cy + 1) ss (u38.2) 0) hx hb hts inX4 tyX4 tyX4_ok nmX4 hown hK hP hD hS 0 rfl rfl 6 (by decide) (hts _ wF_X4_50) (fun _ h9 => h9) rfl (by decide +kernel) rfl rfl (Nat.le_of_ble_eq_true rfl) rfl dX4_runOne_86 (fun H locs hP hD hS => ?_)
    refine lv_iload_n hx hb dX4_runOne_89 rfl (lv_at hl 1 rfl) ?_
    exact ret _ (u76, u38.2) _ _ _ _ dX4_runOne_90 hP hD hS ⟨u4, u23, u38.1, u62, u69, r23, d, hr4, hr23, ⟨hd2, hd3, hY3, e38⟩, (by rw [← hod]; exact hr62), hr69, hr76, (by rw [hd1])⟩
  refine lv_aload_n hx hb dX4_runOne_43 rfl (lv_at hl 1 rfl) ?_
  refine va_get (D := D) (ci := 6) (v := .ref (g 1)) (C := RX4) (T := TX4) (N := 7) hx hb hts inX4 hown hK hP 0 rfl rfl 2 (by decide) (hts _ wF_X4_25) (fun _ h9 => h9) rfl dX4_runOne_44 ?_
  refine lv_aload_n hx hb dX4_runOne_47 rfl (lv_at hl 1 rfl) ?_
  refine va_get (D := D) (ci := 6) (v := .int (nI cy)) (C := RX4) (T := TX4) (N := 7) hx hb hts inX4 hown hK hP 0 rfl rfl 6 (by decide) (hts _ wF_X4_50) (fun _ h9 => h9) rfl dX4_runOne_48 ?_
  refine lv_iconst (v := 1) hx hb dX4_runOne_51 (by decide) ?_
  refine lv_iand hx hb dX4_runOne_52 ?_
  refine lv_iconst (v := 1) hx hb dX4_runOne_53 (by decide) ?_
  refine lv_icmp_ne (tgt := 61) hx hb dX4_runOne_54 (by decide) (fun c54 => ?_) (fun c54 => ?_)
  · skip
    refine lv_iconst (v := 0) hx hb dX4_runOne_61 (by decide) ?_
    exact L62 0 _ (by first | exact ite_p c54 | exact ite_n c54) (lv_sub hl [1, 0] rfl)
  · skip
    refine lv_iconst (v := 1) hx hb dX4_runOne_57 (by decide) ?_
    refine lv_goto (tgt := 62) hx hb dX4_runOne_58 (by decide) ?_
    exact L62 1 _ (by first | exact ite_p c54 | exact ite_n c54) (lv_sub hl [1, 0] rfl)
set_option maxHeartbeats 4000000 in
set_option maxRecDepth 100000 in
theorem c_X4_run {l : Launch} {D : va_G} {cI cZ cL : ClassId} {g : Nat → Nat} {sl mi n : Nat} {X : Nat → Nat → Int32} {cy ss ds fs : Nat} (hn : n ≤ 16) (hs : ss ≤ 100) (hsl : sl ≤ 60) (hd : ds ≤ 100) (hmi : mi ≤ 60) (hF : FrI (X 12) (X 13) n sl ss) (hY : DyI (X 17) (X 19) n ds) (x : Int32) : KI l yX4_run (.code yX4_run cX4_run 4 (some .int)) 5 D (tyz cI cZ cL) [.ref (g 0), .int x] (cw g cI cZ sl mi n X cy ss ds fs) (fun r u => (¬ inR x 0 500 ∧ r = -2 ∧ u = (X, cy, ds, fs)) ∨ (inR x 0 500 ∧ RunS sl mi n ss x.toNatClampNeg (X, cy, ds, fs) r u)) (fun u : (Nat → Nat → Int32) × Nat × Nat × Nat => cw g cI cZ sl mi n u.1 u.2.1 ss u.2.2.1 u.2.2.2) := by
  refine KI.of (own := RX4) (lvs := [(0, .ref (g 0)), (1, .int x)]) (by decide) rfl (Nat.le_of_ble_eq_true rfl) rfl ?_
  intro p e s m args below meth c Q C hK hN A hA hP hD hS ret ls hl
  obtain ⟨hx, hb, hml, hown, hts, hr9, hlk9⟩ := id C
  refine lv_iload_n hx hb dX4_run_0 rfl (lv_at hl 1 rfl) ?_
  refine lv_iconst (v := 0) hx hb dX4_run_1 (by decide) ?_
  refine lv_sipush (v := 500) hx hb dX4_run_2 (by decide) ?_
  refine k_callS (D := D) C hK hN hP hD (c_X4_within x 0 500) hl cf_yX4_within wM_X4_7 rfl rfl (Nat.le_of_ble_eq_true rfl) ⟨by decide, by decide⟩ ⟨Nat.zero_le _, Nat.zero_le _⟩ dX4_run_5 (fun r5 hr5 => ?_)
  have hr5 : r5 = (if 0 ≤ x ∧ x ≤ 500 then 1 else 0) := hr5
  subst hr5
  refine k_ifne_P (P := (0 ≤ x ∧ x ≤ 500)) (tgt := 14) hx hb rfl dX4_run_8 (by decide) (fun c8 => ?_) (fun c8 => ?_)
  · skip
    have c8 := (inR_iff (x := x) (a := 0) (b := 500) (by omega) (by omega)).mp c8
    obtain ⟨k, hk1, hk2, rfl⟩ := inR_of c8
    refine lv_iconst (v := 0) hx hb dX4_run_14 (by decide) ?_
    refine lv_istore_n (lv' := [(2, .int 0), (0, .ref (g 0)), (1, .int (nI k))]) hx hb dX4_run_15 rfl hl (by decide) rfl (fun ls hl => ?_)
    refine lv_iconst (v := 0) hx hb dX4_run_16 (by decide) ?_
    refine lv_istore_n (lv' := [(3, .int 0), (2, .int 0), (0, .ref (g 0)), (1, .int (nI k))]) hx hb dX4_run_17 rfl hl (by decide) rfl (fun ls hl => ?_)
    have L18 : ∀ (kf : Nat) (i : Nat) (acc : Int32) (X' : Nat → Nat → Int32) (cy' : Nat) (ds' : Nat) (fs' : Nat) (H : Heap) (locs : List Loc) (ls : Array Slot), (k - i < kf) → (i ≤ k) → (RunS sl mi n ss i (X, cy, ds, fs) acc (X', cy', ds', fs')) → (ds' ≤ 100) → (FrI (X' 12) (X' 13) n sl ss) → (DyI (X' 17) (X' 19) n ds') → (va_P D vwCl (cw g cI cZ sl mi n X' cy' ss ds' fs') H) → (va_D A (cw g cI cZ sl mi n X' cy' ss ds' fs')) → (va_S A s.heap H locs) → (lv_has ls 4 [(0, .ref (g 0)), (1, .int (nI k)), (2, .int acc), (3, .int (nI i))]) → W p l e (rmK 5) s m args below meth c H locs 0 0 Q (F0 m 18 ls []) := by
      intro kf
      induction kf with
      | zero =>
        intro i acc X' cy' ds' fs' H locs ls hm
        exact absurd hm (Nat.not_lt_zero _)
      | succ kf ih18 =>
        intro i acc X' cy' ds' fs' H locs ls hm h2 h3 hd2 hF2 hY2 hP hD hS hl
        refine lv_iload_n hx hb dX4_run_18 rfl (lv_at hl 3 rfl) ?_
        refine lv_iload_n hx hb dX4_run_19 rfl (lv_at hl 1 rfl) ?_
        refine k_icmp_ge (tgt := 36) hx hb i k rfl rfl (by omega) (by omega) dX4_run_20 (by decide) (fun c20 => ?_) (fun c20 => ?_)
        · skip
          refine lv_iload_n hx hb dX4_run_36 rfl (lv_at hl 2 rfl) ?_
          exact ret _ (X', cy', ds', fs') _ _ _ _ dX4_run_37 hP hD hS (Or.inr ⟨c8, (by rw [nI_clamp (by omega), show k = i by omega]; exact h3)⟩)
        · skip
          refine lv_iload_n hx hb dX4_run_23 rfl (lv_at hl 2 rfl) ?_
          refine lv_aload_n hx hb dX4_run_24 rfl (lv_at hl 0 rfl) ?_
          refine k_callI (D := D) C hK hN hP hD hS hA (c_X4_runOne hn hs hsl hd2 hmi hF2 hY2) hl cf_yX4_runOne wM_X4_83 0 6 rfl rfl rfl rfl (Nat.le_of_ble_eq_true rfl) ⟨by decide, by decide⟩ ⟨Nat.zero_le _, Nat.zero_le _⟩ dX4_run_25 (fun r25 u25 H locs hr25 hP hD hS _ _ => ?_)
          have hP : va_P D vwCl (cw g cI cZ sl mi n (u25.1) (cy' + 1) ss (u25.2) 0) H := hP
          have hD : va_D A (cw g cI cZ sl mi n (u25.1) (cy' + 1) ss (u25.2) 0) := hD
          refine lv_iadd hx hb dX4_run_28 ?_
          refine lv_istore_n (lv' := [(2, .int (acc + r25)), (0, .ref (g 0)), (1, .int (nI k)), (3, .int (nI i))]) hx hb dX4_run_29 rfl hl (by decide) rfl (fun ls hl => ?_)
          refine k_iinc (k := 3) (lv' := [(3, .int (nI (i + 1))), (2, .int (acc + r25)), (0, .ref (g 0)), (1, .int (nI k))]) hx hb i rfl dX4_run_30 hl rfl (by decide) rfl (fun ls hl => ?_)
          refine lv_goto (tgt := 18) hx hb dX4_run_33 (by decide) ?_
          exact ih18 (i + 1) (acc + r25) (u25.1) (cy' + 1) (u25.2) 0 _ _ _ (by omega) (by omega) (RunS_step h3 hr25) (Nat.le_trans (RunC_ds hr25) hd2) (by rw [RunC_keep hr25 12 (by decide), RunC_keep hr25 13 (by decide)]; exact hF2) (RunC_dy hr25) hP hD hS (lv_sub hl [2, 3, 1, 0] rfl)
    exact L18 ((k - 0) + 1) 0 0 X cy ds fs _ _ _ (Nat.lt_succ_self _) (Nat.zero_le _) ⟨rfl, rfl⟩ hd hF hY hP hD hS (lv_sub hl [2, 3, 1, 0] rfl)
  · skip
    have c8 := fun z => c8 ((inR_iff (x := x) (a := 0) (b := 500) (by omega) (by omega)).mpr z)
    refine lv_bipush (v := (-2)) hx hb dX4_run_11 (by decide) ?_
    exact ret _ (X, cy, ds, fs) _ _ _ _ dX4_run_13 hP hD hS (Or.inl ⟨c8, rfl, rfl⟩)
end
section
/-! the reference: reads and small writes -/
theorem slot_1 {x : Int32} {sl : Nat} (h1 : 1 ≤ sl) (hn : sl < 2147483648) (a : ¬ x < 0) (b : ¬ nI sl ≤ x) : (1 : Int32) = if inR x 0 (sl - 1) then 1 else 0 := by
  have a := Int32.le_iff_toInt_le.mp (Int32.not_lt.mp a)
  have b := Int32.lt_iff_toInt_lt.mp (Int32.not_le.mp b)
  rw [nI_toInt hn] at b
  rw [if_pos (⟨by simpa using a, by omega⟩ : inR x 0 (sl - 1))]
theorem slot_0 {x : Int32} {sl : Nat} (h1 : 1 ≤ sl) (hn : sl < 2147483648) (h : x < 0 ∨ nI sl ≤ x) : (0 : Int32) = if inR x 0 (sl - 1) then 1 else 0 := by
  rw [if_neg]
  rintro ⟨a, b⟩
  rcases h with h | h
  · have := Int32.lt_iff_toInt_lt.mp h
    simp at this a
    omega
  · have := Int32.le_iff_toInt_le.mp h
    rw [nI_toInt hn] at this
    omega
/-- flips on both channels of the first k slots -/
def flc (f : Nat → Int32) : Nat → Int32
  | 0 => 0
  | k + 1 => flc f k + ((f k &&& 1) + (f k >>> ((1 : Int32) &&& 31)))
def rmd (a b : Int32) : Int32 := a - a / b * b
theorem ev_ne {e : Int32} (h : isEv e) : ¬ e = 0 := by rintro rfl; exact absurd h (by decide)
abbrev ClR (fl fc fb fe : Nat → Int32) (sl ch ba ev : Int32) (i : Nat) : Prop := (fl i = sl ∧ fc i &&& ch ≠ 0) ∧ rmd ba (if fe i ≤ ev then fe i else ev) = rmd (fb i) (if fe i ≤ ev then fe i else ev)
theorem slot63 {x : Int32} (a : ¬ x < 0) (b : x ≤ 63) : inR x 0 63 := by
  have a := Int32.le_iff_toInt_le.mp (Int32.not_lt.mp a)
  have b := Int32.le_iff_toInt_le.mp b
  exact ⟨by simpa using a, by simpa using b⟩
theorem pl_set {v : Int32} {P : Nat → Prop} {f : Nat → Int32} {i : Nat} (h : P i) (e : v = f i := by rfl) : (v = 0 ∧ ∀ k, k < i + 1 → ¬ P k) ∨ ∃ k, k < i + 1 ∧ P k ∧ v = f k := Or.inr ⟨i, by omega, h, e⟩
theorem pl_keep {v : Int32} {P : Nat → Prop} {f : Nat → Int32} {i : Nat} (h : (v = 0 ∧ ∀ k, k < i → ¬ P k) ∨ ∃ k, k < i ∧ P k ∧ v = f k) (hn : ¬ P i) : (v = 0 ∧ ∀ k, k < i + 1 → ¬ P k) ∨ ∃ k, k < i + 1 ∧ P k ∧ v = f k := by
  rcases h with ⟨h1, h2⟩ | ⟨k, h1, h2⟩
  · refine Or.inl ⟨h1, fun k hk => ?_⟩
    by_cases e : k = i
    · subst e; exact hn
    · exact h2 k (by omega)
  · exact Or.inr ⟨k, by omega, h2⟩
theorem pl_ret {B : Prop} [Decidable B] {t i fr : Nat} {o1 o2 r : Int32} {f1 f2 : Nat → Prop} {g : Nat → Int32} (ht : t = if B then 0 else 1) (h : fr ≤ i ∨ 0 < t) (h2 : i ≤ fr) (h3 : (o1 = 0 ∧ ∀ k, k < i → ¬ f1 k) ∨ ∃ k, k < i ∧ f1 k ∧ o1 = g k) (h4 : (o2 = 0 ∧ ∀ k, k < i → ¬ f2 k) ∨ ∃ k, k < i ∧ f2 k ∧ o2 = g k) (hr : r = if 0 < o1 then o1 else o2) :
    (¬ B ∧ t = 1) ∨ (B ∧ t = 0 ∧ ∃ o1 o2 : Int32, ((o1 = 0 ∧ ∀ k, k < fr → ¬ f1 k) ∨ ∃ k, k < fr ∧ f1 k ∧ o1 = g k) ∧ ((o2 = 0 ∧ ∀ k, k < fr → ¬ f2 k) ∨ ∃ k, k < fr ∧ f2 k ∧ o2 = g k) ∧ r = if 0 < o1 then o1 else o2) := by
  by_cases b : B
  · rw [if_pos b] at ht
    have e : i = fr := by omega
    subst e
    exact Or.inr ⟨b, ht, o1, o2, h3, h4, hr⟩
  · rw [if_neg b] at ht
    exact Or.inl ⟨b, ht⟩
/-- how far two errors are apart, as the reference reckons -/
def dsr (x y : Int32) : Int32 := if y < x then x - y else y - x
section CLO
variable {st er : Nat → Int32} {bd as ar bo ap : Int32} {i k n : Nat}
theorem cl_out (h : (as = 1 ∧ (∀ a b, 1 ≤ a → a < i → 1 ≤ b → b < a → (st a = 2 → st b = 2 → dsr (er a) (er b) ≤ bd)) ∧ ∀ b, 1 ≤ b → b < k → (st i = 2 → st b = 2 → dsr (er i) (er b) ≤ bd)) ∨ (as = 0 ∧ ((∃ a b, 1 ≤ a ∧ a < i ∧ 1 ≤ b ∧ b < a ∧ st a = 2 ∧ st b = 2 ∧ ¬ dsr (er a) (er b) ≤ bd) ∨ ∃ b, 1 ≤ b ∧ b < k ∧ st i = 2 ∧ st b = 2 ∧ ¬ dsr (er i) (er b) ≤ bd))) (hk : k = i) (h1 : 1 ≤ i := by omega) :
    (as = 1 ∧ ∀ a b, 1 ≤ a → a < i + 1 → 1 ≤ b → b < a → (st a = 2 → st b = 2 → dsr (er a) (er b) ≤ bd)) ∨ (as = 0 ∧ ∃ a b, 1 ≤ a ∧ a < i + 1 ∧ 1 ≤ b ∧ b < a ∧ st a = 2 ∧ st b = 2 ∧ ¬ dsr (er a) (er b) ≤ bd) := by
  subst hk
  rcases h with ⟨h0, ha, hb⟩ | ⟨h0, ⟨a, b, h⟩ | ⟨b, h⟩⟩
  · refine Or.inl ⟨h0, fun a b q1 q2 q3 q4 => ?_⟩
    by_cases e : a = k
    · subst e; exact hb b q3 q4
    · exact ha a b q1 (by omega) q3 q4
  · exact Or.inr ⟨h0, a, b, h.1, by omega, h.2.2⟩
  · exact Or.inr ⟨h0, k, b, h1, by omega, h.1, h.2⟩
theorem cl_t (h : (as = 1 ∧ (∀ a b, 1 ≤ a → a < i → 1 ≤ b → b < a → (st a = 2 → st b = 2 → dsr (er a) (er b) ≤ bd)) ∧ ∀ b, 1 ≤ b → b < k → (st i = 2 → st b = 2 → dsr (er i) (er b) ≤ bd)) ∨ (as = 0 ∧ ((∃ a b, 1 ≤ a ∧ a < i ∧ 1 ≤ b ∧ b < a ∧ st a = 2 ∧ st b = 2 ∧ ¬ dsr (er a) (er b) ≤ bd) ∨ ∃ b, 1 ≤ b ∧ b < k ∧ st i = 2 ∧ st b = 2 ∧ ¬ dsr (er i) (er b) ≤ bd))) (hbo : bo = if st i = 2 ∧ st k = 2 then 1 else 0) (_ : ap = dsr (er i) (er k)) (ha : ¬ as = 0) (hb : bo = 0) :
    ((1 : Int32) = 1 ∧ (∀ a b, 1 ≤ a → a < i → 1 ≤ b → b < a → (st a = 2 → st b = 2 → dsr (er a) (er b) ≤ bd)) ∧ ∀ b, 1 ≤ b → b < k + 1 → (st i = 2 → st b = 2 → dsr (er i) (er b) ≤ bd)) ∨ ((1 : Int32) = 0 ∧ ((∃ a b, 1 ≤ a ∧ a < i ∧ 1 ≤ b ∧ b < a ∧ st a = 2 ∧ st b = 2 ∧ ¬ dsr (er a) (er b) ≤ bd) ∨ ∃ b, 1 ≤ b ∧ b < k + 1 ∧ st i = 2 ∧ st b = 2 ∧ ¬ dsr (er i) (er b) ≤ bd)) := by
  rcases h with ⟨h0, h1, h2⟩ | ⟨h0, -⟩
  · refine Or.inl ⟨rfl, h1, fun b q1 q2 z1 z2 => ?_⟩
    by_cases e : b = k
    · subst e; rw [if_pos ⟨z1, z2⟩] at hbo; exact absurd (hbo.symm.trans hb) (by decide)
    · exact h2 b q1 (by omega) z1 z2
  · exact absurd h0 ha
theorem cl_t2 (h : (as = 1 ∧ (∀ a b, 1 ≤ a → a < i → 1 ≤ b → b < a → (st a = 2 → st b = 2 → dsr (er a) (er b) ≤ bd)) ∧ ∀ b, 1 ≤ b → b < k → (st i = 2 → st b = 2 → dsr (er i) (er b) ≤ bd)) ∨ (as = 0 ∧ ((∃ a b, 1 ≤ a ∧ a < i ∧ 1 ≤ b ∧ b < a ∧ st a = 2 ∧ st b = 2 ∧ ¬ dsr (er a) (er b) ≤ bd) ∨ ∃ b, 1 ≤ b ∧ b < k ∧ st i = 2 ∧ st b = 2 ∧ ¬ dsr (er i) (er b) ≤ bd))) (_ : bo = if st i = 2 ∧ st k = 2 then 1 else 0) (hap : ap = dsr (er i) (er k)) (ha : ¬ as = 0) (_ : ¬ bo = 0) (hc : ¬ bd < ap) :
    ((1 : Int32) = 1 ∧ (∀ a b, 1 ≤ a → a < i → 1 ≤ b → b < a → (st a = 2 → st b = 2 → dsr (er a) (er b) ≤ bd)) ∧ ∀ b, 1 ≤ b → b < k + 1 → (st i = 2 → st b = 2 → dsr (er i) (er b) ≤ bd)) ∨ ((1 : Int32) = 0 ∧ ((∃ a b, 1 ≤ a ∧ a < i ∧ 1 ≤ b ∧ b < a ∧ st a = 2 ∧ st b = 2 ∧ ¬ dsr (er a) (er b) ≤ bd) ∨ ∃ b, 1 ≤ b ∧ b < k + 1 ∧ st i = 2 ∧ st b = 2 ∧ ¬ dsr (er i) (er b) ≤ bd)) := by
  rcases h with ⟨h0, h1, h2⟩ | ⟨h0, -⟩
  · refine Or.inl ⟨rfl, h1, fun b q1 q2 z1 z2 => ?_⟩
    by_cases e : b = k
    · subst e; rw [← hap]; exact Int32.not_lt.mp hc
    · exact h2 b q1 (by omega) z1 z2
  · exact absurd h0 ha
theorem cl_f (h : (as = 1 ∧ (∀ a b, 1 ≤ a → a < i → 1 ≤ b → b < a → (st a = 2 → st b = 2 → dsr (er a) (er b) ≤ bd)) ∧ ∀ b, 1 ≤ b → b < k → (st i = 2 → st b = 2 → dsr (er i) (er b) ≤ bd)) ∨ (as = 0 ∧ ((∃ a b, 1 ≤ a ∧ a < i ∧ 1 ≤ b ∧ b < a ∧ st a = 2 ∧ st b = 2 ∧ ¬ dsr (er a) (er b) ≤ bd) ∨ ∃ b, 1 ≤ b ∧ b < k ∧ st i = 2 ∧ st b = 2 ∧ ¬ dsr (er i) (er b) ≤ bd))) (ha : as = 0) :
    ((0 : Int32) = 1 ∧ (∀ a b, 1 ≤ a → a < i → 1 ≤ b → b < a → (st a = 2 → st b = 2 → dsr (er a) (er b) ≤ bd)) ∧ ∀ b, 1 ≤ b → b < k + 1 → (st i = 2 → st b = 2 → dsr (er i) (er b) ≤ bd)) ∨ ((0 : Int32) = 0 ∧ ((∃ a b, 1 ≤ a ∧ a < i ∧ 1 ≤ b ∧ b < a ∧ st a = 2 ∧ st b = 2 ∧ ¬ dsr (er a) (er b) ≤ bd) ∨ ∃ b, 1 ≤ b ∧ b < k + 1 ∧ st i = 2 ∧ st b = 2 ∧ ¬ dsr (er i) (er b) ≤ bd)) := by
  rcases h with ⟨h0, -⟩ | ⟨h0, h | ⟨b, h⟩⟩
  · exact absurd (h0.symm.trans ha) (by decide)
  · exact Or.inr ⟨rfl, Or.inl h⟩
  · exact Or.inr ⟨rfl, Or.inr ⟨b, h.1, by omega, h.2.2⟩⟩
theorem cl_f2 (h : (as = 1 ∧ (∀ a b, 1 ≤ a → a < i → 1 ≤ b → b < a → (st a = 2 → st b = 2 → dsr (er a) (er b) ≤ bd)) ∧ ∀ b, 1 ≤ b → b < k → (st i = 2 → st b = 2 → dsr (er i) (er b) ≤ bd)) ∨ (as = 0 ∧ ((∃ a b, 1 ≤ a ∧ a < i ∧ 1 ≤ b ∧ b < a ∧ st a = 2 ∧ st b = 2 ∧ ¬ dsr (er a) (er b) ≤ bd) ∨ ∃ b, 1 ≤ b ∧ b < k ∧ st i = 2 ∧ st b = 2 ∧ ¬ dsr (er i) (er b) ≤ bd))) (hk : 1 ≤ k) (hbo : bo = if st i = 2 ∧ st k = 2 then 1 else 0) (hap : ap = dsr (er i) (er k)) (hb : ¬ bo = 0) (hc : bd < ap) :
    ((0 : Int32) = 1 ∧ (∀ a b, 1 ≤ a → a < i → 1 ≤ b → b < a → (st a = 2 → st b = 2 → dsr (er a) (er b) ≤ bd)) ∧ ∀ b, 1 ≤ b → b < k + 1 → (st i = 2 → st b = 2 → dsr (er i) (er b) ≤ bd)) ∨ ((0 : Int32) = 0 ∧ ((∃ a b, 1 ≤ a ∧ a < i ∧ 1 ≤ b ∧ b < a ∧ st a = 2 ∧ st b = 2 ∧ ¬ dsr (er a) (er b) ≤ bd) ∨ ∃ b, 1 ≤ b ∧ b < k + 1 ∧ st i = 2 ∧ st b = 2 ∧ ¬ dsr (er i) (er b) ≤ bd)) := by
  by_cases z : st i = 2 ∧ st k = 2
  · exact Or.inr ⟨rfl, Or.inr ⟨k, hk, by omega, z.1, z.2, by rw [← hap]; exact i32_nlt hc⟩⟩
  · rw [if_neg z] at hbo; exact absurd hbo hb
theorem cl_end (h : (ar = 1 ∧ ∀ a b, 1 ≤ a → a < n + 1 → 1 ≤ b → b < a → (st a = 2 → st b = 2 → dsr (er a) (er b) ≤ bd)) ∨ (ar = 0 ∧ ∃ a b, 1 ≤ a ∧ a < n + 1 ∧ 1 ≤ b ∧ b < a ∧ st a = 2 ∧ st b = 2 ∧ ¬ dsr (er a) (er b) ≤ bd)) : (ar = 1 ∧ ∀ a b, 1 ≤ a → a ≤ n → 1 ≤ b → b < a → (st a = 2 → st b = 2 → dsr (er a) (er b) ≤ bd)) ∨ (ar = 0 ∧ ∃ a b, 1 ≤ a ∧ a ≤ n ∧ 1 ≤ b ∧ b < a ∧ st a = 2 ∧ st b = 2 ∧ ¬ dsr (er a) (er b) ≤ bd) := by
  rcases h with ⟨h0, h⟩ | ⟨h0, a, b, h⟩
  · exact Or.inl ⟨h0, fun a b q1 q2 => h a b q1 (by omega)⟩
  · exact Or.inr ⟨h0, a, b, h.1, by omega, h.2.2⟩
end CLO
set_option maxHeartbeats 4000000 in
set_option maxRecDepth 100000 in
theorem c_X5_thrown {l : Launch} {D : va_G} {cI cZ cL : ClassId} {h : Nat → Nat} {sl mi n : Nat} {Y : Nat → Nat → Int32} {th fr wt cy : Nat}  : KR l yX5_thrown (.code yX5_thrown cX5_thrown 1 (some .int)) 0 D (tyz cI cZ cL) [.ref (h 0)] (mw h cI cZ sl mi n Y th fr wt cy) (fun r => r = nI th) := by
  refine KR.of (own := RX5) (lvs := [(0, .ref (h 0))]) (by decide) rfl (Nat.le_of_ble_eq_true rfl) rfl ?_
  intro p e s m args below meth c Q C hK hN hP hD ret ls hl
  obtain ⟨hx, hb, hml, hown, hts, hr9, hlk9⟩ := id C
  refine lv_aload_n hx hb dX5_thrown_0 rfl (lv_at hl 0 rfl) ?_
  refine va_get (D := D) (ci := 7) (v := .int (nI th)) (C := RX5) (T := TX5) (N := 27) hx hb hts inX5 hown hK hP 0 rfl rfl 0 (by decide) (hts _ wF_X5_81) (fun _ h9 => h9) rfl dX5_thrown_1 ?_
  exact ret _ _ _ dX5_thrown_4 rfl
set_option maxHeartbeats 4000000 in
set_option maxRecDepth 100000 in
theorem c_X5_isNode {l : Launch} {D : va_G} {cI cZ cL : ClassId} {h : Nat → Nat} {sl mi n : Nat} {Y : Nat → Nat → Int32} {th fr wt cy : Nat} (hn : n ≤ 16) (x : Int32) : KR l yX5_isNode (.code yX5_isNode cX5_isNode 2 (some .boolean)) 0 D (tyz cI cZ cL) [.ref (h 0), .int x] (mw h cI cZ sl mi n Y th fr wt cy) (fun r => r = if inR x 1 n then 1 else 0) := by
  refine KR.ofz (own := RX5) (lvs := [(0, .ref (h 0)), (1, .int x)]) (by decide) rfl (Nat.le_of_ble_eq_true rfl) rfl ?_
  intro p e s m args below meth c Q C hK hN hP hD ret ls hl
  obtain ⟨hx, hb, hml, hown, hts, hr9, hlk9⟩ := id C
  refine lv_iload_n hx hb dX5_isNode_0 rfl (lv_at hl 1 rfl) ?_
  refine lv_iconst (v := 1) hx hb dX5_isNode_1 (by decide) ?_
  refine lv_icmp_lt (tgt := 17) hx hb dX5_isNode_2 (by decide) (fun c2 => ?_) (fun c2 => ?_)
  · skip
    refine lv_iconst (v := 0) hx hb dX5_isNode_17 (by decide) ?_
    exact ret _ _ _ dX5_isNode_18 (Or.inl rfl) (has_0 (by omega) (by first | exact Or.inl c2 | exact Or.inr c10))
  · skip
    refine lv_iload_n hx hb dX5_isNode_5 rfl (lv_at hl 1 rfl) ?_
    refine lv_aload_n hx hb dX5_isNode_6 rfl (lv_at hl 0 rfl) ?_
    refine va_get (D := D) (ci := 7) (v := .int (nI n)) (C := RX5) (T := TX5) (N := 27) hx hb hts inX5 hown hK hP 0 rfl rfl 1 (by decide) (hts _ wF_X5_71) (fun _ h9 => h9) rfl dX5_isNode_7 ?_
    refine lv_icmp_gt (tgt := 17) hx hb dX5_isNode_10 (by decide) (fun c10 => ?_) (fun c10 => ?_)
    · skip
      refine lv_iconst (v := 0) hx hb dX5_isNode_17 (by decide) ?_
      exact ret _ _ _ dX5_isNode_18 (Or.inl rfl) (has_0 (by omega) (by first | exact Or.inl c2 | exact Or.inr c10))
    · skip
      refine lv_iconst (v := 1) hx hb dX5_isNode_13 (by decide) ?_
      refine lv_goto (tgt := 18) hx hb dX5_isNode_14 (by decide) ?_
      exact ret _ _ _ dX5_isNode_18 (Or.inr rfl) (has_1 (by omega) c2 c10)
set_option maxHeartbeats 4000000 in
set_option maxRecDepth 100000 in
theorem c_X5_isSlot {l : Launch} {D : va_G} {cI cZ cL : ClassId} {h : Nat → Nat} {sl mi n : Nat} {Y : Nat → Nat → Int32} {th fr wt cy : Nat} (hs1 : 1 ≤ sl) (hsl : sl ≤ 60) (x : Int32) : KR l yX5_isSlot (.code yX5_isSlot cX5_isSlot 2 (some .boolean)) 0 D (tyz cI cZ cL) [.ref (h 0), .int x] (mw h cI cZ sl mi n Y th fr wt cy) (fun r => r = if inR x 0 (sl - 1) then 1 else 0) := by
  refine KR.ofz (own := RX5) (lvs := [(0, .ref (h 0)), (1, .int x)]) (by decide) rfl (Nat.le_of_ble_eq_true rfl) rfl ?_
  intro p e s m args below meth c Q C hK hN hP hD ret ls hl
  obtain ⟨hx, hb, hml, hown, hts, hr9, hlk9⟩ := id C
  refine lv_iload_n hx hb dX5_isSlot_0 rfl (lv_at hl 1 rfl) ?_
  refine lv_if_lt (tgt := 16) hx hb dX5_isSlot_1 (by decide) (fun c1 => ?_) (fun c1 => ?_)
  · skip
    refine lv_iconst (v := 0) hx hb dX5_isSlot_16 (by decide) ?_
    exact ret _ _ _ dX5_isSlot_17 (Or.inl rfl) (slot_0 hs1 (by omega) (by first | exact Or.inl c1 | exact Or.inr c9))
  · skip
    refine lv_iload_n hx hb dX5_isSlot_4 rfl (lv_at hl 1 rfl) ?_
    refine lv_aload_n hx hb dX5_isSlot_5 rfl (lv_at hl 0 rfl) ?_
    refine va_get (D := D) (ci := 7) (v := .int (nI sl)) (C := RX5) (T := TX5) (N := 27) hx hb hts inX5 hown hK hP 0 rfl rfl 2 (by decide) (hts _ wF_X5_75) (fun _ h9 => h9) rfl dX5_isSlot_6 ?_
    refine lv_icmp_ge (tgt := 16) hx hb dX5_isSlot_9 (by decide) (fun c9 => ?_) (fun c9 => ?_)
    · skip
      refine lv_iconst (v := 0) hx hb dX5_isSlot_16 (by decide) ?_
      exact ret _ _ _ dX5_isSlot_17 (Or.inl rfl) (slot_0 hs1 (by omega) (by first | exact Or.inl c1 | exact Or.inr c9))
    · skip
      refine lv_iconst (v := 1) hx hb dX5_isSlot_12 (by decide) ?_
      refine lv_goto (tgt := 17) hx hb dX5_isSlot_13 (by decide) ?_
      exact ret _ _ _ dX5_isSlot_17 (Or.inr rfl) (slot_1 hs1 (by omega) c1 c9)
set_option maxHeartbeats 4000000 in
set_option maxRecDepth 100000 in
theorem c_X5_state {l : Launch} {D : va_G} {cI cZ cL : ClassId} {h : Nat → Nat} {sl mi n : Nat} {Y : Nat → Nat → Int32} {th fr wt cy : Nat} (hn : n ≤ 16) (x : Int32) : KI l yX5_state (.code yX5_state cX5_state 2 (some .int)) 1 D (tyz cI cZ cL) [.ref (h 0), .int x] (mw h cI cZ sl mi n Y th fr wt cy) (fun r _ => r = if inR x 1 n then Y 4 x.toNatClampNeg else -1) (fun _ : Unit => mw h cI cZ sl mi n Y 0 fr wt cy) := by
  refine KI.of (own := RX5) (lvs := [(0, .ref (h 0)), (1, .int x)]) (by decide) rfl (Nat.le_of_ble_eq_true rfl) rfl ?_
  intro p e s m args below meth c Q C hK hN A hA hP hD hS ret ls hl
  obtain ⟨hx, hb, hml, hown, hts, hr9, hlk9⟩ := id C
  refine lv_aload_n hx hb dX5_state_0 rfl (lv_at hl 0 rfl) ?_
  refine lv_iconst (v := 0) hx hb dX5_state_1 (by decide) ?_
  refine k_put (D := D) (ci := 7) (v := .int (nI 0)) (ty := .int) (C := RX5) (T := TX5) (N := 27) (ws' := mw h cI cZ sl mi n Y 0 fr wt cy) hx hb hts inX5 tyX5 tyX5_ok nmX5 hown hK hP hD hS 0 rfl rfl 0 (by decide) (hts _ wF_X5_81) (fun _ h9 => h9) rfl (by decide +kernel) rfl rfl (Nat.le_of_ble_eq_true rfl) rfl dX5_state_2 (fun H locs hP hD hS => ?_)
  refine lv_aload_n hx hb dX5_state_5 rfl (lv_at hl 0 rfl) ?_
  refine lv_iload_n hx hb dX5_state_6 rfl (lv_at hl 1 rfl) ?_
  refine k_callR (D := D) C hK hN hP hD (c_X5_isNode hn x) hl cf_yX5_isNode wM_X5_84 0 7 rfl rfl rfl rfl (Nat.le_of_ble_eq_true rfl) ⟨by decide, by decide⟩ ⟨Nat.zero_le _, Nat.zero_le _⟩ dX5_state_7 (fun r7 hr7 => ?_)
  have hr7 : r7 = (if inR x 1 n then 1 else 0) := hr7
  subst hr7
  refine k_ifeq_P (P := (inR x 1 n)) (tgt := 22) hx hb rfl dX5_state_10 (by decide) (fun c10 => ?_) (fun c10 => ?_)
  · skip
    refine lv_iconst (v := (-1)) hx hb dX5_state_22 (by decide) ?_
    exact ret _ () _ _ _ _ dX5_state_23 hP hD hS (ite_n c10)
  · skip
    obtain ⟨j, hj1, hj2, rfl⟩ := inR_of c10
    refine lv_aload_n hx hb dX5_state_13 rfl (lv_at hl 0 rfl) ?_
    refine va_get (D := D) (ci := 7) (v := .ref (h 4)) (C := RX5) (T := TX5) (N := 27) hx hb hts inX5 hown hK hP 0 rfl rfl 4 (by decide) (hts _ wF_X5_7) (fun _ h9 => h9) rfl dX5_state_14 ?_
    refine lv_iload_n hx hb dX5_state_17 rfl (lv_at hl 1 rfl) ?_
    refine k_iald (D := D) (f := Y 4) hx hb hK hP 1 0 rfl rfl j rfl (by omega) (by omega) dX5_state_18 ?_
    refine lv_goto (tgt := 23) hx hb dX5_state_19 (by decide) ?_
    exact ret _ () _ _ _ _ dX5_state_23 hP hD hS (by rw [if_pos c10, nI_clamp (by omega)])
set_option maxHeartbeats 4000000 in
set_option maxRecDepth 100000 in
theorem c_X5_offset {l : Launch} {D : va_G} {cI cZ cL : ClassId} {h : Nat → Nat} {sl mi n : Nat} {Y : Nat → Nat → Int32} {th fr wt cy : Nat} (hn : n ≤ 16) (x : Int32) : KI l yX5_offset (.code yX5_offset cX5_offset 2 (some .int)) 1 D (tyz cI cZ cL) [.ref (h 0), .int x] (mw h cI cZ sl mi n Y th fr wt cy) (fun r _ => r = if inR x 1 n then Y 6 x.toNatClampNeg else 0) (fun _ : Unit => mw h cI cZ sl mi n Y 0 fr wt cy) := by
  refine KI.of (own := RX5) (lvs := [(0, .ref (h 0)), (1, .int x)]) (by decide) rfl (Nat.le_of_ble_eq_true rfl) rfl ?_
  intro p e s m args below meth c Q C hK hN A hA hP hD hS ret ls hl
  obtain ⟨hx, hb, hml, hown, hts, hr9, hlk9⟩ := id C
  refine lv_aload_n hx hb dX5_offset_0 rfl (lv_at hl 0 rfl) ?_
  refine lv_iconst (v := 0) hx hb dX5_offset_1 (by decide) ?_
  refine k_put (D := D) (ci := 7) (v := .int (nI 0)) (ty := .int) (C := RX5) (T := TX5) (N := 27) (ws' := mw h cI cZ sl mi n Y 0 fr wt cy) hx hb hts inX5 tyX5 tyX5_ok nmX5 hown hK hP hD hS 0 rfl rfl 0 (by decide) (hts _ wF_X5_81) (fun _ h9 => h9) rfl (by decide +kernel) rfl rfl (Nat.le_of_ble_eq_true rfl) rfl dX5_offset_2 (fun H locs hP hD hS => ?_)
  refine lv_aload_n hx hb dX5_offset_5 rfl (lv_at hl 0 rfl) ?_
  refine lv_iload_n hx hb dX5_offset_6 rfl (lv_at hl 1 rfl) ?_
  refine k_callR (D := D) C hK hN hP hD (c_X5_isNode hn x) hl cf_yX5_isNode wM_X5_84 0 7 rfl rfl rfl rfl (Nat.le_of_ble_eq_true rfl) ⟨by decide, by decide⟩ ⟨Nat.zero_le _, Nat.zero_le _⟩ dX5_offset_7 (fun r7 hr7 => ?_)
  have hr7 : r7 = (if inR x 1 n then 1 else 0) := hr7
  subst hr7
  refine k_ifeq_P (P := (inR x 1 n)) (tgt := 22) hx hb rfl dX5_offset_10 (by decide) (fun c10 => ?_) (fun c10 => ?_)
  · skip
    refine lv_iconst (v := 0) hx hb dX5_offset_22 (by decide) ?_
    exact ret _ () _ _ _ _ dX5_offset_23 hP hD hS (ite_n c10)
  · skip
    obtain ⟨j, hj1, hj2, rfl⟩ := inR_of c10
    refine lv_aload_n hx hb dX5_offset_13 rfl (lv_at hl 0 rfl) ?_
    refine va_get (D := D) (ci := 7) (v := .ref (h 6)) (C := RX5) (T := TX5) (N := 27) hx hb hts inX5 hown hK hP 0 rfl rfl 6 (by decide) (hts _ wF_X5_17) (fun _ h9 => h9) rfl dX5_offset_14 ?_
    refine lv_iload_n hx hb dX5_offset_17 rfl (lv_at hl 1 rfl) ?_
    refine k_iald (D := D) (f := Y 6) hx hb hK hP 3 0 rfl rfl j rfl (by omega) (by omega) dX5_offset_18 ?_
    refine lv_goto (tgt := 23) hx hb dX5_offset_19 (by decide) ?_
    exact ret _ () _ _ _ _ dX5_offset_23 hP hD hS (by rw [if_pos c10, nI_clamp (by omega)])
set_option maxHeartbeats 4000000 in
set_option maxRecDepth 100000 in
theorem c_X5_rate {l : Launch} {D : va_G} {cI cZ cL : ClassId} {h : Nat → Nat} {sl mi n : Nat} {Y : Nat → Nat → Int32} {th fr wt cy : Nat} (hn : n ≤ 16) (x : Int32) : KI l yX5_rate (.code yX5_rate cX5_rate 2 (some .int)) 1 D (tyz cI cZ cL) [.ref (h 0), .int x] (mw h cI cZ sl mi n Y th fr wt cy) (fun r _ => r = if inR x 1 n then Y 8 x.toNatClampNeg else 0) (fun _ : Unit => mw h cI cZ sl mi n Y 0 fr wt cy) := by
  refine KI.of (own := RX5) (lvs := [(0, .ref (h 0)), (1, .int x)]) (by decide) rfl (Nat.le_of_ble_eq_true rfl) rfl ?_
  intro p e s m args below meth c Q C hK hN A hA hP hD hS ret ls hl
  obtain ⟨hx, hb, hml, hown, hts, hr9, hlk9⟩ := id C
  refine lv_aload_n hx hb dX5_rate_0 rfl (lv_at hl 0 rfl) ?_
  refine lv_iconst (v := 0) hx hb dX5_rate_1 (by decide) ?_
  refine k_put (D := D) (ci := 7) (v := .int (nI 0)) (ty := .int) (C := RX5) (T := TX5) (N := 27) (ws' := mw h cI cZ sl mi n Y 0 fr wt cy) hx hb hts inX5 tyX5 tyX5_ok nmX5 hown hK hP hD hS 0 rfl rfl 0 (by decide) (hts _ wF_X5_81) (fun _ h9 => h9) rfl (by decide +kernel) rfl rfl (Nat.le_of_ble_eq_true rfl) rfl dX5_rate_2 (fun H locs hP hD hS => ?_)
  refine lv_aload_n hx hb dX5_rate_5 rfl (lv_at hl 0 rfl) ?_
  refine lv_iload_n hx hb dX5_rate_6 rfl (lv_at hl 1 rfl) ?_
  refine k_callR (D := D) C hK hN hP hD (c_X5_isNode hn x) hl cf_yX5_isNode wM_X5_84 0 7 rfl rfl rfl rfl (Nat.le_of_ble_eq_true rfl) ⟨by decide, by decide⟩ ⟨Nat.zero_le _, Nat.zero_le _⟩ dX5_rate_7 (fun r7 hr7 => ?_)
  have hr7 : r7 = (if inR x 1 n then 1 else 0) := hr7
  subst hr7
  refine k_ifeq_P (P := (inR x 1 n)) (tgt := 22) hx hb rfl dX5_rate_10 (by decide) (fun c10 => ?_) (fun c10 => ?_)
  · skip
    refine lv_iconst (v := 0) hx hb dX5_rate_22 (by decide) ?_
    exact ret _ () _ _ _ _ dX5_rate_23 hP hD hS (ite_n c10)
  · skip
    obtain ⟨j, hj1, hj2, rfl⟩ := inR_of c10
    refine lv_aload_n hx hb dX5_rate_13 rfl (lv_at hl 0 rfl) ?_
    refine va_get (D := D) (ci := 7) (v := .ref (h 8)) (C := RX5) (T := TX5) (N := 27) hx hb hts inX5 hown hK hP 0 rfl rfl 8 (by decide) (hts _ wF_X5_23) (fun _ h9 => h9) rfl dX5_rate_14 ?_
    refine lv_iload_n hx hb dX5_rate_17 rfl (lv_at hl 1 rfl) ?_
    refine k_iald (D := D) (f := Y 8) hx hb hK hP 5 0 rfl rfl j rfl (by omega) (by omega) dX5_rate_18 ?_
    refine lv_goto (tgt := 23) hx hb dX5_rate_19 (by decide) ?_
    exact ret _ () _ _ _ _ dX5_rate_23 hP hD hS (by rw [if_pos c10, nI_clamp (by omega)])
set_option maxHeartbeats 4000000 in
set_option maxRecDepth 100000 in
theorem c_X5_midpoint {l : Launch} {D : va_G} {cI cZ cL : ClassId} {h : Nat → Nat} {sl mi n : Nat} {Y : Nat → Nat → Int32} {th fr wt cy : Nat} (hn : n ≤ 16) (x : Int32) : KI l yX5_midpoint (.code yX5_midpoint cX5_midpoint 2 (some .int)) 1 D (tyz cI cZ cL) [.ref (h 0), .int x] (mw h cI cZ sl mi n Y th fr wt cy) (fun r _ => r = if inR x 1 n then Y 9 x.toNatClampNeg else 0) (fun _ : Unit => mw h cI cZ sl mi n Y 0 fr wt cy) := by
  refine KI.of (own := RX5) (lvs := [(0, .ref (h 0)), (1, .int x)]) (by decide) rfl (Nat.le_of_ble_eq_true rfl) rfl ?_
  intro p e s m args below meth c Q C hK hN A hA hP hD hS ret ls hl
  obtain ⟨hx, hb, hml, hown, hts, hr9, hlk9⟩ := id C
  refine lv_aload_n hx hb dX5_midpoint_0 rfl (lv_at hl 0 rfl) ?_
  refine lv_iconst (v := 0) hx hb dX5_midpoint_1 (by decide) ?_
  refine k_put (D := D) (ci := 7) (v := .int (nI 0)) (ty := .int) (C := RX5) (T := TX5) (N := 27) (ws' := mw h cI cZ sl mi n Y 0 fr wt cy) hx hb hts inX5 tyX5 tyX5_ok nmX5 hown hK hP hD hS 0 rfl rfl 0 (by decide) (hts _ wF_X5_81) (fun _ h9 => h9) rfl (by decide +kernel) rfl rfl (Nat.le_of_ble_eq_true rfl) rfl dX5_midpoint_2 (fun H locs hP hD hS => ?_)
  refine lv_aload_n hx hb dX5_midpoint_5 rfl (lv_at hl 0 rfl) ?_
  refine lv_iload_n hx hb dX5_midpoint_6 rfl (lv_at hl 1 rfl) ?_
  refine k_callR (D := D) C hK hN hP hD (c_X5_isNode hn x) hl cf_yX5_isNode wM_X5_84 0 7 rfl rfl rfl rfl (Nat.le_of_ble_eq_true rfl) ⟨by decide, by decide⟩ ⟨Nat.zero_le _, Nat.zero_le _⟩ dX5_midpoint_7 (fun r7 hr7 => ?_)
  have hr7 : r7 = (if inR x 1 n then 1 else 0) := hr7
  subst hr7
  refine k_ifeq_P (P := (inR x 1 n)) (tgt := 22) hx hb rfl dX5_midpoint_10 (by decide) (fun c10 => ?_) (fun c10 => ?_)
  · skip
    refine lv_iconst (v := 0) hx hb dX5_midpoint_22 (by decide) ?_
    exact ret _ () _ _ _ _ dX5_midpoint_23 hP hD hS (ite_n c10)
  · skip
    obtain ⟨j, hj1, hj2, rfl⟩ := inR_of c10
    refine lv_aload_n hx hb dX5_midpoint_13 rfl (lv_at hl 0 rfl) ?_
    refine va_get (D := D) (ci := 7) (v := .ref (h 9)) (C := RX5) (T := TX5) (N := 27) hx hb hts inX5 hown hK hP 0 rfl rfl 9 (by decide) (hts _ wF_X5_26) (fun _ h9 => h9) rfl dX5_midpoint_14 ?_
    refine lv_iload_n hx hb dX5_midpoint_17 rfl (lv_at hl 1 rfl) ?_
    refine k_iald (D := D) (f := Y 9) hx hb hK hP 6 0 rfl rfl j rfl (by omega) (by omega) dX5_midpoint_18 ?_
    refine lv_goto (tgt := 23) hx hb dX5_midpoint_19 (by decide) ?_
    exact ret _ () _ _ _ _ dX5_midpoint_23 hP hD hS (by rw [if_pos c10, nI_clamp (by omega)])
set_option maxHeartbeats 4000000 in
set_option maxRecDepth 100000 in
theorem c_X5_drift {l : Launch} {D : va_G} {cI cZ cL : ClassId} {h : Nat → Nat} {sl mi n : Nat} {Y : Nat → Nat → Int32} {th fr wt cy : Nat} (hn : n ≤ 16) (x pa : Int32) : KI l yX5_drift (.code yX5_drift cX5_drift 3 (some .int)) 1 D (tyz cI cZ cL) [.ref (h 0), .int x, .int pa] (mw h cI cZ sl mi n Y th fr wt cy) (fun r u => (¬ inR x 1 n ∧ r = -1 ∧ u = Y) ∨ (inR x 1 n ∧ ¬ ((-200) ≤ pa ∧ pa ≤ 200) ∧ r = -2 ∧ u = Y) ∨ (inR x 1 n ∧ ((-200) ≤ pa ∧ pa ≤ 200) ∧ r = 1 ∧ u = sX Y 7 x.toNatClampNeg pa)) (fun u : Nat → Nat → Int32 => mw h cI cZ sl mi n u 0 fr wt cy) := by
  refine KI.of (own := RX5) (lvs := [(0, .ref (h 0)), (1, .int x), (2, .int pa)]) (by decide) rfl (Nat.le_of_ble_eq_true rfl) rfl ?_
  intro p e s m args below meth c Q C hK hN A hA hP hD hS ret ls hl
  obtain ⟨hx, hb, hml, hown, hts, hr9, hlk9⟩ := id C
  refine lv_aload_n hx hb dX5_drift_0 rfl (lv_at hl 0 rfl) ?_
  refine lv_iconst (v := 0) hx hb dX5_drift_1 (by decide) ?_
  refine k_put (D := D) (ci := 7) (v := .int (nI 0)) (ty := .int) (C := RX5) (T := TX5) (N := 27) (ws' := mw h cI cZ sl mi n Y 0 fr wt cy) hx hb hts inX5 tyX5 tyX5_ok nmX5 hown hK hP hD hS 0 rfl rfl 0 (by decide) (hts _ wF_X5_81) (fun _ h9 => h9) rfl (by decide +kernel) rfl rfl (Nat.le_of_ble_eq_true rfl) rfl dX5_drift_2 (fun H locs hP hD hS => ?_)
  refine lv_aload_n hx hb dX5_drift_5 rfl (lv_at hl 0 rfl) ?_
  refine lv_iload_n hx hb dX5_drift_6 rfl (lv_at hl 1 rfl) ?_
  refine k_callR (D := D) C hK hN hP hD (c_X5_isNode hn x) hl cf_yX5_isNode wM_X5_84 0 7 rfl rfl rfl rfl (Nat.le_of_ble_eq_true rfl) ⟨by decide, by decide⟩ ⟨Nat.zero_le _, Nat.zero_le _⟩ dX5_drift_7 (fun r7 hr7 => ?_)
  have hr7 : r7 = (if inR x 1 n then 1 else 0) := hr7
  subst hr7
  refine k_ifne_P (P := (inR x 1 n)) (tgt := 15) hx hb rfl dX5_drift_10 (by decide) (fun c10 => ?_) (fun c10 => ?_)
  · skip
    refine lv_iload_n hx hb dX5_drift_15 rfl (lv_at hl 2 rfl) ?_
    refine lv_sipush (v := (-200)) hx hb dX5_drift_16 (by decide) ?_
    refine lv_icmp_lt (tgt := 29) hx hb dX5_drift_19 (by decide) (fun c19 => ?_) (fun c19 => ?_)
    · skip
      refine lv_bipush (v := (-2)) hx hb dX5_drift_29 (by decide) ?_
      exact ret _ Y _ _ _ _ dX5_drift_31 hP hD hS (Or.inr (Or.inl ⟨c10, (by first | exact fun z => absurd z.1 (i32_nlt c19) | exact fun z => c26 z.2), rfl, rfl⟩))
    · skip
      refine lv_iload_n hx hb dX5_drift_22 rfl (lv_at hl 2 rfl) ?_
      refine lv_sipush (v := 200) hx hb dX5_drift_23 (by decide) ?_
      refine lv_icmp_le (tgt := 32) hx hb dX5_drift_26 (by decide) (fun c26 => ?_) (fun c26 => ?_)
      · skip
        obtain ⟨j, hj1, hj2, rfl⟩ := inR_of c10
        refine lv_aload_n hx hb dX5_drift_32 rfl (lv_at hl 0 rfl) ?_
        refine va_get (D := D) (ci := 7) (v := .ref (h 7)) (C := RX5) (T := TX5) (N := 27) hx hb hts inX5 hown hK hP 0 rfl rfl 7 (by decide) (hts _ wF_X5_20) (fun _ h9 => h9) rfl dX5_drift_33 ?_
        refine lv_iload_n hx hb dX5_drift_36 rfl (lv_at hl 1 rfl) ?_
        refine lv_iload_n hx hb dX5_drift_37 rfl (lv_at hl 2 rfl) ?_
        refine k_iast (D := D) (f := Y 7) (ws' := mw h cI cZ sl mi n (sX Y 7 j pa) 0 fr wt cy) hx hb hK hP hD hS 4 0 rfl rfl j rfl (by omega) (by omega) rfl dX5_drift_38 (fun H locs hP hD hS => ?_)
        refine lv_iconst (v := 1) hx hb dX5_drift_39 (by decide) ?_
        exact ret _ (sX Y 7 j pa) _ _ _ _ dX5_drift_40 hP hD hS (Or.inr (Or.inr ⟨c10, ⟨Int32.not_lt.mp c19, c26⟩, rfl, by rw [nI_clamp (by omega)]⟩))
      · skip
        refine lv_bipush (v := (-2)) hx hb dX5_drift_29 (by decide) ?_
        exact ret _ Y _ _ _ _ dX5_drift_31 hP hD hS (Or.inr (Or.inl ⟨c10, (by first | exact fun z => absurd z.1 (i32_nlt c19) | exact fun z => c26 z.2), rfl, rfl⟩))
  · skip
    refine lv_iconst (v := (-1)) hx hb dX5_drift_13 (by decide) ?_
    exact ret _ Y _ _ _ _ dX5_drift_14 hP hD hS (Or.inl ⟨c10, rfl, rfl⟩)
set_option maxHeartbeats 4000000 in
set_option maxRecDepth 100000 in
theorem c_X5_cold {l : Launch} {D : va_G} {cI cZ cL : ClassId} {h : Nat → Nat} {sl mi n : Nat} {Y : Nat → Nat → Int32} {th fr wt cy : Nat} (hn : n ≤ 16) (x on : Int32) (ho : on = 0 ∨ on = 1) : KI l yX5_cold (.code yX5_cold cX5_cold 5 (some .int)) 1 D (tyz cI cZ cL) [.ref (h 0), .int x, .int on] (mw h cI cZ sl mi n Y th fr wt cy) (fun r u => (¬ inR x 1 n ∧ r = -1 ∧ u = Y) ∨ (inR x 1 n ∧ r = nI (nCo (u 5) (n + 1)) ∧ u = (if on ≠ 0 ∧ ¬ Y 4 x.toNatClampNeg ≤ 2 then sX (sX (sX (sX Y 5 x.toNatClampNeg on) 4 x.toNatClampNeg 0) 6 x.toNatClampNeg 0) 8 x.toNatClampNeg 0 else sX Y 5 x.toNatClampNeg on))) (fun u : Nat → Nat → Int32 => mw h cI cZ sl mi n u 0 fr wt cy) := by
  refine KI.of (own := RX5) (lvs := [(0, .ref (h 0)), (1, .int x), (2, .int on)]) (by decide) rfl (Nat.le_of_ble_eq_true rfl) rfl ?_
  intro p e s m args below meth c Q C hK hN A hA hP hD hS ret ls hl
  obtain ⟨hx, hb, hml, hown, hts, hr9, hlk9⟩ := id C
  refine lv_aload_n hx hb dX5_cold_0 rfl (lv_at hl 0 rfl) ?_
  refine lv_iconst (v := 0) hx hb dX5_cold_1 (by decide) ?_
  refine k_put (D := D) (ci := 7) (v := .int (nI 0)) (ty := .int) (C := RX5) (T := TX5) (N := 27) (ws' := mw h cI cZ sl mi n Y 0 fr wt cy) hx hb hts inX5 tyX5 tyX5_ok nmX5 hown hK hP hD hS 0 rfl rfl 0 (by decide) (hts _ wF_X5_81) (fun _ h9 => h9) rfl (by decide +kernel) rfl rfl (Nat.le_of_ble_eq_true rfl) rfl dX5_cold_2 (fun H locs hP hD hS => ?_)
  refine lv_aload_n hx hb dX5_cold_5 rfl (lv_at hl 0 rfl) ?_
  refine lv_iload_n hx hb dX5_cold_6 rfl (lv_at hl 1 rfl) ?_
  refine k_callR (D := D) C hK hN hP hD (c_X5_isNode hn x) hl cf_yX5_isNode wM_X5_84 0 7 rfl rfl rfl rfl (Nat.le_of_ble_eq_true rfl) ⟨by decide, by decide⟩ ⟨Nat.zero_le _, Nat.zero_le _⟩ dX5_cold_7 (fun r7 hr7 => ?_)
  have hr7 : r7 = (if inR x 1 n then 1 else 0) := hr7
  subst hr7
  refine k_ifne_P (P := (inR x 1 n)) (tgt := 15) hx hb rfl dX5_cold_10 (by decide) (fun c10 => ?_) (fun c10 => ?_)
  · skip
    obtain ⟨j, hj1, hj2, rfl⟩ := inR_of c10
    refine lv_aload_n hx hb dX5_cold_15 rfl (lv_at hl 0 rfl) ?_
    refine va_get (D := D) (ci := 7) (v := .ref (h 5)) (C := RX5) (T := TX5) (N := 27) hx hb hts inX5 hown hK hP 0 rfl rfl 5 (by decide) (hts _ wF_X5_13) (fun _ h9 => h9) rfl dX5_cold_16 ?_
    refine lv_iload_n hx hb dX5_cold_19 rfl (lv_at hl 1 rfl) ?_
    refine lv_iload_n hx hb dX5_cold_20 rfl (lv_at hl 2 rfl) ?_
    refine k_zast (D := D) (f := Y 5) (ws' := mw h cI cZ sl mi n (sX Y 5 j on) 0 fr wt cy) hx hb hK hP hD hS 2 1 rfl rfl j rfl (by omega) (by omega) (by rcases ho with rfl | rfl <;> rfl) rfl dX5_cold_21 (fun H locs hP hD hS => ?_)
    have L57 : ∀ (Z : Nat → Nat → Int32) (H : Heap) (locs : List Loc) (ls : Array Slot), (Z = (if on ≠ 0 ∧ ¬ Y 4 j ≤ 2 then sX (sX (sX (sX Y 5 j on) 4 j 0) 6 j 0) 8 j 0 else sX Y 5 j on)) → (va_P D vwCl (mw h cI cZ sl mi n Z 0 fr wt cy) H) → (va_D A (mw h cI cZ sl mi n Z 0 fr wt cy)) → (va_S A s.heap H locs) → (lv_has ls 5 [(0, .ref (h 0))]) → W p l e (rmK 1) s m args below meth c H locs 0 0 Q (F0 m 57 ls []) := by
      intro Z H locs ls hZ hP hD hS hl
      refine lv_iconst (v := 0) hx hb dX5_cold_57 (by decide) ?_
      refine lv_istore_n (lv' := [(3, .int 0), (0, .ref (h 0))]) hx hb dX5_cold_58 rfl hl (by decide) rfl (fun ls hl => ?_)
      refine lv_iconst (v := 1) hx hb dX5_cold_59 (by decide) ?_
      refine lv_istore (lv' := [(4, .int 1), (3, .int 0), (0, .ref (h 0))]) hx hb dX5_cold_60 hl (by decide) rfl (fun ls hl => ?_)
      have L62 : ∀ (kf : Nat) (i : Nat) (f : Nat) (ls : Array Slot), (n + 1 - i < kf) → (1 ≤ i) → (i ≤ n + 1) → (f = nCo (Z 5) i) → (lv_has ls 5 [(0, .ref (h 0)), (3, .int (nI f)), (4, .int (nI i))]) → W p l e (rmK 1) s m args below meth c H locs 0 0 Q (F0 m 62 ls []) := by
        intro kf
        induction kf with
        | zero =>
          intro i f ls hm
          exact absurd hm (Nat.not_lt_zero _)
        | succ kf ih62 =>
          intro i f ls hm h1 h2 h3 hl
          refine lv_iload hx hb dX5_cold_62 (lv_at hl 2 rfl) ?_
          refine lv_aload_n hx hb dX5_cold_64 rfl (lv_at hl 0 rfl) ?_
          refine va_get (D := D) (ci := 7) (v := .int (nI n)) (C := RX5) (T := TX5) (N := 27) hx hb hts inX5 hown hK hP 0 rfl rfl 1 (by decide) (hts _ wF_X5_71) (fun _ h9 => h9) rfl dX5_cold_65 ?_
          refine k_icmp_gt (tgt := 95) hx hb i n rfl rfl (by omega) (by omega) dX5_cold_68 (by decide) (fun c68 => ?_) (fun c68 => ?_)
          · skip
            refine lv_iload_n hx hb dX5_cold_95 rfl (lv_at hl 1 rfl) ?_
            exact ret _ Z _ _ _ _ dX5_cold_96 hP hD hS (Or.inr ⟨c10, by rw [h3, show i = n + 1 by omega], by rw [nI_clamp (by omega)]; exact hZ⟩)
          · skip
            refine lv_iload_n hx hb dX5_cold_71 rfl (lv_at hl 1 rfl) ?_
            refine lv_aload_n hx hb dX5_cold_72 rfl (lv_at hl 0 rfl) ?_
            refine va_get (D := D) (ci := 7) (v := .ref (h 5)) (C := RX5) (T := TX5) (N := 27) hx hb hts inX5 hown hK hP 0 rfl rfl 5 (by decide) (hts _ wF_X5_13) (fun _ h9 => h9) rfl dX5_cold_73 ?_
            refine lv_iload hx hb dX5_cold_76 (lv_at hl 2 rfl) ?_
            refine k_zald (D := D) (f := Z 5) hx hb hK hP 2 1 rfl rfl i rfl (by omega) (by omega) dX5_cold_78 ?_
            refine lv_if_eq (tgt := 86) hx hb dX5_cold_79 (by decide) (fun c79 => ?_) (fun c79 => ?_)
            · skip
              refine lv_iconst (v := 0) hx hb dX5_cold_86 (by decide) ?_
              refine k_iadd hx hb f 0 rfl rfl dX5_cold_87 ?_
              refine lv_istore_n (lv' := [(3, .int (nI (f + 0))), (0, .ref (h 0)), (4, .int (nI i))]) hx hb dX5_cold_88 rfl hl (by decide) rfl (fun ls hl => ?_)
              refine k_iinc (k := 2) (lv' := [(4, .int (nI (i + 1))), (3, .int (nI (f + 0))), (0, .ref (h 0))]) hx hb i rfl dX5_cold_89 hl rfl (by decide) rfl (fun ls hl => ?_)
              refine lv_goto (tgt := 62) hx hb dX5_cold_92 (by decide) ?_
              exact ih62 (i + 1) (f + 0) _ (by omega) (by omega) (by omega) (by subst h3; first | exact (cnt_t h1 (decide_eq_true c79)).symm | exact (cnt_f (decide_eq_false (fun z => z c79))).symm) (lv_sub hl [2, 1, 0] rfl)
            · skip
              refine lv_iconst (v := 1) hx hb dX5_cold_82 (by decide) ?_
              refine lv_goto (tgt := 87) hx hb dX5_cold_83 (by decide) ?_
              refine k_iadd hx hb f 1 rfl rfl dX5_cold_87 ?_
              refine lv_istore_n (lv' := [(3, .int (nI (f + 1))), (0, .ref (h 0)), (4, .int (nI i))]) hx hb dX5_cold_88 rfl hl (by decide) rfl (fun ls hl => ?_)
              refine k_iinc (k := 2) (lv' := [(4, .int (nI (i + 1))), (3, .int (nI (f + 1))), (0, .ref (h 0))]) hx hb i rfl dX5_cold_89 hl rfl (by decide) rfl (fun ls hl => ?_)
              refine lv_goto (tgt := 62) hx hb dX5_cold_92 (by decide) ?_
              exact ih62 (i + 1) (f + 1) _ (by omega) (by omega) (by omega) (by subst h3; first | exact (cnt_t h1 (decide_eq_true c79)).symm | exact (cnt_f (decide_eq_false (fun z => z c79))).symm) (lv_sub hl [2, 1, 0] rfl)
      exact L62 ((n + 1 - 1) + 1) 1 0 _ (Nat.lt_succ_self _) (Nat.le_refl 1) (by omega) (cnt_1 _).symm (lv_sub hl [2, 1, 0] rfl)
    refine lv_iload_n hx hb dX5_cold_22 rfl (lv_at hl 2 rfl) ?_
    refine lv_if_eq (tgt := 57) hx hb dX5_cold_23 (by decide) (fun c23 => ?_) (fun c23 => ?_)
    · skip
      exact L57 (sX Y 5 j on) _ _ _ (by first | exact ite_n (fun z => z.1 c23) | exact ite_n (fun z => z.2 c33) | exact ite_p ⟨c23, c33⟩) hP hD hS (lv_sub hl [0] rfl)
    · skip
      refine lv_aload_n hx hb dX5_cold_26 rfl (lv_at hl 0 rfl) ?_
      refine va_get (D := D) (ci := 7) (v := .ref (h 4)) (C := RX5) (T := TX5) (N := 27) hx hb hts inX5 hown hK hP 0 rfl rfl 4 (by decide) (hts _ wF_X5_7) (fun _ h9 => h9) rfl dX5_cold_27 ?_
      refine lv_iload_n hx hb dX5_cold_30 rfl (lv_at hl 1 rfl) ?_
      refine k_iald (D := D) (f := Y 4) hx hb hK hP 1 0 rfl rfl j rfl (by omega) (by omega) dX5_cold_31 ?_
      refine lv_iconst (v := 2) hx hb dX5_cold_32 (by decide) ?_
      refine lv_icmp_le (tgt := 57) hx hb dX5_cold_33 (by decide) (fun c33 => ?_) (fun c33 => ?_)
      · skip
        exact L57 (sX Y 5 j on) _ _ _ (by first | exact ite_n (fun z => z.1 c23) | exact ite_n (fun z => z.2 c33) | exact ite_p ⟨c23, c33⟩) hP hD hS (lv_sub hl [0] rfl)
      · skip
        refine lv_aload_n hx hb dX5_cold_36 rfl (lv_at hl 0 rfl) ?_
        refine va_get (D := D) (ci := 7) (v := .ref (h 4)) (C := RX5) (T := TX5) (N := 27) hx hb hts inX5 hown hK hP 0 rfl rfl 4 (by decide) (hts _ wF_X5_7) (fun _ h9 => h9) rfl dX5_cold_37 ?_
        refine lv_iload_n hx hb dX5_cold_40 rfl (lv_at hl 1 rfl) ?_
        refine lv_iconst (v := 0) hx hb dX5_cold_41 (by decide) ?_
        refine k_iast (D := D) (f := Y 4) (ws' := mw h cI cZ sl mi n (sX (sX Y 5 j on) 4 j 0) 0 fr wt cy) hx hb hK hP hD hS 1 0 rfl rfl j rfl (by omega) (by omega) rfl dX5_cold_42 (fun H locs hP hD hS => ?_)
        refine lv_aload_n hx hb dX5_cold_43 rfl (lv_at hl 0 rfl) ?_
        refine va_get (D := D) (ci := 7) (v := .ref (h 6)) (C := RX5) (T := TX5) (N := 27) hx hb hts inX5 hown hK hP 0 rfl rfl 6 (by decide) (hts _ wF_X5_17) (fun _ h9 => h9) rfl dX5_cold_44 ?_
        refine lv_iload_n hx hb dX5_cold_47 rfl (lv_at hl 1 rfl) ?_
        refine lv_iconst (v := 0) hx hb dX5_cold_48 (by decide) ?_
        refine k_iast (D := D) (f := Y 6) (ws' := mw h cI cZ sl mi n (sX (sX (sX Y 5 j on) 4 j 0) 6 j 0) 0 fr wt cy) hx hb hK hP hD hS 3 0 rfl rfl j rfl (by omega) (by omega) rfl dX5_cold_49 (fun H locs hP hD hS => ?_)
        refine lv_aload_n hx hb dX5_cold_50 rfl (lv_at hl 0 rfl) ?_
        refine va_get (D := D) (ci := 7) (v := .ref (h 8)) (C := RX5) (T := TX5) (N := 27) hx hb hts inX5 hown hK hP 0 rfl rfl 8 (by decide) (hts _ wF_X5_23) (fun _ h9 => h9) rfl dX5_cold_51 ?_
        refine lv_iload_n hx hb dX5_cold_54 rfl (lv_at hl 1 rfl) ?_
        refine lv_iconst (v := 0) hx hb dX5_cold_55 (by decide) ?_
        refine k_iast (D := D) (f := Y 8) (ws' := mw h cI cZ sl mi n (sX (sX (sX (sX Y 5 j on) 4 j 0) 6 j 0) 8 j 0) 0 fr wt cy) hx hb hK hP hD hS 5 0 rfl rfl j rfl (by omega) (by omega) rfl dX5_cold_56 (fun H locs hP hD hS => ?_)
        exact L57 (sX (sX (sX (sX Y 5 j on) 4 j 0) 6 j 0) 8 j 0) _ _ _ (by first | exact ite_n (fun z => z.1 c23) | exact ite_n (fun z => z.2 c33) | exact ite_p ⟨c23, c33⟩) hP hD hS (lv_sub hl [0] rfl)
  · skip
    refine lv_iconst (v := (-1)) hx hb dX5_cold_13 (by decide) ?_
    exact ret _ Y _ _ _ _ dX5_cold_14 hP hD hS (Or.inl ⟨c10, rfl, rfl⟩)
set_option maxHeartbeats 4000000 in
set_option maxRecDepth 100000 in
theorem c_X5_flip {l : Launch} {D : va_G} {cI cZ cL : ClassId} {h : Nat → Nat} {sl mi n : Nat} {Y : Nat → Nat → Int32} {th fr wt cy : Nat} (hs1 : 1 ≤ sl) (hsl : sl ≤ 60) (ch x : Int32) : KI l yX5_flip (.code yX5_flip cX5_flip 5 (some .int)) 1 D (tyz cI cZ cL) [.ref (h 0), .int ch, .int x] (mw h cI cZ sl mi n Y th fr wt cy) (fun r u => (¬ ((1 ≤ ch ∧ ch ≤ 2) ∧ inR x 0 (sl - 1)) ∧ r = -1 ∧ u = Y) ∨ (((1 ≤ ch ∧ ch ≤ 2) ∧ inR x 0 (sl - 1)) ∧ Y 25 x.toNatClampNeg &&& ch ≠ 0 ∧ r = -3 ∧ u = Y) ∨ (((1 ≤ ch ∧ ch ≤ 2) ∧ inR x 0 (sl - 1)) ∧ ¬ (Y 25 x.toNatClampNeg &&& ch ≠ 0) ∧ r = flc (u 25) sl ∧ u = sX Y 25 x.toNatClampNeg (Y 25 x.toNatClampNeg ||| ch))) (fun u : Nat → Nat → Int32 => mw h cI cZ sl mi n u 0 fr wt cy) := by
  refine KI.of (own := RX5) (lvs := [(0, .ref (h 0)), (1, .int ch), (2, .int x)]) (by decide) rfl (Nat.le_of_ble_eq_true rfl) rfl ?_
  intro p e s m args below meth c Q C hK hN A hA hP hD hS ret ls hl
  obtain ⟨hx, hb, hml, hown, hts, hr9, hlk9⟩ := id C
  refine lv_aload_n hx hb dX5_flip_0 rfl (lv_at hl 0 rfl) ?_
  refine lv_iconst (v := 0) hx hb dX5_flip_1 (by decide) ?_
  refine k_put (D := D) (ci := 7) (v := .int (nI 0)) (ty := .int) (C := RX5) (T := TX5) (N := 27) (ws' := mw h cI cZ sl mi n Y 0 fr wt cy) hx hb hts inX5 tyX5 tyX5_ok nmX5 hown hK hP hD hS 0 rfl rfl 0 (by decide) (hts _ wF_X5_81) (fun _ h9 => h9) rfl (by decide +kernel) rfl rfl (Nat.le_of_ble_eq_true rfl) rfl dX5_flip_2 (fun H locs hP hD hS => ?_)
  refine lv_iload_n hx hb dX5_flip_5 rfl (lv_at hl 1 rfl) ?_
  refine lv_iconst (v := 1) hx hb dX5_flip_6 (by decide) ?_
  refine lv_icmp_lt (tgt := 23) hx hb dX5_flip_7 (by decide) (fun c7 => ?_) (fun c7 => ?_)
  · skip
    refine lv_iconst (v := (-1)) hx hb dX5_flip_23 (by decide) ?_
    exact ret _ Y _ _ _ _ dX5_flip_24 hP hD hS (Or.inl ⟨(by first | exact fun z => absurd z.1.1 (i32_nlt c7) | exact fun z => absurd z.1.2 (i32_nlt c12) | exact fun z => c20 z.2), rfl, rfl⟩)
  · skip
    refine lv_iload_n hx hb dX5_flip_10 rfl (lv_at hl 1 rfl) ?_
    refine lv_iconst (v := 2) hx hb dX5_flip_11 (by decide) ?_
    refine lv_icmp_gt (tgt := 23) hx hb dX5_flip_12 (by decide) (fun c12 => ?_) (fun c12 => ?_)
    · skip
      refine lv_iconst (v := (-1)) hx hb dX5_flip_23 (by decide) ?_
      exact ret _ Y _ _ _ _ dX5_flip_24 hP hD hS (Or.inl ⟨(by first | exact fun z => absurd z.1.1 (i32_nlt c7) | exact fun z => absurd z.1.2 (i32_nlt c12) | exact fun z => c20 z.2), rfl, rfl⟩)
    · skip
      refine lv_aload_n hx hb dX5_flip_15 rfl (lv_at hl 0 rfl) ?_
      refine lv_iload_n hx hb dX5_flip_16 rfl (lv_at hl 2 rfl) ?_
      refine k_callR (D := D) C hK hN hP hD (c_X5_isSlot hs1 hsl x) hl cf_yX5_isSlot wM_X5_88 0 7 rfl rfl rfl rfl (Nat.le_of_ble_eq_true rfl) ⟨by decide, by decide⟩ ⟨Nat.zero_le _, Nat.zero_le _⟩ dX5_flip_17 (fun r17 hr17 => ?_)
      have hr17 : r17 = (if inR x 0 (sl - 1) then 1 else 0) := hr17
      subst hr17
      refine k_ifne_P (P := (inR x 0 (sl - 1))) (tgt := 25) hx hb rfl dX5_flip_20 (by decide) (fun c20 => ?_) (fun c20 => ?_)
      · skip
        obtain ⟨j, hj1, hj2, rfl⟩ := inR_of c20
        have hcl := nI_clamp (n := j) (by omega)
        refine lv_aload_n hx hb dX5_flip_25 rfl (lv_at hl 0 rfl) ?_
        refine va_get (D := D) (ci := 7) (v := .ref (h 25)) (C := RX5) (T := TX5) (N := 27) hx hb hts inX5 hown hK hP 0 rfl rfl 25 (by decide) (hts _ wF_X5_68) (fun _ h9 => h9) rfl dX5_flip_26 ?_
        refine lv_iload_n hx hb dX5_flip_29 rfl (lv_at hl 2 rfl) ?_
        refine k_iald (D := D) (f := Y 25) hx hb hK hP 20 0 rfl rfl j rfl (by omega) (by omega) dX5_flip_30 ?_
        refine lv_iload_n hx hb dX5_flip_31 rfl (lv_at hl 1 rfl) ?_
        refine lv_iand hx hb dX5_flip_32 ?_
        refine lv_if_eq (tgt := 39) hx hb dX5_flip_33 (by decide) (fun c33 => ?_) (fun c33 => ?_)
        · skip
          refine lv_aload_n hx hb dX5_flip_39 rfl (lv_at hl 0 rfl) ?_
          refine va_get (D := D) (ci := 7) (v := .ref (h 25)) (C := RX5) (T := TX5) (N := 27) hx hb hts inX5 hown hK hP 0 rfl rfl 25 (by decide) (hts _ wF_X5_68) (fun _ h9 => h9) rfl dX5_flip_40 ?_
          refine lv_iload_n hx hb dX5_flip_43 rfl (lv_at hl 2 rfl) ?_
          refine lv_dup2_11 hx hb dX5_flip_44 rfl rfl ?_
          refine k_iald (D := D) (f := Y 25) hx hb hK hP 20 0 rfl rfl j rfl (by omega) (by omega) dX5_flip_45 ?_
          refine lv_iload_n hx hb dX5_flip_46 rfl (lv_at hl 1 rfl) ?_
          refine lv_ior hx hb dX5_flip_47 ?_
          refine k_iast (D := D) (f := Y 25) (ws' := mw h cI cZ sl mi n (sX Y 25 j ((Y 25 j) ||| ch)) 0 fr wt cy) hx hb hK hP hD hS 20 0 rfl rfl j rfl (by omega) (by omega) rfl dX5_flip_48 (fun H locs hP hD hS => ?_)
          refine lv_iconst (v := 0) hx hb dX5_flip_49 (by decide) ?_
          refine lv_istore_n (lv' := [(3, .int 0), (0, .ref (h 0)), (1, .int ch), (2, .int (nI j))]) hx hb dX5_flip_50 rfl hl (by decide) rfl (fun ls hl => ?_)
          refine lv_iconst (v := 0) hx hb dX5_flip_51 (by decide) ?_
          refine lv_istore (lv' := [(4, .int 0), (3, .int 0), (0, .ref (h 0)), (1, .int ch), (2, .int (nI j))]) hx hb dX5_flip_52 hl (by decide) rfl (fun ls hl => ?_)
          have L54 : ∀ (kf : Nat) (i : Nat) (acc : Int32) (ls : Array Slot), (sl - i < kf) → (i ≤ sl) → (acc = flc (sX Y 25 j (Y 25 j ||| ch) 25) i) → (lv_has ls 5 [(0, .ref (h 0)), (3, .int acc), (4, .int (nI i))]) → W p l e (rmK 1) s m args below meth c H locs 0 0 Q (F0 m 54 ls []) := by
            intro kf
            induction kf with
            | zero =>
              intro i acc ls hm
              exact absurd hm (Nat.not_lt_zero _)
            | succ kf ih54 =>
              intro i acc ls hm h2 h3 hl
              refine lv_iload hx hb dX5_flip_54 (lv_at hl 2 rfl) ?_
              refine lv_aload_n hx hb dX5_flip_56 rfl (lv_at hl 0 rfl) ?_
              refine va_get (D := D) (ci := 7) (v := .int (nI sl)) (C := RX5) (T := TX5) (N := 27) hx hb hts inX5 hown hK hP 0 rfl rfl 2 (by decide) (hts _ wF_X5_75) (fun _ h9 => h9) rfl dX5_flip_57 ?_
              refine k_icmp_ge (tgt := 91) hx hb i sl rfl rfl (by omega) (by omega) dX5_flip_60 (by decide) (fun c60 => ?_) (fun c60 => ?_)
              · skip
                refine lv_iload_n hx hb dX5_flip_91 rfl (lv_at hl 1 rfl) ?_
                exact ret _ (sX Y 25 j ((Y 25 j) ||| ch)) _ _ _ _ dX5_flip_92 hP hD hS (Or.inr (Or.inr ⟨⟨⟨Int32.not_lt.mp c7, Int32.not_lt.mp c12⟩, c20⟩, by rw [hcl]; exact fun z => z c33, by rw [h3, show i = sl by omega], by rw [hcl]⟩))
              · skip
                refine lv_iload_n hx hb dX5_flip_63 rfl (lv_at hl 1 rfl) ?_
                refine lv_aload_n hx hb dX5_flip_64 rfl (lv_at hl 0 rfl) ?_
                refine va_get (D := D) (ci := 7) (v := .ref (h 25)) (C := RX5) (T := TX5) (N := 27) hx hb hts inX5 hown hK hP 0 rfl rfl 25 (by decide) (hts _ wF_X5_68) (fun _ h9 => h9) rfl dX5_flip_65 ?_
                refine lv_iload hx hb dX5_flip_68 (lv_at hl 2 rfl) ?_
                refine k_iald (D := D) (f := (sX Y 25 j ((Y 25 j) ||| ch)) 25) hx hb hK hP 20 0 rfl rfl i rfl (by omega) (by omega) dX5_flip_70 ?_
                refine lv_iconst (v := 1) hx hb dX5_flip_71 (by decide) ?_
                refine lv_iand hx hb dX5_flip_72 ?_
                refine lv_aload_n hx hb dX5_flip_73 rfl (lv_at hl 0 rfl) ?_
                refine va_get (D := D) (ci := 7) (v := .ref (h 25)) (C := RX5) (T := TX5) (N := 27) hx hb hts inX5 hown hK hP 0 rfl rfl 25 (by decide) (hts _ wF_X5_68) (fun _ h9 => h9) rfl dX5_flip_74 ?_
                refine lv_iload hx hb dX5_flip_77 (lv_at hl 2 rfl) ?_
                refine k_iald (D := D) (f := (sX Y 25 j ((Y 25 j) ||| ch)) 25) hx hb hK hP 20 0 rfl rfl i rfl (by omega) (by omega) dX5_flip_79 ?_
                refine lv_iconst (v := 1) hx hb dX5_flip_80 (by decide) ?_
                refine lv_ishr hx hb dX5_flip_81 ?_
                refine lv_iadd hx hb dX5_flip_82 ?_
                refine lv_iadd hx hb dX5_flip_83 ?_
                refine lv_istore_n (lv' := [(3, .int (acc + ((((sX Y 25 j ((Y 25 j) ||| ch)) 25 i) &&& 1) + (((sX Y 25 j ((Y 25 j) ||| ch)) 25 i) >>> ((1 : Int32) &&& 31))))), (0, .ref (h 0)), (4, .int (nI i))]) hx hb dX5_flip_84 rfl hl (by decide) rfl (fun ls hl => ?_)
                refine k_iinc (k := 2) (lv' := [(4, .int (nI (i + 1))), (3, .int (acc + ((((sX Y 25 j ((Y 25 j) ||| ch)) 25 i) &&& 1) + (((sX Y 25 j ((Y 25 j) ||| ch)) 25 i) >>> ((1 : Int32) &&& 31))))), (0, .ref (h 0))]) hx hb i rfl dX5_flip_85 hl rfl (by decide) rfl (fun ls hl => ?_)
                refine lv_goto (tgt := 54) hx hb dX5_flip_88 (by decide) ?_
                exact ih54 (i + 1) (acc + ((((sX Y 25 j ((Y 25 j) ||| ch)) 25 i) &&& 1) + (((sX Y 25 j ((Y 25 j) ||| ch)) 25 i) >>> ((1 : Int32) &&& 31)))) _ (by omega) (by omega) (by rw [h3]; rfl) (lv_sub hl [2, 1, 0] rfl)
          exact L54 ((sl - 0) + 1) 0 0 _ (Nat.lt_succ_self _) (Nat.zero_le _) rfl (lv_sub hl [2, 1, 0] rfl)
        · skip
          refine lv_bipush (v := (-3)) hx hb dX5_flip_36 (by decide) ?_
          exact ret _ Y _ _ _ _ dX5_flip_38 hP hD hS (Or.inr (Or.inl ⟨⟨⟨Int32.not_lt.mp c7, Int32.not_lt.mp c12⟩, c20⟩, by rw [hcl]; exact c33, rfl, rfl⟩))
      · skip
        refine lv_iconst (v := (-1)) hx hb dX5_flip_23 (by decide) ?_
        exact ret _ Y _ _ _ _ dX5_flip_24 hP hD hS (Or.inl ⟨(by first | exact fun z => absurd z.1.1 (i32_nlt c7) | exact fun z => absurd z.1.2 (i32_nlt c12) | exact fun z => c20 z.2), rfl, rfl⟩)
set_option maxHeartbeats 4000000 in
set_option maxRecDepth 100000 in
theorem c_X5_dynamic {l : Launch} {D : va_G} {cI cZ cL : ClassId} {h : Nat → Nat} {sl mi n : Nat} {Y : Nat → Nat → Int32} {th fr wt cy : Nat} (hn : n ≤ 16) (hd : wt ≤ 100) (x di ln : Int32) : KI l yX5_dynamic (.code yX5_dynamic cX5_dynamic 4 (some .int)) 1 D (tyz cI cZ cL) [.ref (h 0), .int x, .int di, .int ln] (mw h cI cZ sl mi n Y th fr wt cy) (fun r u => (¬ inR x 1 n ∧ r = -1 ∧ u = (Y, wt)) ∨ (inR x 1 n ∧ ¬ ((1 ≤ di ∧ di ≤ 60) ∧ 1 ≤ ln ∧ ln ≤ 60) ∧ r = -2 ∧ u = (Y, wt)) ∨ (inR x 1 n ∧ ((1 ≤ di ∧ di ≤ 60) ∧ 1 ≤ ln ∧ ln ≤ 60) ∧ 100 ≤ wt ∧ r = -4 ∧ u = (Y, wt)) ∨ (inR x 1 n ∧ ((1 ≤ di ∧ di ≤ 60) ∧ 1 ≤ ln ∧ ln ≤ 60) ∧ wt < 100 ∧ r = nI (wt + 1) ∧ u = (sX (sX (sX Y 22 wt x) 23 wt di) 24 wt ln, wt + 1))) (fun u : (Nat → Nat → Int32) × Nat => mw h cI cZ sl mi n u.1 0 fr u.2 cy) := by
  refine KI.of (own := RX5) (lvs := [(0, .ref (h 0)), (1, .int x), (2, .int di), (3, .int ln)]) (by decide) rfl (Nat.le_of_ble_eq_true rfl) rfl ?_
  intro p e s m args below meth c Q C hK hN A hA hP hD hS ret ls hl
  obtain ⟨hx, hb, hml, hown, hts, hr9, hlk9⟩ := id C
  refine lv_aload_n hx hb dX5_dynamic_0 rfl (lv_at hl 0 rfl) ?_
  refine lv_iconst (v := 0) hx hb dX5_dynamic_1 (by decide) ?_
  refine k_put (D := D) (ci := 7) (v := .int (nI 0)) (ty := .int) (C := RX5) (T := TX5) (N := 27) (ws' := mw h cI cZ sl mi n Y 0 fr wt cy) hx hb hts inX5 tyX5 tyX5_ok nmX5 hown hK hP hD hS 0 rfl rfl 0 (by decide) (hts _ wF_X5_81) (fun _ h9 => h9) rfl (by decide +kernel) rfl rfl (Nat.le_of_ble_eq_true rfl) rfl dX5_dynamic_2 (fun H locs hP hD hS => ?_)
  refine lv_aload_n hx hb dX5_dynamic_5 rfl (lv_at hl 0 rfl) ?_
  refine lv_iload_n hx hb dX5_dynamic_6 rfl (lv_at hl 1 rfl) ?_
  refine k_callR (D := D) C hK hN hP hD (c_X5_isNode hn x) hl cf_yX5_isNode wM_X5_84 0 7 rfl rfl rfl rfl (Nat.le_of_ble_eq_true rfl) ⟨by decide, by decide⟩ ⟨Nat.zero_le _, Nat.zero_le _⟩ dX5_dynamic_7 (fun r7 hr7 => ?_)
  have hr7 : r7 = (if inR x 1 n then 1 else 0) := hr7
  subst hr7
  refine k_ifne_P (P := (inR x 1 n)) (tgt := 15) hx hb rfl dX5_dynamic_10 (by decide) (fun c10 => ?_) (fun c10 => ?_)
  · skip
    refine lv_iload_n hx hb dX5_dynamic_15 rfl (lv_at hl 2 rfl) ?_
    refine lv_iconst (v := 1) hx hb dX5_dynamic_16 (by decide) ?_
    refine lv_icmp_lt (tgt := 37) hx hb dX5_dynamic_17 (by decide) (fun c17 => ?_) (fun c17 => ?_)
    · skip
      refine lv_bipush (v := (-2)) hx hb dX5_dynamic_37 (by decide) ?_
      exact ret _ (Y, wt) _ _ _ _ dX5_dynamic_39 hP hD hS (Or.inr (Or.inl ⟨c10, (by first | exact fun z => absurd z.1.1 (i32_nlt c17) | exact fun z => absurd z.1.2 (i32_nlt c23) | exact fun z => absurd z.2.1 (i32_nlt c28) | exact fun z => c34 z.2.2), rfl, rfl⟩))
    · skip
      refine lv_iload_n hx hb dX5_dynamic_20 rfl (lv_at hl 2 rfl) ?_
      refine lv_bipush (v := 60) hx hb dX5_dynamic_21 (by decide) ?_
      refine lv_icmp_gt (tgt := 37) hx hb dX5_dynamic_23 (by decide) (fun c23 => ?_) (fun c23 => ?_)
      · skip
        refine lv_bipush (v := (-2)) hx hb dX5_dynamic_37 (by decide) ?_
        exact ret _ (Y, wt) _ _ _ _ dX5_dynamic_39 hP hD hS (Or.inr (Or.inl ⟨c10, (by first | exact fun z => absurd z.1.1 (i32_nlt c17) | exact fun z => absurd z.1.2 (i32_nlt c23) | exact fun z => absurd z.2.1 (i32_nlt c28) | exact fun z => c34 z.2.2), rfl, rfl⟩))
      · skip
        refine lv_iload_n hx hb dX5_dynamic_26 rfl (lv_at hl 3 rfl) ?_
        refine lv_iconst (v := 1) hx hb dX5_dynamic_27 (by decide) ?_
        refine lv_icmp_lt (tgt := 37) hx hb dX5_dynamic_28 (by decide) (fun c28 => ?_) (fun c28 => ?_)
        · skip
          refine lv_bipush (v := (-2)) hx hb dX5_dynamic_37 (by decide) ?_
          exact ret _ (Y, wt) _ _ _ _ dX5_dynamic_39 hP hD hS (Or.inr (Or.inl ⟨c10, (by first | exact fun z => absurd z.1.1 (i32_nlt c17) | exact fun z => absurd z.1.2 (i32_nlt c23) | exact fun z => absurd z.2.1 (i32_nlt c28) | exact fun z => c34 z.2.2), rfl, rfl⟩))
        · skip
          refine lv_iload_n hx hb dX5_dynamic_31 rfl (lv_at hl 3 rfl) ?_
          refine lv_bipush (v := 60) hx hb dX5_dynamic_32 (by decide) ?_
          refine lv_icmp_le (tgt := 40) hx hb dX5_dynamic_34 (by decide) (fun c34 => ?_) (fun c34 => ?_)
          · skip
            have hrg : ((1 ≤ di ∧ di ≤ 60) ∧ 1 ≤ ln ∧ ln ≤ 60) := ⟨⟨Int32.not_lt.mp c17, Int32.not_lt.mp c23⟩, Int32.not_lt.mp c28, c34⟩
            refine lv_aload_n hx hb dX5_dynamic_40 rfl (lv_at hl 0 rfl) ?_
            refine va_get (D := D) (ci := 7) (v := .int (nI wt)) (C := RX5) (T := TX5) (N := 27) hx hb hts inX5 hown hK hP 0 rfl rfl 21 (by decide) (hts _ wF_X5_94) (fun _ h9 => h9) rfl dX5_dynamic_41 ?_
            refine lv_bipush (v := 100) hx hb dX5_dynamic_44 (by decide) ?_
            refine k_icmp_ne (tgt := 52) hx hb wt 100 rfl rfl (by omega) (by omega) dX5_dynamic_46 (by decide) (fun c46 => ?_) (fun c46 => ?_)
            · skip
              refine lv_aload_n hx hb dX5_dynamic_52 rfl (lv_at hl 0 rfl) ?_
              refine va_get (D := D) (ci := 7) (v := .ref (h 22)) (C := RX5) (T := TX5) (N := 27) hx hb hts inX5 hown hK hP 0 rfl rfl 22 (by decide) (hts _ wF_X5_59) (fun _ h9 => h9) rfl dX5_dynamic_53 ?_
              refine lv_aload_n hx hb dX5_dynamic_56 rfl (lv_at hl 0 rfl) ?_
              refine va_get (D := D) (ci := 7) (v := .int (nI wt)) (C := RX5) (T := TX5) (N := 27) hx hb hts inX5 hown hK hP 0 rfl rfl 21 (by decide) (hts _ wF_X5_94) (fun _ h9 => h9) rfl dX5_dynamic_57 ?_
              refine lv_iload_n hx hb dX5_dynamic_60 rfl (lv_at hl 1 rfl) ?_
              refine k_iast (D := D) (f := Y 22) (ws' := mw h cI cZ sl mi n (sX Y 22 wt x) 0 fr wt cy) hx hb hK hP hD hS 17 0 rfl rfl wt rfl (by omega) (by omega) rfl dX5_dynamic_61 (fun H locs hP hD hS => ?_)
              refine lv_aload_n hx hb dX5_dynamic_62 rfl (lv_at hl 0 rfl) ?_
              refine va_get (D := D) (ci := 7) (v := .ref (h 23)) (C := RX5) (T := TX5) (N := 27) hx hb hts inX5 hown hK hP 0 rfl rfl 23 (by decide) (hts _ wF_X5_62) (fun _ h9 => h9) rfl dX5_dynamic_63 ?_
              refine lv_aload_n hx hb dX5_dynamic_66 rfl (lv_at hl 0 rfl) ?_
              refine va_get (D := D) (ci := 7) (v := .int (nI wt)) (C := RX5) (T := TX5) (N := 27) hx hb hts inX5 hown hK hP 0 rfl rfl 21 (by decide) (hts _ wF_X5_94) (fun _ h9 => h9) rfl dX5_dynamic_67 ?_
              refine lv_iload_n hx hb dX5_dynamic_70 rfl (lv_at hl 2 rfl) ?_
              refine k_iast (D := D) (f := Y 23) (ws' := mw h cI cZ sl mi n (sX (sX Y 22 wt x) 23 wt di) 0 fr wt cy) hx hb hK hP hD hS 18 0 rfl rfl wt rfl (by omega) (by omega) rfl dX5_dynamic_71 (fun H locs hP hD hS => ?_)
              refine lv_aload_n hx hb dX5_dynamic_72 rfl (lv_at hl 0 rfl) ?_
              refine va_get (D := D) (ci := 7) (v := .ref (h 24)) (C := RX5) (T := TX5) (N := 27) hx hb hts inX5 hown hK hP 0 rfl rfl 24 (by decide) (hts _ wF_X5_65) (fun _ h9 => h9) rfl dX5_dynamic_73 ?_
              refine lv_aload_n hx hb dX5_dynamic_76 rfl (lv_at hl 0 rfl) ?_
              refine va_get (D := D) (ci := 7) (v := .int (nI wt)) (C := RX5) (T := TX5) (N := 27) hx hb hts inX5 hown hK hP 0 rfl rfl 21 (by decide) (hts _ wF_X5_94) (fun _ h9 => h9) rfl dX5_dynamic_77 ?_
              refine lv_iload_n hx hb dX5_dynamic_80 rfl (lv_at hl 3 rfl) ?_
              refine k_iast (D := D) (f := Y 24) (ws' := mw h cI cZ sl mi n (sX (sX (sX Y 22 wt x) 23 wt di) 24 wt ln) 0 fr wt cy) hx hb hK hP hD hS 19 0 rfl rfl wt rfl (by omega) (by omega) rfl dX5_dynamic_81 (fun H locs hP hD hS => ?_)
              refine lv_aload_n hx hb dX5_dynamic_82 rfl (lv_at hl 0 rfl) ?_
              refine lv_dup hx hb dX5_dynamic_83 rfl ?_
              refine va_get (D := D) (ci := 7) (v := .int (nI wt)) (C := RX5) (T := TX5) (N := 27) hx hb hts inX5 hown hK hP 0 rfl rfl 21 (by decide) (hts _ wF_X5_94) (fun _ h9 => h9) rfl dX5_dynamic_84 ?_
              refine lv_iconst (v := 1) hx hb dX5_dynamic_87 (by decide) ?_
              refine k_iadd hx hb wt 1 rfl rfl dX5_dynamic_88 ?_
              refine k_put (D := D) (ci := 7) (v := .int (nI (wt + 1))) (ty := .int) (C := RX5) (T := TX5) (N := 27) (ws' := mw h cI cZ sl mi n (sX (sX (sX Y 22 wt x) 23 wt di) 24 wt ln) 0 fr (wt + 1) cy) hx hb hts inX5 tyX5 tyX5_ok nmX5 hown hK hP hD hS 0 rfl rfl 21 (by decide) (hts _ wF_X5_94) (fun _ h9 => h9) rfl (by decide +kernel) rfl rfl (Nat.le_of_ble_eq_true rfl) rfl dX5_dynamic_89 (fun H locs hP hD hS => ?_)
              refine lv_aload_n hx hb dX5_dynamic_92 rfl (lv_at hl 0 rfl) ?_
              refine va_get (D := D) (ci := 7) (v := .int (nI (wt + 1))) (C := RX5) (T := TX5) (N := 27) hx hb hts inX5 hown hK hP 0 rfl rfl 21 (by decide) (hts _ wF_X5_94) (fun _ h9 => h9) rfl dX5_dynamic_93 ?_
              exact ret _ (sX (sX (sX Y 22 wt x) 23 wt di) 24 wt ln, wt + 1) _ _ _ _ dX5_dynamic_96 hP hD hS (Or.inr (Or.inr (Or.inr ⟨c10, hrg, by omega, rfl, rfl⟩)))
            · skip
              refine lv_bipush (v := (-4)) hx hb dX5_dynamic_49 (by decide) ?_
              exact ret _ (Y, wt) _ _ _ _ dX5_dynamic_51 hP hD hS (Or.inr (Or.inr (Or.inl ⟨c10, hrg, by omega, rfl, rfl⟩)))
          · skip
            refine lv_bipush (v := (-2)) hx hb dX5_dynamic_37 (by decide) ?_
            exact ret _ (Y, wt) _ _ _ _ dX5_dynamic_39 hP hD hS (Or.inr (Or.inl ⟨c10, (by first | exact fun z => absurd z.1.1 (i32_nlt c17) | exact fun z => absurd z.1.2 (i32_nlt c23) | exact fun z => absurd z.2.1 (i32_nlt c28) | exact fun z => c34 z.2.2), rfl, rfl⟩))
  · skip
    refine lv_iconst (v := (-1)) hx hb dX5_dynamic_13 (by decide) ?_
    exact ret _ (Y, wt) _ _ _ _ dX5_dynamic_14 hP hD hS (Or.inl ⟨c10, rfl, rfl⟩)
set_option maxHeartbeats 4000000 in
set_option maxRecDepth 100000 in
theorem c_X5_frame {l : Launch} {D : va_G} {cI cZ cL : ClassId} {h : Nat → Nat} {sl mi n : Nat} {Y : Nat → Nat → Int32} {th fr wt cy : Nat} (hn : n ≤ 16) (hs1 : 1 ≤ sl) (hsl : sl ≤ 60) (hs : fr ≤ 100) (hE : ∀ i, i < fr → isEv (Y 20 i)) (x q ch ba ev : Int32) : KI l yX5_frame (.code yX5_frame cX5_frame 9 (some .int)) 1 D (tyz cI cZ cL) [.ref (h 0), .int x, .int q, .int ch, .int ba, .int ev] (mw h cI cZ sl mi n Y th fr wt cy) (fun r u => (¬ (inR x 1 n ∧ inR q 0 (sl - 1)) ∧ r = -1 ∧ u = (Y, fr)) ∨ ((inR x 1 n ∧ inR q 0 (sl - 1)) ∧ ¬ ((1 ≤ ch ∧ ch ≤ 3) ∧ isEv ev ∧ 0 ≤ ba ∧ ba < ev) ∧ r = -2 ∧ u = (Y, fr)) ∨ ((inR x 1 n ∧ inR q 0 (sl - 1)) ∧ ((1 ≤ ch ∧ ch ≤ 3) ∧ isEv ev ∧ 0 ≤ ba ∧ ba < ev) ∧ (∃ i, i < fr ∧ ClR (Y 17) (Y 18) (Y 19) (Y 20) q ch ba ev i) ∧ r = -3 ∧ u = (Y, fr)) ∨ ((inR x 1 n ∧ inR q 0 (sl - 1)) ∧ ((1 ≤ ch ∧ ch ≤ 3) ∧ isEv ev ∧ 0 ≤ ba ∧ ba < ev) ∧ (∀ i, i < fr → ¬ ClR (Y 17) (Y 18) (Y 19) (Y 20) q ch ba ev i) ∧ 100 ≤ fr ∧ r = -4 ∧ u = (Y, fr)) ∨ ((inR x 1 n ∧ inR q 0 (sl - 1)) ∧ ((1 ≤ ch ∧ ch ≤ 3) ∧ isEv ev ∧ 0 ≤ ba ∧ ba < ev) ∧ (∀ i, i < fr → ¬ ClR (Y 17) (Y 18) (Y 19) (Y 20) q ch ba ev i) ∧ fr < 100 ∧ r = nI (fr + 1) ∧ u = (sX (sX (sX (sX (sX Y 16 fr x) 17 fr q) 18 fr ch) 19 fr ba) 20 fr ev, fr + 1))) (fun u : (Nat → Nat → Int32) × Nat => mw h cI cZ sl mi n u.1 0 u.2 wt cy) := by
  refine KI.of (own := RX5) (lvs := [(0, .ref (h 0)), (1, .int x), (2, .int q), (3, .int ch), (4, .int ba), (5, .int ev)]) (by decide) rfl (Nat.le_of_ble_eq_true rfl) rfl ?_
  intro p e s m args below meth c Q C hK hN A hA hP hD hS ret ls hl
  obtain ⟨hx, hb, hml, hown, hts, hr9, hlk9⟩ := id C
  refine lv_aload_n hx hb dX5_frame_0 rfl (lv_at hl 0 rfl) ?_
  refine lv_iconst (v := 0) hx hb dX5_frame_1 (by decide) ?_
  refine k_put (D := D) (ci := 7) (v := .int (nI 0)) (ty := .int) (C := RX5) (T := TX5) (N := 27) (ws' := mw h cI cZ sl mi n Y 0 fr wt cy) hx hb hts inX5 tyX5 tyX5_ok nmX5 hown hK hP hD hS 0 rfl rfl 0 (by decide) (hts _ wF_X5_81) (fun _ h9 => h9) rfl (by decide +kernel) rfl rfl (Nat.le_of_ble_eq_true rfl) rfl dX5_frame_2 (fun H locs hP hD hS => ?_)
  refine lv_aload_n hx hb dX5_frame_5 rfl (lv_at hl 0 rfl) ?_
  refine lv_iload_n hx hb dX5_frame_6 rfl (lv_at hl 1 rfl) ?_
  refine k_callR (D := D) C hK hN hP hD (c_X5_isNode hn x) hl cf_yX5_isNode wM_X5_84 0 7 rfl rfl rfl rfl (Nat.le_of_ble_eq_true rfl) ⟨by decide, by decide⟩ ⟨Nat.zero_le _, Nat.zero_le _⟩ dX5_frame_7 (fun r7 hr7 => ?_)
  have hr7 : r7 = (if inR x 1 n then 1 else 0) := hr7
  subst hr7
  refine k_ifeq_P (P := (inR x 1 n)) (tgt := 21) hx hb rfl dX5_frame_10 (by decide) (fun c10 => ?_) (fun c10 => ?_)
  · skip
    refine lv_iconst (v := (-1)) hx hb dX5_frame_21 (by decide) ?_
    exact ret _ (Y, fr) _ _ _ _ dX5_frame_22 hP hD hS (Or.inl ⟨(by first | exact fun z => c10 z.1 | exact fun z => c18 z.2), rfl, rfl⟩)
  · skip
    refine lv_aload_n hx hb dX5_frame_13 rfl (lv_at hl 0 rfl) ?_
    refine lv_iload_n hx hb dX5_frame_14 rfl (lv_at hl 2 rfl) ?_
    refine k_callR (D := D) C hK hN hP hD (c_X5_isSlot hs1 hsl q) hl cf_yX5_isSlot wM_X5_88 0 7 rfl rfl rfl rfl (Nat.le_of_ble_eq_true rfl) ⟨by decide, by decide⟩ ⟨Nat.zero_le _, Nat.zero_le _⟩ dX5_frame_15 (fun r15 hr15 => ?_)
    have hr15 : r15 = (if inR q 0 (sl - 1) then 1 else 0) := hr15
    subst hr15
    refine k_ifne_P (P := (inR q 0 (sl - 1))) (tgt := 23) hx hb rfl dX5_frame_18 (by decide) (fun c18 => ?_) (fun c18 => ?_)
    · skip
      have L74 : ∀ (pd : Int32) (ls : Array Slot), (pd = if isEv ev then 1 else 0) → (lv_has ls 9 [(0, .ref (h 0)), (1, .int x), (2, .int q), (3, .int ch), (4, .int ba), (5, .int ev)]) → W p l e (rmK 1) s m args below meth c H locs 0 0 Q (F0 m 74 ls [.int pd]) := by
        intro pd ls hpd hl
        subst hpd
        refine lv_istore (lv' := [(6, .int (if isEv ev then 1 else 0)), (0, .ref (h 0)), (1, .int x), (2, .int q), (3, .int ch), (4, .int ba), (5, .int ev)]) hx hb dX5_frame_74 hl (by decide) rfl (fun ls hl => ?_)
        refine lv_iload_n hx hb dX5_frame_76 rfl (lv_at hl 4 rfl) ?_
        refine lv_iconst (v := 1) hx hb dX5_frame_77 (by decide) ?_
        refine lv_icmp_lt (tgt := 103) hx hb dX5_frame_78 (by decide) (fun c78 => ?_) (fun c78 => ?_)
        · skip
          refine lv_bipush (v := (-2)) hx hb dX5_frame_103 (by decide) ?_
          exact ret _ (Y, fr) _ _ _ _ dX5_frame_105 hP hD hS (Or.inr (Or.inl ⟨⟨c10, c18⟩, (by first | exact fun z => absurd z.1.1 (i32_nlt c78) | exact fun z => absurd z.1.2 (i32_nlt c83) | exact fun z => c88 z.2.1 | exact fun z => absurd z.2.2.1 (i32_nlt c93) | exact fun z => c100 z.2.2.2), rfl, rfl⟩))
        · skip
          refine lv_iload_n hx hb dX5_frame_81 rfl (lv_at hl 4 rfl) ?_
          refine lv_iconst (v := 3) hx hb dX5_frame_82 (by decide) ?_
          refine lv_icmp_gt (tgt := 103) hx hb dX5_frame_83 (by decide) (fun c83 => ?_) (fun c83 => ?_)
          · skip
            refine lv_bipush (v := (-2)) hx hb dX5_frame_103 (by decide) ?_
            exact ret _ (Y, fr) _ _ _ _ dX5_frame_105 hP hD hS (Or.inr (Or.inl ⟨⟨c10, c18⟩, (by first | exact fun z => absurd z.1.1 (i32_nlt c78) | exact fun z => absurd z.1.2 (i32_nlt c83) | exact fun z => c88 z.2.1 | exact fun z => absurd z.2.2.1 (i32_nlt c93) | exact fun z => c100 z.2.2.2), rfl, rfl⟩))
          · skip
            refine lv_iload hx hb dX5_frame_86 (lv_at hl 0 rfl) ?_
            refine k_ifeq_P (P := (isEv ev)) (tgt := 103) hx hb rfl dX5_frame_88 (by decide) (fun c88 => ?_) (fun c88 => ?_)
            · skip
              refine lv_bipush (v := (-2)) hx hb dX5_frame_103 (by decide) ?_
              exact ret _ (Y, fr) _ _ _ _ dX5_frame_105 hP hD hS (Or.inr (Or.inl ⟨⟨c10, c18⟩, (by first | exact fun z => absurd z.1.1 (i32_nlt c78) | exact fun z => absurd z.1.2 (i32_nlt c83) | exact fun z => c88 z.2.1 | exact fun z => absurd z.2.2.1 (i32_nlt c93) | exact fun z => c100 z.2.2.2), rfl, rfl⟩))
            · skip
              refine lv_iload hx hb dX5_frame_91 (lv_at hl 5 rfl) ?_
              refine lv_if_lt (tgt := 103) hx hb dX5_frame_93 (by decide) (fun c93 => ?_) (fun c93 => ?_)
              · skip
                refine lv_bipush (v := (-2)) hx hb dX5_frame_103 (by decide) ?_
                exact ret _ (Y, fr) _ _ _ _ dX5_frame_105 hP hD hS (Or.inr (Or.inl ⟨⟨c10, c18⟩, (by first | exact fun z => absurd z.1.1 (i32_nlt c78) | exact fun z => absurd z.1.2 (i32_nlt c83) | exact fun z => c88 z.2.1 | exact fun z => absurd z.2.2.1 (i32_nlt c93) | exact fun z => c100 z.2.2.2), rfl, rfl⟩))
              · skip
                refine lv_iload hx hb dX5_frame_96 (lv_at hl 5 rfl) ?_
                refine lv_iload hx hb dX5_frame_98 (lv_at hl 6 rfl) ?_
                refine lv_icmp_lt (tgt := 106) hx hb dX5_frame_100 (by decide) (fun c100 => ?_) (fun c100 => ?_)
                · skip
                  have hk2 : ((1 ≤ ch ∧ ch ≤ 3) ∧ isEv ev ∧ 0 ≤ ba ∧ ba < ev) := ⟨⟨Int32.not_lt.mp c78, Int32.not_lt.mp c83⟩, c88, Int32.not_lt.mp c93, c100⟩
                  refine lv_iconst (v := 0) hx hb dX5_frame_106 (by decide) ?_
                  refine lv_istore (lv' := [(7, .int 0), (6, .int (if isEv ev then 1 else 0)), (0, .ref (h 0)), (1, .int x), (2, .int q), (3, .int ch), (4, .int ba), (5, .int ev)]) hx hb dX5_frame_107 hl (by decide) rfl (fun ls hl => ?_)
                  have L109 : ∀ (kf : Nat) (i : Nat) (ls : Array Slot), (fr - i < kf) → (i ≤ fr) → (∀ j, j < i → ¬ ClR (Y 17) (Y 18) (Y 19) (Y 20) q ch ba ev j) → (lv_has ls 9 [(0, .ref (h 0)), (1, .int x), (2, .int q), (3, .int ch), (4, .int ba), (5, .int ev), (7, .int (nI i))]) → W p l e (rmK 1) s m args below meth c H locs 0 0 Q (F0 m 109 ls []) := by
                    intro kf
                    induction kf with
                    | zero =>
                      intro i ls hm
                      exact absurd hm (Nat.not_lt_zero _)
                    | succ kf ih109 =>
                      intro i ls hm h2 h3 hl
                      refine lv_iload hx hb dX5_frame_109 (lv_at hl 6 rfl) ?_
                      refine lv_aload_n hx hb dX5_frame_111 rfl (lv_at hl 0 rfl) ?_
                      refine va_get (D := D) (ci := 7) (v := .int (nI fr)) (C := RX5) (T := TX5) (N := 27) hx hb hts inX5 hown hK hP 0 rfl rfl 15 (by decide) (hts _ wF_X5_91) (fun _ h9 => h9) rfl dX5_frame_112 ?_
                      refine k_icmp_ge (tgt := 194) hx hb i fr rfl rfl (by omega) (by omega) dX5_frame_115 (by decide) (fun c115 => ?_) (fun c115 => ?_)
                      · skip
                        refine lv_aload_n hx hb dX5_frame_194 rfl (lv_at hl 0 rfl) ?_
                        refine va_get (D := D) (ci := 7) (v := .int (nI fr)) (C := RX5) (T := TX5) (N := 27) hx hb hts inX5 hown hK hP 0 rfl rfl 15 (by decide) (hts _ wF_X5_91) (fun _ h9 => h9) rfl dX5_frame_195 ?_
                        refine lv_bipush (v := 100) hx hb dX5_frame_198 (by decide) ?_
                        refine k_icmp_ne (tgt := 206) hx hb fr 100 rfl rfl (by omega) (by omega) dX5_frame_200 (by decide) (fun c200 => ?_) (fun c200 => ?_)
                        · skip
                          refine lv_aload_n hx hb dX5_frame_206 rfl (lv_at hl 0 rfl) ?_
                          refine va_get (D := D) (ci := 7) (v := .ref (h 16)) (C := RX5) (T := TX5) (N := 27) hx hb hts inX5 hown hK hP 0 rfl rfl 16 (by decide) (hts _ wF_X5_44) (fun _ h9 => h9) rfl dX5_frame_207 ?_
                          refine lv_aload_n hx hb dX5_frame_210 rfl (lv_at hl 0 rfl) ?_
                          refine va_get (D := D) (ci := 7) (v := .int (nI fr)) (C := RX5) (T := TX5) (N := 27) hx hb hts inX5 hown hK hP 0 rfl rfl 15 (by decide) (hts _ wF_X5_91) (fun _ h9 => h9) rfl dX5_frame_211 ?_
                          refine lv_iload_n hx hb dX5_frame_214 rfl (lv_at hl 1 rfl) ?_
                          refine k_iast (D := D) (f := Y 16) (ws' := mw h cI cZ sl mi n (sX Y 16 fr x) 0 fr wt cy) hx hb hK hP hD hS 12 0 rfl rfl fr rfl (by omega) (by omega) rfl dX5_frame_215 (fun H locs hP hD hS => ?_)
                          refine lv_aload_n hx hb dX5_frame_216 rfl (lv_at hl 0 rfl) ?_
                          refine va_get (D := D) (ci := 7) (v := .ref (h 17)) (C := RX5) (T := TX5) (N := 27) hx hb hts inX5 hown hK hP 0 rfl rfl 17 (by decide) (hts _ wF_X5_47) (fun _ h9 => h9) rfl dX5_frame_217 ?_
                          refine lv_aload_n hx hb dX5_frame_220 rfl (lv_at hl 0 rfl) ?_
                          refine va_get (D := D) (ci := 7) (v := .int (nI fr)) (C := RX5) (T := TX5) (N := 27) hx hb hts inX5 hown hK hP 0 rfl rfl 15 (by decide) (hts _ wF_X5_91) (fun _ h9 => h9) rfl dX5_frame_221 ?_
                          refine lv_iload_n hx hb dX5_frame_224 rfl (lv_at hl 2 rfl) ?_
                          refine k_iast (D := D) (f := Y 17) (ws' := mw h cI cZ sl mi n (sX (sX Y 16 fr x) 17 fr q) 0 fr wt cy) hx hb hK hP hD hS 13 0 rfl rfl fr rfl (by omega) (by omega) rfl dX5_frame_225 (fun H locs hP hD hS => ?_)
                          refine lv_aload_n hx hb dX5_frame_226 rfl (lv_at hl 0 rfl) ?_
                          refine va_get (D := D) (ci := 7) (v := .ref (h 18)) (C := RX5) (T := TX5) (N := 27) hx hb hts inX5 hown hK hP 0 rfl rfl 18 (by decide) (hts _ wF_X5_50) (fun _ h9 => h9) rfl dX5_frame_227 ?_
                          refine lv_aload_n hx hb dX5_frame_230 rfl (lv_at hl 0 rfl) ?_
                          refine va_get (D := D) (ci := 7) (v := .int (nI fr)) (C := RX5) (T := TX5) (N := 27) hx hb hts inX5 hown hK hP 0 rfl rfl 15 (by decide) (hts _ wF_X5_91) (fun _ h9 => h9) rfl dX5_frame_231 ?_
                          refine lv_iload_n hx hb dX5_frame_234 rfl (lv_at hl 3 rfl) ?_
                          refine k_iast (D := D) (f := Y 18) (ws' := mw h cI cZ sl mi n (sX (sX (sX Y 16 fr x) 17 fr q) 18 fr ch) 0 fr wt cy) hx hb hK hP hD hS 14 0 rfl rfl fr rfl (by omega) (by omega) rfl dX5_frame_235 (fun H locs hP hD hS => ?_)
                          refine lv_aload_n hx hb dX5_frame_236 rfl (lv_at hl 0 rfl) ?_
                          refine va_get (D := D) (ci := 7) (v := .ref (h 19)) (C := RX5) (T := TX5) (N := 27) hx hb hts inX5 hown hK hP 0 rfl rfl 19 (by decide) (hts _ wF_X5_53) (fun _ h9 => h9) rfl dX5_frame_237 ?_
                          refine lv_aload_n hx hb dX5_frame_240 rfl (lv_at hl 0 rfl) ?_
                          refine va_get (D := D) (ci := 7) (v := .int (nI fr)) (C := RX5) (T := TX5) (N := 27) hx hb hts inX5 hown hK hP 0 rfl rfl 15 (by decide) (hts _ wF_X5_91) (fun _ h9 => h9) rfl dX5_frame_241 ?_
                          refine lv_iload hx hb dX5_frame_244 (lv_at hl 4 rfl) ?_
                          refine k_iast (D := D) (f := Y 19) (ws' := mw h cI cZ sl mi n (sX (sX (sX (sX Y 16 fr x) 17 fr q) 18 fr ch) 19 fr ba) 0 fr wt cy) hx hb hK hP hD hS 15 0 rfl rfl fr rfl (by omega) (by omega) rfl dX5_frame_246 (fun H locs hP hD hS => ?_)
                          refine lv_aload_n hx hb dX5_frame_247 rfl (lv_at hl 0 rfl) ?_
                          refine va_get (D := D) (ci := 7) (v := .ref (h 20)) (C := RX5) (T := TX5) (N := 27) hx hb hts inX5 hown hK hP 0 rfl rfl 20 (by decide) (hts _ wF_X5_56) (fun _ h9 => h9) rfl dX5_frame_248 ?_
                          refine lv_aload_n hx hb dX5_frame_251 rfl (lv_at hl 0 rfl) ?_
                          refine va_get (D := D) (ci := 7) (v := .int (nI fr)) (C := RX5) (T := TX5) (N := 27) hx hb hts inX5 hown hK hP 0 rfl rfl 15 (by decide) (hts _ wF_X5_91) (fun _ h9 => h9) rfl dX5_frame_252 ?_
                          refine lv_iload hx hb dX5_frame_255 (lv_at hl 5 rfl) ?_
                          refine k_iast (D := D) (f := Y 20) (ws' := mw h cI cZ sl mi n (sX (sX (sX (sX (sX Y 16 fr x) 17 fr q) 18 fr ch) 19 fr ba) 20 fr ev) 0 fr wt cy) hx hb hK hP hD hS 16 0 rfl rfl fr rfl (by omega) (by omega) rfl dX5_frame_257 (fun H locs hP hD hS => ?_)
                          refine lv_aload_n hx hb dX5_frame_258 rfl (lv_at hl 0 rfl) ?_
                          refine lv_dup hx hb dX5_frame_259 rfl ?_
                          refine va_get (D := D) (ci := 7) (v := .int (nI fr)) (C := RX5) (T := TX5) (N := 27) hx hb hts inX5 hown hK hP 0 rfl rfl 15 (by decide) (hts _ wF_X5_91) (fun _ h9 => h9) rfl dX5_frame_260 ?_
                          refine lv_iconst (v := 1) hx hb dX5_frame_263 (by decide) ?_
                          refine k_iadd hx hb fr 1 rfl rfl dX5_frame_264 ?_
                          refine k_put (D := D) (ci := 7) (v := .int (nI (fr + 1))) (ty := .int) (C := RX5) (T := TX5) (N := 27) (ws' := mw h cI cZ sl mi n (sX (sX (sX (sX (sX Y 16 fr x) 17 fr q) 18 fr ch) 19 fr ba) 20 fr ev) 0 (fr + 1) wt cy) hx hb hts inX5 tyX5 tyX5_ok nmX5 hown hK hP hD hS 0 rfl rfl 15 (by decide) (hts _ wF_X5_91) (fun _ h9 => h9) rfl (by decide +kernel) rfl rfl (Nat.le_of_ble_eq_true rfl) rfl dX5_frame_265 (fun H locs hP hD hS => ?_)
                          refine lv_aload_n hx hb dX5_frame_268 rfl (lv_at hl 0 rfl) ?_
                          refine va_get (D := D) (ci := 7) (v := .int (nI (fr + 1))) (C := RX5) (T := TX5) (N := 27) hx hb hts inX5 hown hK hP 0 rfl rfl 15 (by decide) (hts _ wF_X5_91) (fun _ h9 => h9) rfl dX5_frame_269 ?_
                          exact ret _ (sX (sX (sX (sX (sX Y 16 fr x) 17 fr q) 18 fr ch) 19 fr ba) 20 fr ev, fr + 1) _ _ _ _ dX5_frame_272 hP hD hS (Or.inr (Or.inr (Or.inr (Or.inr ⟨⟨c10, c18⟩, hk2, (fun j b => h3 j (by omega)), by omega, rfl, rfl⟩))))
                        · skip
                          refine lv_bipush (v := (-4)) hx hb dX5_frame_203 (by decide) ?_
                          exact ret _ (Y, fr) _ _ _ _ dX5_frame_205 hP hD hS (Or.inr (Or.inr (Or.inr (Or.inl ⟨⟨c10, c18⟩, hk2, (fun j b => h3 j (by omega)), by omega, rfl, rfl⟩))))
                      · skip
                        have L142 : ∀ (lo : Int32) (ls : Array Slot), (lo = (if Y 20 i ≤ ev then Y 20 i else ev)) → (lv_has ls 9 [(0, .ref (h 0)), (1, .int x), (2, .int q), (3, .int ch), (4, .int ba), (5, .int ev), (7, .int (nI i))]) → W p l e (rmK 1) s m args below meth c H locs 0 0 Q (F0 m 142 ls [.int lo]) := by
                          intro lo ls hlo hl
                          have hl0 : ¬ lo = 0 := by
                            rw [hlo]
                            split
                            · exact ev_ne (hE i c115)
                            · exact ev_ne c88
                          refine lv_istore (lv' := [(8, .int lo), (0, .ref (h 0)), (1, .int x), (2, .int q), (3, .int ch), (4, .int ba), (5, .int ev), (7, .int (nI i))]) hx hb dX5_frame_142 hl (by decide) rfl (fun ls hl => ?_)
                          refine lv_aload_n hx hb dX5_frame_144 rfl (lv_at hl 1 rfl) ?_
                          refine va_get (D := D) (ci := 7) (v := .ref (h 17)) (C := RX5) (T := TX5) (N := 27) hx hb hts inX5 hown hK hP 0 rfl rfl 17 (by decide) (hts _ wF_X5_47) (fun _ h9 => h9) rfl dX5_frame_145 ?_
                          refine lv_iload hx hb dX5_frame_148 (lv_at hl 7 rfl) ?_
                          refine k_iald (D := D) (f := Y 17) hx hb hK hP 13 0 rfl rfl i rfl (by omega) (by omega) dX5_frame_150 ?_
                          refine lv_iload_n hx hb dX5_frame_151 rfl (lv_at hl 3 rfl) ?_
                          refine lv_icmp_ne (tgt := 188) hx hb dX5_frame_152 (by decide) (fun c152 => ?_) (fun c152 => ?_)
                          · skip
                            refine k_iinc (k := 7) (lv' := [(7, .int (nI (i + 1))), (8, .int lo), (0, .ref (h 0)), (1, .int x), (2, .int q), (3, .int ch), (4, .int ba), (5, .int ev)]) hx hb i rfl dX5_frame_188 hl rfl (by decide) rfl (fun ls hl => ?_)
                            refine lv_goto (tgt := 109) hx hb dX5_frame_191 (by decide) ?_
                            exact ih109 (i + 1) _ (by omega) (by omega) (fun j b => if e : j = i then (by subst e; subst hlo; first | exact fun z => c152 z.1.1 | exact fun z => z.1.2 c164 | exact fun z => c182 z.2) else h3 j (by omega)) (lv_sub hl [2, 3, 4, 5, 6, 7, 0] rfl)
                          · skip
                            refine lv_aload_n hx hb dX5_frame_155 rfl (lv_at hl 1 rfl) ?_
                            refine va_get (D := D) (ci := 7) (v := .ref (h 18)) (C := RX5) (T := TX5) (N := 27) hx hb hts inX5 hown hK hP 0 rfl rfl 18 (by decide) (hts _ wF_X5_50) (fun _ h9 => h9) rfl dX5_frame_156 ?_
                            refine lv_iload hx hb dX5_frame_159 (lv_at hl 7 rfl) ?_
                            refine k_iald (D := D) (f := Y 18) hx hb hK hP 14 0 rfl rfl i rfl (by omega) (by omega) dX5_frame_161 ?_
                            refine lv_iload_n hx hb dX5_frame_162 rfl (lv_at hl 4 rfl) ?_
                            refine lv_iand hx hb dX5_frame_163 ?_
                            refine lv_if_eq (tgt := 188) hx hb dX5_frame_164 (by decide) (fun c164 => ?_) (fun c164 => ?_)
                            · skip
                              refine k_iinc (k := 7) (lv' := [(7, .int (nI (i + 1))), (8, .int lo), (0, .ref (h 0)), (1, .int x), (2, .int q), (3, .int ch), (4, .int ba), (5, .int ev)]) hx hb i rfl dX5_frame_188 hl rfl (by decide) rfl (fun ls hl => ?_)
                              refine lv_goto (tgt := 109) hx hb dX5_frame_191 (by decide) ?_
                              exact ih109 (i + 1) _ (by omega) (by omega) (fun j b => if e : j = i then (by subst e; subst hlo; first | exact fun z => c152 z.1.1 | exact fun z => z.1.2 c164 | exact fun z => c182 z.2) else h3 j (by omega)) (lv_sub hl [2, 3, 4, 5, 6, 7, 0] rfl)
                            · skip
                              refine lv_iload hx hb dX5_frame_167 (lv_at hl 5 rfl) ?_
                              refine lv_iload hx hb dX5_frame_169 (lv_at hl 0 rfl) ?_
                              refine lv_irem hx hb dX5_frame_171 hl0 ?_
                              refine lv_aload_n hx hb dX5_frame_172 rfl (lv_at hl 1 rfl) ?_
                              refine va_get (D := D) (ci := 7) (v := .ref (h 19)) (C := RX5) (T := TX5) (N := 27) hx hb hts inX5 hown hK hP 0 rfl rfl 19 (by decide) (hts _ wF_X5_53) (fun _ h9 => h9) rfl dX5_frame_173 ?_
                              refine lv_iload hx hb dX5_frame_176 (lv_at hl 7 rfl) ?_
                              refine k_iald (D := D) (f := Y 19) hx hb hK hP 15 0 rfl rfl i rfl (by omega) (by omega) dX5_frame_178 ?_
                              refine lv_iload hx hb dX5_frame_179 (lv_at hl 0 rfl) ?_
                              refine lv_irem hx hb dX5_frame_181 hl0 ?_
                              refine lv_icmp_ne (tgt := 188) hx hb dX5_frame_182 (by decide) (fun c182 => ?_) (fun c182 => ?_)
                              · skip
                                refine k_iinc (k := 7) (lv' := [(7, .int (nI (i + 1))), (8, .int lo), (0, .ref (h 0)), (1, .int x), (2, .int q), (3, .int ch), (4, .int ba), (5, .int ev)]) hx hb i rfl dX5_frame_188 hl rfl (by decide) rfl (fun ls hl => ?_)
                                refine lv_goto (tgt := 109) hx hb dX5_frame_191 (by decide) ?_
                                exact ih109 (i + 1) _ (by omega) (by omega) (fun j b => if e : j = i then (by subst e; subst hlo; first | exact fun z => c152 z.1.1 | exact fun z => z.1.2 c164 | exact fun z => c182 z.2) else h3 j (by omega)) (lv_sub hl [2, 3, 4, 5, 6, 7, 0] rfl)
                              · skip
                                refine lv_bipush (v := (-3)) hx hb dX5_frame_185 (by decide) ?_
                                exact ret _ (Y, fr) _ _ _ _ dX5_frame_187 hP hD hS (Or.inr (Or.inr (Or.inl ⟨⟨c10, c18⟩, hk2, ⟨i, c115, ⟨c152, c164⟩, (by subst hlo; exact c182)⟩, rfl, rfl⟩)))
                        refine lv_iload hx hb dX5_frame_118 (lv_at hl 5 rfl) ?_
                        refine lv_aload_n hx hb dX5_frame_120 rfl (lv_at hl 0 rfl) ?_
                        refine va_get (D := D) (ci := 7) (v := .ref (h 20)) (C := RX5) (T := TX5) (N := 27) hx hb hts inX5 hown hK hP 0 rfl rfl 20 (by decide) (hts _ wF_X5_56) (fun _ h9 => h9) rfl dX5_frame_121 ?_
                        refine lv_iload hx hb dX5_frame_124 (lv_at hl 6 rfl) ?_
                        refine k_iald (D := D) (f := Y 20) hx hb hK hP 16 0 rfl rfl i rfl (by omega) (by omega) dX5_frame_126 ?_
                        refine lv_icmp_ge (tgt := 135) hx hb dX5_frame_127 (by decide) (fun c127 => ?_) (fun c127 => ?_)
                        · skip
                          refine lv_aload_n hx hb dX5_frame_135 rfl (lv_at hl 0 rfl) ?_
                          refine va_get (D := D) (ci := 7) (v := .ref (h 20)) (C := RX5) (T := TX5) (N := 27) hx hb hts inX5 hown hK hP 0 rfl rfl 20 (by decide) (hts _ wF_X5_56) (fun _ h9 => h9) rfl dX5_frame_136 ?_
                          refine lv_iload hx hb dX5_frame_139 (lv_at hl 6 rfl) ?_
                          refine k_iald (D := D) (f := Y 20) hx hb hK hP 16 0 rfl rfl i rfl (by omega) (by omega) dX5_frame_141 ?_
                          exact L142 (Y 20 i) _ (by first | exact ite_p c127 | exact ite_n c127) (lv_sub hl [0, 1, 2, 3, 4, 5, 6] rfl)
                        · skip
                          refine lv_iload hx hb dX5_frame_130 (lv_at hl 5 rfl) ?_
                          refine lv_goto (tgt := 142) hx hb dX5_frame_132 (by decide) ?_
                          exact L142 ev _ (by first | exact ite_p c127 | exact ite_n c127) (lv_sub hl [0, 1, 2, 3, 4, 5, 6] rfl)
                  exact L109 ((fr - 0) + 1) 0 _ (Nat.lt_succ_self _) (Nat.zero_le _) (fun j b => absurd b (by omega)) (lv_sub hl [2, 3, 4, 5, 6, 7, 0] rfl)
                · skip
                  refine lv_bipush (v := (-2)) hx hb dX5_frame_103 (by decide) ?_
                  exact ret _ (Y, fr) _ _ _ _ dX5_frame_105 hP hD hS (Or.inr (Or.inl ⟨⟨c10, c18⟩, (by first | exact fun z => absurd z.1.1 (i32_nlt c78) | exact fun z => absurd z.1.2 (i32_nlt c83) | exact fun z => c88 z.2.1 | exact fun z => absurd z.2.2.1 (i32_nlt c93) | exact fun z => c100 z.2.2.2), rfl, rfl⟩))
      refine lv_iload hx hb dX5_frame_23 (lv_at hl 5 rfl) ?_
      refine lv_iconst (v := 1) hx hb dX5_frame_25 (by decide) ?_
      refine lv_icmp_eq (tgt := 69) hx hb dX5_frame_26 (by decide) (fun c26 => ?_) (fun c26 => ?_)
      · skip
        refine lv_iconst (v := 1) hx hb dX5_frame_69 (by decide) ?_
        refine lv_goto (tgt := 74) hx hb dX5_frame_70 (by decide) ?_
        exact L74 1 _ (by first | exact ite_p (Or.inl c26) | exact ite_p (Or.inr (Or.inl c32)) | exact ite_p (Or.inr (Or.inr (Or.inl c38))) | exact ite_p (Or.inr (Or.inr (Or.inr (Or.inl c45)))) | exact ite_p (Or.inr (Or.inr (Or.inr (Or.inr (Or.inl c52))))) | exact ite_p (Or.inr (Or.inr (Or.inr (Or.inr (Or.inr (Or.inl c59)))))) | exact ite_p (Or.inr (Or.inr (Or.inr (Or.inr (Or.inr (Or.inr c66)))))) | exact ite_n (fun z => by rcases z with z | z | z | z | z | z | z <;> contradiction)) (lv_sub hl [0, 1, 2, 3, 4, 5] rfl)
      · skip
        refine lv_iload hx hb dX5_frame_29 (lv_at hl 5 rfl) ?_
        refine lv_iconst (v := 2) hx hb dX5_frame_31 (by decide) ?_
        refine lv_icmp_eq (tgt := 69) hx hb dX5_frame_32 (by decide) (fun c32 => ?_) (fun c32 => ?_)
        · skip
          refine lv_iconst (v := 1) hx hb dX5_frame_69 (by decide) ?_
          refine lv_goto (tgt := 74) hx hb dX5_frame_70 (by decide) ?_
          exact L74 1 _ (by first | exact ite_p (Or.inl c26) | exact ite_p (Or.inr (Or.inl c32)) | exact ite_p (Or.inr (Or.inr (Or.inl c38))) | exact ite_p (Or.inr (Or.inr (Or.inr (Or.inl c45)))) | exact ite_p (Or.inr (Or.inr (Or.inr (Or.inr (Or.inl c52))))) | exact ite_p (Or.inr (Or.inr (Or.inr (Or.inr (Or.inr (Or.inl c59)))))) | exact ite_p (Or.inr (Or.inr (Or.inr (Or.inr (Or.inr (Or.inr c66)))))) | exact ite_n (fun z => by rcases z with z | z | z | z | z | z | z <;> contradiction)) (lv_sub hl [0, 1, 2, 3, 4, 5] rfl)
        · skip
          refine lv_iload hx hb dX5_frame_35 (lv_at hl 5 rfl) ?_
          refine lv_iconst (v := 4) hx hb dX5_frame_37 (by decide) ?_
          refine lv_icmp_eq (tgt := 69) hx hb dX5_frame_38 (by decide) (fun c38 => ?_) (fun c38 => ?_)
          · skip
            refine lv_iconst (v := 1) hx hb dX5_frame_69 (by decide) ?_
            refine lv_goto (tgt := 74) hx hb dX5_frame_70 (by decide) ?_
            exact L74 1 _ (by first | exact ite_p (Or.inl c26) | exact ite_p (Or.inr (Or.inl c32)) | exact ite_p (Or.inr (Or.inr (Or.inl c38))) | exact ite_p (Or.inr (Or.inr (Or.inr (Or.inl c45)))) | exact ite_p (Or.inr (Or.inr (Or.inr (Or.inr (Or.inl c52))))) | exact ite_p (Or.inr (Or.inr (Or.inr (Or.inr (Or.inr (Or.inl c59)))))) | exact ite_p (Or.inr (Or.inr (Or.inr (Or.inr (Or.inr (Or.inr c66)))))) | exact ite_n (fun z => by rcases z with z | z | z | z | z | z | z <;> contradiction)) (lv_sub hl [0, 1, 2, 3, 4, 5] rfl)
          · skip
            refine lv_iload hx hb dX5_frame_41 (lv_at hl 5 rfl) ?_
            refine lv_bipush (v := 8) hx hb dX5_frame_43 (by decide) ?_
            refine lv_icmp_eq (tgt := 69) hx hb dX5_frame_45 (by decide) (fun c45 => ?_) (fun c45 => ?_)
            · skip
              refine lv_iconst (v := 1) hx hb dX5_frame_69 (by decide) ?_
              refine lv_goto (tgt := 74) hx hb dX5_frame_70 (by decide) ?_
              exact L74 1 _ (by first | exact ite_p (Or.inl c26) | exact ite_p (Or.inr (Or.inl c32)) | exact ite_p (Or.inr (Or.inr (Or.inl c38))) | exact ite_p (Or.inr (Or.inr (Or.inr (Or.inl c45)))) | exact ite_p (Or.inr (Or.inr (Or.inr (Or.inr (Or.inl c52))))) | exact ite_p (Or.inr (Or.inr (Or.inr (Or.inr (Or.inr (Or.inl c59)))))) | exact ite_p (Or.inr (Or.inr (Or.inr (Or.inr (Or.inr (Or.inr c66)))))) | exact ite_n (fun z => by rcases z with z | z | z | z | z | z | z <;> contradiction)) (lv_sub hl [0, 1, 2, 3, 4, 5] rfl)
            · skip
              refine lv_iload hx hb dX5_frame_48 (lv_at hl 5 rfl) ?_
              refine lv_bipush (v := 16) hx hb dX5_frame_50 (by decide) ?_
              refine lv_icmp_eq (tgt := 69) hx hb dX5_frame_52 (by decide) (fun c52 => ?_) (fun c52 => ?_)
              · skip
                refine lv_iconst (v := 1) hx hb dX5_frame_69 (by decide) ?_
                refine lv_goto (tgt := 74) hx hb dX5_frame_70 (by decide) ?_
                exact L74 1 _ (by first | exact ite_p (Or.inl c26) | exact ite_p (Or.inr (Or.inl c32)) | exact ite_p (Or.inr (Or.inr (Or.inl c38))) | exact ite_p (Or.inr (Or.inr (Or.inr (Or.inl c45)))) | exact ite_p (Or.inr (Or.inr (Or.inr (Or.inr (Or.inl c52))))) | exact ite_p (Or.inr (Or.inr (Or.inr (Or.inr (Or.inr (Or.inl c59)))))) | exact ite_p (Or.inr (Or.inr (Or.inr (Or.inr (Or.inr (Or.inr c66)))))) | exact ite_n (fun z => by rcases z with z | z | z | z | z | z | z <;> contradiction)) (lv_sub hl [0, 1, 2, 3, 4, 5] rfl)
              · skip
                refine lv_iload hx hb dX5_frame_55 (lv_at hl 5 rfl) ?_
                refine lv_bipush (v := 32) hx hb dX5_frame_57 (by decide) ?_
                refine lv_icmp_eq (tgt := 69) hx hb dX5_frame_59 (by decide) (fun c59 => ?_) (fun c59 => ?_)
                · skip
                  refine lv_iconst (v := 1) hx hb dX5_frame_69 (by decide) ?_
                  refine lv_goto (tgt := 74) hx hb dX5_frame_70 (by decide) ?_
                  exact L74 1 _ (by first | exact ite_p (Or.inl c26) | exact ite_p (Or.inr (Or.inl c32)) | exact ite_p (Or.inr (Or.inr (Or.inl c38))) | exact ite_p (Or.inr (Or.inr (Or.inr (Or.inl c45)))) | exact ite_p (Or.inr (Or.inr (Or.inr (Or.inr (Or.inl c52))))) | exact ite_p (Or.inr (Or.inr (Or.inr (Or.inr (Or.inr (Or.inl c59)))))) | exact ite_p (Or.inr (Or.inr (Or.inr (Or.inr (Or.inr (Or.inr c66)))))) | exact ite_n (fun z => by rcases z with z | z | z | z | z | z | z <;> contradiction)) (lv_sub hl [0, 1, 2, 3, 4, 5] rfl)
                · skip
                  refine lv_iload hx hb dX5_frame_62 (lv_at hl 5 rfl) ?_
                  refine lv_bipush (v := 64) hx hb dX5_frame_64 (by decide) ?_
                  refine lv_icmp_ne (tgt := 73) hx hb dX5_frame_66 (by decide) (fun c66 => ?_) (fun c66 => ?_)
                  · skip
                    refine lv_iconst (v := 0) hx hb dX5_frame_73 (by decide) ?_
                    exact L74 0 _ (by first | exact ite_p (Or.inl c26) | exact ite_p (Or.inr (Or.inl c32)) | exact ite_p (Or.inr (Or.inr (Or.inl c38))) | exact ite_p (Or.inr (Or.inr (Or.inr (Or.inl c45)))) | exact ite_p (Or.inr (Or.inr (Or.inr (Or.inr (Or.inl c52))))) | exact ite_p (Or.inr (Or.inr (Or.inr (Or.inr (Or.inr (Or.inl c59)))))) | exact ite_p (Or.inr (Or.inr (Or.inr (Or.inr (Or.inr (Or.inr c66)))))) | exact ite_n (fun z => by rcases z with z | z | z | z | z | z | z <;> contradiction)) (lv_sub hl [0, 1, 2, 3, 4, 5] rfl)
                  · skip
                    refine lv_iconst (v := 1) hx hb dX5_frame_69 (by decide) ?_
                    refine lv_goto (tgt := 74) hx hb dX5_frame_70 (by decide) ?_
                    exact L74 1 _ (by first | exact ite_p (Or.inl c26) | exact ite_p (Or.inr (Or.inl c32)) | exact ite_p (Or.inr (Or.inr (Or.inl c38))) | exact ite_p (Or.inr (Or.inr (Or.inr (Or.inl c45)))) | exact ite_p (Or.inr (Or.inr (Or.inr (Or.inr (Or.inl c52))))) | exact ite_p (Or.inr (Or.inr (Or.inr (Or.inr (Or.inr (Or.inl c59)))))) | exact ite_p (Or.inr (Or.inr (Or.inr (Or.inr (Or.inr (Or.inr c66)))))) | exact ite_n (fun z => by rcases z with z | z | z | z | z | z | z <;> contradiction)) (lv_sub hl [0, 1, 2, 3, 4, 5] rfl)
    · skip
      refine lv_iconst (v := (-1)) hx hb dX5_frame_21 (by decide) ?_
      exact ret _ (Y, fr) _ _ _ _ dX5_frame_22 hP hD hS (Or.inl ⟨(by first | exact fun z => c10 z.1 | exact fun z => c18 z.2), rfl, rfl⟩)
set_option maxHeartbeats 4000000 in
set_option maxRecDepth 100000 in
theorem c_X5_place {l : Launch} {D : va_G} {cI cZ cL : ClassId} {h : Nat → Nat} {sl mi n : Nat} {Y : Nat → Nat → Int32} {th fr wt cy : Nat} (hs1 : 1 ≤ sl) (hsl : sl ≤ 60) (hs : fr ≤ 100) (hE : ∀ i, i < fr → isEv (Y 20 i)) (q cv : Int32) : KI l yX5_place (.code yX5_place cX5_place 7 (some .int)) 1 D (tyz cI cZ cL) [.ref (h 0), .int q, .int cv] (mw h cI cZ sl mi n Y th fr wt cy) (fun r u => (¬ (inR q 0 (sl - 1) ∧ inR cv 0 63) ∧ u = 1) ∨ ((inR q 0 (sl - 1) ∧ inR cv 0 63) ∧ u = 0 ∧ ∃ o1 o2 : Int32, ((o1 = 0 ∧ ∀ k, k < fr → ¬ ((Y 17 k = q ∧ rmd cv (Y 20 k) = Y 19 k) ∧ Y 18 k &&& 1 ≠ 0)) ∨ ∃ k, k < fr ∧ ((Y 17 k = q ∧ rmd cv (Y 20 k) = Y 19 k) ∧ Y 18 k &&& 1 ≠ 0) ∧ o1 = Y 16 k) ∧ ((o2 = 0 ∧ ∀ k, k < fr → ¬ ((Y 17 k = q ∧ rmd cv (Y 20 k) = Y 19 k) ∧ Y 18 k &&& 2 ≠ 0)) ∨ ∃ k, k < fr ∧ ((Y 17 k = q ∧ rmd cv (Y 20 k) = Y 19 k) ∧ Y 18 k &&& 2 ≠ 0) ∧ o2 = Y 16 k) ∧ r = if 0 < o1 then o1 else o2)) (fun u : Nat => mw h cI cZ sl mi n Y u fr wt cy) := by
  refine KI.of (own := RX5) (lvs := [(0, .ref (h 0)), (1, .int q), (2, .int cv)]) (by decide) rfl (Nat.le_of_ble_eq_true rfl) rfl ?_
  intro p e s m args below meth c Q C hK hN A hA hP hD hS ret ls hl
  obtain ⟨hx, hb, hml, hown, hts, hr9, hlk9⟩ := id C
  refine lv_aload_n hx hb dX5_place_0 rfl (lv_at hl 0 rfl) ?_
  have L24 : ∀ (t : Nat) (ls : Array Slot), (t = if (inR q 0 (sl - 1) ∧ inR cv 0 63) then 0 else 1) → (lv_has ls 7 [(0, .ref (h 0)), (1, .int q), (2, .int cv)]) → W p l e (rmK 1) s m args below meth c s.heap [] 0 0 Q (F0 m 24 ls [.int (nI t), .ref (h 0)]) := by
    intro t ls ht hl
    have ht1 : t ≤ 1 := by rw [ht]; split <;> omega
    refine k_put (D := D) (ci := 7) (v := .int (nI t)) (ty := .int) (C := RX5) (T := TX5) (N := 27) (ws' := mw h cI cZ sl mi n Y t fr wt cy) hx hb hts inX5 tyX5 tyX5_ok nmX5 hown hK hP hD hS 0 rfl rfl 0 (by decide) (hts _ wF_X5_81) (fun _ h9 => h9) rfl (by decide +kernel) rfl rfl (Nat.le_of_ble_eq_true rfl) rfl dX5_place_24 (fun H locs hP hD hS => ?_)
    refine lv_iconst (v := 0) hx hb dX5_place_27 (by decide) ?_
    refine lv_istore_n (lv' := [(3, .int 0), (0, .ref (h 0)), (1, .int q), (2, .int cv)]) hx hb dX5_place_28 rfl hl (by decide) rfl (fun ls hl => ?_)
    refine lv_iconst (v := 0) hx hb dX5_place_29 (by decide) ?_
    refine lv_istore (lv' := [(4, .int 0), (3, .int 0), (0, .ref (h 0)), (1, .int q), (2, .int cv)]) hx hb dX5_place_30 hl (by decide) rfl (fun ls hl => ?_)
    refine lv_iconst (v := 0) hx hb dX5_place_32 (by decide) ?_
    refine lv_istore (lv' := [(5, .int 0), (4, .int 0), (3, .int 0), (0, .ref (h 0)), (1, .int q), (2, .int cv)]) hx hb dX5_place_33 hl (by decide) rfl (fun ls hl => ?_)
    have L35 : ∀ (kf : Nat) (i : Nat) (o1 : Int32) (o2 : Int32) (ls : Array Slot), (fr - i < kf) → (i ≤ fr) → (((o1 = 0 ∧ ∀ k, k < i → ¬ ((Y 17 k = q ∧ rmd cv (Y 20 k) = Y 19 k) ∧ Y 18 k &&& 1 ≠ 0)) ∨ ∃ k, k < i ∧ ((Y 17 k = q ∧ rmd cv (Y 20 k) = Y 19 k) ∧ Y 18 k &&& 1 ≠ 0) ∧ o1 = Y 16 k)) → (((o2 = 0 ∧ ∀ k, k < i → ¬ ((Y 17 k = q ∧ rmd cv (Y 20 k) = Y 19 k) ∧ Y 18 k &&& 2 ≠ 0)) ∨ ∃ k, k < i ∧ ((Y 17 k = q ∧ rmd cv (Y 20 k) = Y 19 k) ∧ Y 18 k &&& 2 ≠ 0) ∧ o2 = Y 16 k)) → (lv_has ls 7 [(0, .ref (h 0)), (1, .int q), (2, .int cv), (3, .int o1), (4, .int o2), (5, .int (nI i))]) → W p l e (rmK 1) s m args below meth c H locs 0 0 Q (F0 m 35 ls []) := by
      intro kf
      induction kf with
      | zero =>
        intro i o1 o2 ls hm
        exact absurd hm (Nat.not_lt_zero _)
      | succ kf ih35 =>
        intro i o1 o2 ls hm h2 h3 h4 hl
        refine lv_iload hx hb dX5_place_35 (lv_at hl 5 rfl) ?_
        refine lv_aload_n hx hb dX5_place_37 rfl (lv_at hl 0 rfl) ?_
        refine va_get (D := D) (ci := 7) (v := .int (nI fr)) (C := RX5) (T := TX5) (N := 27) hx hb hts inX5 hown hK hP 0 rfl rfl 15 (by decide) (hts _ wF_X5_91) (fun _ h9 => h9) rfl dX5_place_38 ?_
        refine k_icmp_ge (tgt := 154) hx hb i fr rfl rfl (by omega) (by omega) dX5_place_41 (by decide) (fun c41 => ?_) (fun c41 => ?_)
        · skip
          refine lv_iload_n hx hb dX5_place_154 rfl (lv_at hl 3 rfl) ?_
          refine lv_if_le (tgt := 162) hx hb dX5_place_155 (by decide) (fun c155 => ?_) (fun c155 => ?_)
          · skip
            refine lv_iload hx hb dX5_place_162 (lv_at hl 4 rfl) ?_
            exact ret _ t _ _ _ _ dX5_place_164 hP hD hS (pl_ret (f1 := fun k => ((Y 17 k = q ∧ rmd cv (Y 20 k) = Y 19 k) ∧ Y 18 k &&& 1 ≠ 0)) (f2 := fun k => ((Y 17 k = q ∧ rmd cv (Y 20 k) = Y 19 k) ∧ Y 18 k &&& 2 ≠ 0)) ht (by first | exact Or.inr c48 | exact Or.inl (by omega)) h2 h3 h4 (by first | exact (if_neg (i32_nle c155)).symm | exact (if_pos (Int32.not_le.mp c155)).symm))
          · skip
            refine lv_iload_n hx hb dX5_place_158 rfl (lv_at hl 3 rfl) ?_
            refine lv_goto (tgt := 164) hx hb dX5_place_159 (by decide) ?_
            exact ret _ t _ _ _ _ dX5_place_164 hP hD hS (pl_ret (f1 := fun k => ((Y 17 k = q ∧ rmd cv (Y 20 k) = Y 19 k) ∧ Y 18 k &&& 1 ≠ 0)) (f2 := fun k => ((Y 17 k = q ∧ rmd cv (Y 20 k) = Y 19 k) ∧ Y 18 k &&& 2 ≠ 0)) ht (by first | exact Or.inr c48 | exact Or.inl (by omega)) h2 h3 h4 (by first | exact (if_neg (i32_nle c155)).symm | exact (if_pos (Int32.not_le.mp c155)).symm))
        · skip
          refine lv_aload_n hx hb dX5_place_44 rfl (lv_at hl 0 rfl) ?_
          refine va_get (D := D) (ci := 7) (v := .int (nI t)) (C := RX5) (T := TX5) (N := 27) hx hb hts inX5 hown hK hP 0 rfl rfl 0 (by decide) (hts _ wF_X5_81) (fun _ h9 => h9) rfl dX5_place_45 ?_
          refine k_if_ne (tgt := 154) hx hb t rfl (by omega) dX5_place_48 (by decide) (fun c48 => ?_) (fun c48 => ?_)
          · skip
            refine lv_iload_n hx hb dX5_place_154 rfl (lv_at hl 3 rfl) ?_
            refine lv_if_le (tgt := 162) hx hb dX5_place_155 (by decide) (fun c155 => ?_) (fun c155 => ?_)
            · skip
              refine lv_iload hx hb dX5_place_162 (lv_at hl 4 rfl) ?_
              exact ret _ t _ _ _ _ dX5_place_164 hP hD hS (pl_ret (f1 := fun k => ((Y 17 k = q ∧ rmd cv (Y 20 k) = Y 19 k) ∧ Y 18 k &&& 1 ≠ 0)) (f2 := fun k => ((Y 17 k = q ∧ rmd cv (Y 20 k) = Y 19 k) ∧ Y 18 k &&& 2 ≠ 0)) ht (by first | exact Or.inr c48 | exact Or.inl (by omega)) h2 h3 h4 (by first | exact (if_neg (i32_nle c155)).symm | exact (if_pos (Int32.not_le.mp c155)).symm))
            · skip
              refine lv_iload_n hx hb dX5_place_158 rfl (lv_at hl 3 rfl) ?_
              refine lv_goto (tgt := 164) hx hb dX5_place_159 (by decide) ?_
              exact ret _ t _ _ _ _ dX5_place_164 hP hD hS (pl_ret (f1 := fun k => ((Y 17 k = q ∧ rmd cv (Y 20 k) = Y 19 k) ∧ Y 18 k &&& 1 ≠ 0)) (f2 := fun k => ((Y 17 k = q ∧ rmd cv (Y 20 k) = Y 19 k) ∧ Y 18 k &&& 2 ≠ 0)) ht (by first | exact Or.inr c48 | exact Or.inl (by omega)) h2 h3 h4 (by first | exact (if_neg (i32_nle c155)).symm | exact (if_pos (Int32.not_le.mp c155)).symm))
          · skip
            have L86 : ∀ (hr : Int32) (ls : Array Slot), (hr = if (Y 17 i = q ∧ rmd cv (Y 20 i) = Y 19 i) then 1 else 0) → (lv_has ls 7 [(0, .ref (h 0)), (1, .int q), (2, .int cv), (3, .int o1), (4, .int o2), (5, .int (nI i))]) → W p l e (rmK 1) s m args below meth c H locs 0 0 Q (F0 m 86 ls [.int hr]) := by
              intro hr ls hh hl
              subst hh
              refine lv_istore (lv' := [(6, .int (if Y 17 i = q ∧ rmd cv (Y 20 i) = Y 19 i then 1 else 0)), (0, .ref (h 0)), (1, .int q), (2, .int cv), (3, .int o1), (4, .int o2), (5, .int (nI i))]) hx hb dX5_place_86 hl (by decide) rfl (fun ls hl => ?_)
              refine lv_iload hx hb dX5_place_88 (lv_at hl 0 rfl) ?_
              refine k_ifeq_P (P := (Y 17 i = q ∧ rmd cv (Y 20 i) = Y 19 i)) (tgt := 115) hx hb rfl dX5_place_90 (by decide) (fun c90 => ?_) (fun c90 => ?_)
              · skip
                have i1 : ¬ ((Y 17 i = q ∧ rmd cv (Y 20 i) = Y 19 i) ∧ Y 18 i &&& 1 ≠ 0) := fun z => c90 z.1
                refine lv_iload_n hx hb dX5_place_115 rfl (lv_at hl 4 rfl) ?_
                refine lv_istore_n (lv' := [(3, .int o1), (6, .int (if Y 17 i = q ∧ rmd cv (Y 20 i) = Y 19 i then 1 else 0)), (0, .ref (h 0)), (1, .int q), (2, .int cv), (4, .int o2), (5, .int (nI i))]) hx hb dX5_place_116 rfl hl (by decide) rfl (fun ls hl => ?_)
                refine lv_iload hx hb dX5_place_117 (lv_at hl 1 rfl) ?_
                refine k_ifeq_P (P := (Y 17 i = q ∧ rmd cv (Y 20 i) = Y 19 i)) (tgt := 144) hx hb rfl dX5_place_119 (by decide) (fun c119 => ?_) (fun c119 => ?_)
                · skip
                  have i2 : ¬ ((Y 17 i = q ∧ rmd cv (Y 20 i) = Y 19 i) ∧ Y 18 i &&& 2 ≠ 0) := fun z => c119 z.1
                  refine lv_iload hx hb dX5_place_144 (lv_at hl 5 rfl) ?_
                  refine lv_istore (lv' := [(4, .int o2), (3, .int o1), (6, .int (if Y 17 i = q ∧ rmd cv (Y 20 i) = Y 19 i then 1 else 0)), (0, .ref (h 0)), (1, .int q), (2, .int cv), (5, .int (nI i))]) hx hb dX5_place_146 hl (by decide) rfl (fun ls hl => ?_)
                  refine k_iinc (k := 6) (lv' := [(5, .int (nI (i + 1))), (4, .int o2), (3, .int o1), (6, .int (if Y 17 i = q ∧ rmd cv (Y 20 i) = Y 19 i then 1 else 0)), (0, .ref (h 0)), (1, .int q), (2, .int cv)]) hx hb i rfl dX5_place_148 hl rfl (by decide) rfl (fun ls hl => ?_)
                  refine lv_goto (tgt := 35) hx hb dX5_place_151 (by decide) ?_
                  exact ih35 (i + 1) o1 o2 _ (by omega) (by omega) (by first | exact pl_set i1 | exact pl_keep h3 i1) (by first | exact pl_set i2 | exact pl_keep h4 i2) (lv_sub hl [4, 5, 6, 2, 1, 0] rfl)
                · skip
                  refine lv_aload_n hx hb dX5_place_122 rfl (lv_at hl 2 rfl) ?_
                  refine va_get (D := D) (ci := 7) (v := .ref (h 18)) (C := RX5) (T := TX5) (N := 27) hx hb hts inX5 hown hK hP 0 rfl rfl 18 (by decide) (hts _ wF_X5_50) (fun _ h9 => h9) rfl dX5_place_123 ?_
                  refine lv_iload hx hb dX5_place_126 (lv_at hl 6 rfl) ?_
                  refine k_iald (D := D) (f := Y 18) hx hb hK hP 14 0 rfl rfl i rfl (by omega) (by omega) dX5_place_128 ?_
                  refine lv_iconst (v := 2) hx hb dX5_place_129 (by decide) ?_
                  refine lv_iand hx hb dX5_place_130 ?_
                  refine lv_if_eq (tgt := 144) hx hb dX5_place_131 (by decide) (fun c131 => ?_) (fun c131 => ?_)
                  · skip
                    have i2 : ¬ ((Y 17 i = q ∧ rmd cv (Y 20 i) = Y 19 i) ∧ Y 18 i &&& 2 ≠ 0) := fun z => z.2 c131
                    refine lv_iload hx hb dX5_place_144 (lv_at hl 5 rfl) ?_
                    refine lv_istore (lv' := [(4, .int o2), (3, .int o1), (6, .int (if Y 17 i = q ∧ rmd cv (Y 20 i) = Y 19 i then 1 else 0)), (0, .ref (h 0)), (1, .int q), (2, .int cv), (5, .int (nI i))]) hx hb dX5_place_146 hl (by decide) rfl (fun ls hl => ?_)
                    refine k_iinc (k := 6) (lv' := [(5, .int (nI (i + 1))), (4, .int o2), (3, .int o1), (6, .int (if Y 17 i = q ∧ rmd cv (Y 20 i) = Y 19 i then 1 else 0)), (0, .ref (h 0)), (1, .int q), (2, .int cv)]) hx hb i rfl dX5_place_148 hl rfl (by decide) rfl (fun ls hl => ?_)
                    refine lv_goto (tgt := 35) hx hb dX5_place_151 (by decide) ?_
                    exact ih35 (i + 1) o1 o2 _ (by omega) (by omega) (by first | exact pl_set i1 | exact pl_keep h3 i1) (by first | exact pl_set i2 | exact pl_keep h4 i2) (lv_sub hl [4, 5, 6, 2, 1, 0] rfl)
                  · skip
                    have i2 : ((Y 17 i = q ∧ rmd cv (Y 20 i) = Y 19 i) ∧ Y 18 i &&& 2 ≠ 0) := ⟨c119, c131⟩
                    refine lv_aload_n hx hb dX5_place_134 rfl (lv_at hl 2 rfl) ?_
                    refine va_get (D := D) (ci := 7) (v := .ref (h 16)) (C := RX5) (T := TX5) (N := 27) hx hb hts inX5 hown hK hP 0 rfl rfl 16 (by decide) (hts _ wF_X5_44) (fun _ h9 => h9) rfl dX5_place_135 ?_
                    refine lv_iload hx hb dX5_place_138 (lv_at hl 6 rfl) ?_
                    refine k_iald (D := D) (f := Y 16) hx hb hK hP 12 0 rfl rfl i rfl (by omega) (by omega) dX5_place_140 ?_
                    refine lv_goto (tgt := 146) hx hb dX5_place_141 (by decide) ?_
                    refine lv_istore (lv' := [(4, .int (Y 16 i)), (3, .int o1), (6, .int (if Y 17 i = q ∧ rmd cv (Y 20 i) = Y 19 i then 1 else 0)), (0, .ref (h 0)), (1, .int q), (2, .int cv), (5, .int (nI i))]) hx hb dX5_place_146 hl (by decide) rfl (fun ls hl => ?_)
                    refine k_iinc (k := 6) (lv' := [(5, .int (nI (i + 1))), (4, .int (Y 16 i)), (3, .int o1), (6, .int (if Y 17 i = q ∧ rmd cv (Y 20 i) = Y 19 i then 1 else 0)), (0, .ref (h 0)), (1, .int q), (2, .int cv)]) hx hb i rfl dX5_place_148 hl rfl (by decide) rfl (fun ls hl => ?_)
                    refine lv_goto (tgt := 35) hx hb dX5_place_151 (by decide) ?_
                    exact ih35 (i + 1) o1 (Y 16 i) _ (by omega) (by omega) (by first | exact pl_set i1 | exact pl_keep h3 i1) (by first | exact pl_set i2 | exact pl_keep h4 i2) (lv_sub hl [4, 5, 6, 2, 1, 0] rfl)
              · skip
                refine lv_aload_n hx hb dX5_place_93 rfl (lv_at hl 1 rfl) ?_
                refine va_get (D := D) (ci := 7) (v := .ref (h 18)) (C := RX5) (T := TX5) (N := 27) hx hb hts inX5 hown hK hP 0 rfl rfl 18 (by decide) (hts _ wF_X5_50) (fun _ h9 => h9) rfl dX5_place_94 ?_
                refine lv_iload hx hb dX5_place_97 (lv_at hl 6 rfl) ?_
                refine k_iald (D := D) (f := Y 18) hx hb hK hP 14 0 rfl rfl i rfl (by omega) (by omega) dX5_place_99 ?_
                refine lv_iconst (v := 1) hx hb dX5_place_100 (by decide) ?_
                refine lv_iand hx hb dX5_place_101 ?_
                refine lv_if_eq (tgt := 115) hx hb dX5_place_102 (by decide) (fun c102 => ?_) (fun c102 => ?_)
                · skip
                  have i1 : ¬ ((Y 17 i = q ∧ rmd cv (Y 20 i) = Y 19 i) ∧ Y 18 i &&& 1 ≠ 0) := fun z => z.2 c102
                  refine lv_iload_n hx hb dX5_place_115 rfl (lv_at hl 4 rfl) ?_
                  refine lv_istore_n (lv' := [(3, .int o1), (6, .int (if Y 17 i = q ∧ rmd cv (Y 20 i) = Y 19 i then 1 else 0)), (0, .ref (h 0)), (1, .int q), (2, .int cv), (4, .int o2), (5, .int (nI i))]) hx hb dX5_place_116 rfl hl (by decide) rfl (fun ls hl => ?_)
                  refine lv_iload hx hb dX5_place_117 (lv_at hl 1 rfl) ?_
                  refine k_ifeq_P (P := (Y 17 i = q ∧ rmd cv (Y 20 i) = Y 19 i)) (tgt := 144) hx hb rfl dX5_place_119 (by decide) (fun c119 => ?_) (fun c119 => ?_)
                  · skip
                    have i2 : ¬ ((Y 17 i = q ∧ rmd cv (Y 20 i) = Y 19 i) ∧ Y 18 i &&& 2 ≠ 0) := fun z => c119 z.1
                    refine lv_iload hx hb dX5_place_144 (lv_at hl 5 rfl) ?_
                    refine lv_istore (lv' := [(4, .int o2), (3, .int o1), (6, .int (if Y 17 i = q ∧ rmd cv (Y 20 i) = Y 19 i then 1 else 0)), (0, .ref (h 0)), (1, .int q), (2, .int cv), (5, .int (nI i))]) hx hb dX5_place_146 hl (by decide) rfl (fun ls hl => ?_)
                    refine k_iinc (k := 6) (lv' := [(5, .int (nI (i + 1))), (4, .int o2), (3, .int o1), (6, .int (if Y 17 i = q ∧ rmd cv (Y 20 i) = Y 19 i then 1 else 0)), (0, .ref (h 0)), (1, .int q), (2, .int cv)]) hx hb i rfl dX5_place_148 hl rfl (by decide) rfl (fun ls hl => ?_)
                    refine lv_goto (tgt := 35) hx hb dX5_place_151 (by decide) ?_
                    exact ih35 (i + 1) o1 o2 _ (by omega) (by omega) (by first | exact pl_set i1 | exact pl_keep h3 i1) (by first | exact pl_set i2 | exact pl_keep h4 i2) (lv_sub hl [4, 5, 6, 2, 1, 0] rfl)
                  · skip
                    refine lv_aload_n hx hb dX5_place_122 rfl (lv_at hl 2 rfl) ?_
                    refine va_get (D := D) (ci := 7) (v := .ref (h 18)) (C := RX5) (T := TX5) (N := 27) hx hb hts inX5 hown hK hP 0 rfl rfl 18 (by decide) (hts _ wF_X5_50) (fun _ h9 => h9) rfl dX5_place_123 ?_
                    refine lv_iload hx hb dX5_place_126 (lv_at hl 6 rfl) ?_
                    refine k_iald (D := D) (f := Y 18) hx hb hK hP 14 0 rfl rfl i rfl (by omega) (by omega) dX5_place_128 ?_
                    refine lv_iconst (v := 2) hx hb dX5_place_129 (by decide) ?_
                    refine lv_iand hx hb dX5_place_130 ?_
                    refine lv_if_eq (tgt := 144) hx hb dX5_place_131 (by decide) (fun c131 => ?_) (fun c131 => ?_)
                    · skip
                      have i2 : ¬ ((Y 17 i = q ∧ rmd cv (Y 20 i) = Y 19 i) ∧ Y 18 i &&& 2 ≠ 0) := fun z => z.2 c131
                      refine lv_iload hx hb dX5_place_144 (lv_at hl 5 rfl) ?_
                      refine lv_istore (lv' := [(4, .int o2), (3, .int o1), (6, .int (if Y 17 i = q ∧ rmd cv (Y 20 i) = Y 19 i then 1 else 0)), (0, .ref (h 0)), (1, .int q), (2, .int cv), (5, .int (nI i))]) hx hb dX5_place_146 hl (by decide) rfl (fun ls hl => ?_)
                      refine k_iinc (k := 6) (lv' := [(5, .int (nI (i + 1))), (4, .int o2), (3, .int o1), (6, .int (if Y 17 i = q ∧ rmd cv (Y 20 i) = Y 19 i then 1 else 0)), (0, .ref (h 0)), (1, .int q), (2, .int cv)]) hx hb i rfl dX5_place_148 hl rfl (by decide) rfl (fun ls hl => ?_)
                      refine lv_goto (tgt := 35) hx hb dX5_place_151 (by decide) ?_
                      exact ih35 (i + 1) o1 o2 _ (by omega) (by omega) (by first | exact pl_set i1 | exact pl_keep h3 i1) (by first | exact pl_set i2 | exact pl_keep h4 i2) (lv_sub hl [4, 5, 6, 2, 1, 0] rfl)
                    · skip
                      have i2 : ((Y 17 i = q ∧ rmd cv (Y 20 i) = Y 19 i) ∧ Y 18 i &&& 2 ≠ 0) := ⟨c119, c131⟩
                      refine lv_aload_n hx hb dX5_place_134 rfl (lv_at hl 2 rfl) ?_
                      refine va_get (D := D) (ci := 7) (v := .ref (h 16)) (C := RX5) (T := TX5) (N := 27) hx hb hts inX5 hown hK hP 0 rfl rfl 16 (by decide) (hts _ wF_X5_44) (fun _ h9 => h9) rfl dX5_place_135 ?_
                      refine lv_iload hx hb dX5_place_138 (lv_at hl 6 rfl) ?_
                      refine k_iald (D := D) (f := Y 16) hx hb hK hP 12 0 rfl rfl i rfl (by omega) (by omega) dX5_place_140 ?_
                      refine lv_goto (tgt := 146) hx hb dX5_place_141 (by decide) ?_
                      refine lv_istore (lv' := [(4, .int (Y 16 i)), (3, .int o1), (6, .int (if Y 17 i = q ∧ rmd cv (Y 20 i) = Y 19 i then 1 else 0)), (0, .ref (h 0)), (1, .int q), (2, .int cv), (5, .int (nI i))]) hx hb dX5_place_146 hl (by decide) rfl (fun ls hl => ?_)
                      refine k_iinc (k := 6) (lv' := [(5, .int (nI (i + 1))), (4, .int (Y 16 i)), (3, .int o1), (6, .int (if Y 17 i = q ∧ rmd cv (Y 20 i) = Y 19 i then 1 else 0)), (0, .ref (h 0)), (1, .int q), (2, .int cv)]) hx hb i rfl dX5_place_148 hl rfl (by decide) rfl (fun ls hl => ?_)
                      refine lv_goto (tgt := 35) hx hb dX5_place_151 (by decide) ?_
                      exact ih35 (i + 1) o1 (Y 16 i) _ (by omega) (by omega) (by first | exact pl_set i1 | exact pl_keep h3 i1) (by first | exact pl_set i2 | exact pl_keep h4 i2) (lv_sub hl [4, 5, 6, 2, 1, 0] rfl)
                · skip
                  have i1 : ((Y 17 i = q ∧ rmd cv (Y 20 i) = Y 19 i) ∧ Y 18 i &&& 1 ≠ 0) := ⟨c90, c102⟩
                  refine lv_aload_n hx hb dX5_place_105 rfl (lv_at hl 1 rfl) ?_
                  refine va_get (D := D) (ci := 7) (v := .ref (h 16)) (C := RX5) (T := TX5) (N := 27) hx hb hts inX5 hown hK hP 0 rfl rfl 16 (by decide) (hts _ wF_X5_44) (fun _ h9 => h9) rfl dX5_place_106 ?_
                  refine lv_iload hx hb dX5_place_109 (lv_at hl 6 rfl) ?_
                  refine k_iald (D := D) (f := Y 16) hx hb hK hP 12 0 rfl rfl i rfl (by omega) (by omega) dX5_place_111 ?_
                  refine lv_goto (tgt := 116) hx hb dX5_place_112 (by decide) ?_
                  refine lv_istore_n (lv' := [(3, .int (Y 16 i)), (6, .int (if Y 17 i = q ∧ rmd cv (Y 20 i) = Y 19 i then 1 else 0)), (0, .ref (h 0)), (1, .int q), (2, .int cv), (4, .int o2), (5, .int (nI i))]) hx hb dX5_place_116 rfl hl (by decide) rfl (fun ls hl => ?_)
                  refine lv_iload hx hb dX5_place_117 (lv_at hl 1 rfl) ?_
                  refine k_ifeq_P (P := (Y 17 i = q ∧ rmd cv (Y 20 i) = Y 19 i)) (tgt := 144) hx hb rfl dX5_place_119 (by decide) (fun c119 => ?_) (fun c119 => ?_)
                  · skip
                    have i2 : ¬ ((Y 17 i = q ∧ rmd cv (Y 20 i) = Y 19 i) ∧ Y 18 i &&& 2 ≠ 0) := fun z => c119 z.1
                    refine lv_iload hx hb dX5_place_144 (lv_at hl 5 rfl) ?_
                    refine lv_istore (lv' := [(4, .int o2), (3, .int (Y 16 i)), (6, .int (if Y 17 i = q ∧ rmd cv (Y 20 i) = Y 19 i then 1 else 0)), (0, .ref (h 0)), (1, .int q), (2, .int cv), (5, .int (nI i))]) hx hb dX5_place_146 hl (by decide) rfl (fun ls hl => ?_)
                    refine k_iinc (k := 6) (lv' := [(5, .int (nI (i + 1))), (4, .int o2), (3, .int (Y 16 i)), (6, .int (if Y 17 i = q ∧ rmd cv (Y 20 i) = Y 19 i then 1 else 0)), (0, .ref (h 0)), (1, .int q), (2, .int cv)]) hx hb i rfl dX5_place_148 hl rfl (by decide) rfl (fun ls hl => ?_)
                    refine lv_goto (tgt := 35) hx hb dX5_place_151 (by decide) ?_
                    exact ih35 (i + 1) (Y 16 i) o2 _ (by omega) (by omega) (by first | exact pl_set i1 | exact pl_keep h3 i1) (by first | exact pl_set i2 | exact pl_keep h4 i2) (lv_sub hl [4, 5, 6, 2, 1, 0] rfl)
                  · skip
                    refine lv_aload_n hx hb dX5_place_122 rfl (lv_at hl 2 rfl) ?_
                    refine va_get (D := D) (ci := 7) (v := .ref (h 18)) (C := RX5) (T := TX5) (N := 27) hx hb hts inX5 hown hK hP 0 rfl rfl 18 (by decide) (hts _ wF_X5_50) (fun _ h9 => h9) rfl dX5_place_123 ?_
                    refine lv_iload hx hb dX5_place_126 (lv_at hl 6 rfl) ?_
                    refine k_iald (D := D) (f := Y 18) hx hb hK hP 14 0 rfl rfl i rfl (by omega) (by omega) dX5_place_128 ?_
                    refine lv_iconst (v := 2) hx hb dX5_place_129 (by decide) ?_
                    refine lv_iand hx hb dX5_place_130 ?_
                    refine lv_if_eq (tgt := 144) hx hb dX5_place_131 (by decide) (fun c131 => ?_) (fun c131 => ?_)
                    · skip
                      have i2 : ¬ ((Y 17 i = q ∧ rmd cv (Y 20 i) = Y 19 i) ∧ Y 18 i &&& 2 ≠ 0) := fun z => z.2 c131
                      refine lv_iload hx hb dX5_place_144 (lv_at hl 5 rfl) ?_
                      refine lv_istore (lv' := [(4, .int o2), (3, .int (Y 16 i)), (6, .int (if Y 17 i = q ∧ rmd cv (Y 20 i) = Y 19 i then 1 else 0)), (0, .ref (h 0)), (1, .int q), (2, .int cv), (5, .int (nI i))]) hx hb dX5_place_146 hl (by decide) rfl (fun ls hl => ?_)
                      refine k_iinc (k := 6) (lv' := [(5, .int (nI (i + 1))), (4, .int o2), (3, .int (Y 16 i)), (6, .int (if Y 17 i = q ∧ rmd cv (Y 20 i) = Y 19 i then 1 else 0)), (0, .ref (h 0)), (1, .int q), (2, .int cv)]) hx hb i rfl dX5_place_148 hl rfl (by decide) rfl (fun ls hl => ?_)
                      refine lv_goto (tgt := 35) hx hb dX5_place_151 (by decide) ?_
                      exact ih35 (i + 1) (Y 16 i) o2 _ (by omega) (by omega) (by first | exact pl_set i1 | exact pl_keep h3 i1) (by first | exact pl_set i2 | exact pl_keep h4 i2) (lv_sub hl [4, 5, 6, 2, 1, 0] rfl)
                    · skip
                      have i2 : ((Y 17 i = q ∧ rmd cv (Y 20 i) = Y 19 i) ∧ Y 18 i &&& 2 ≠ 0) := ⟨c119, c131⟩
                      refine lv_aload_n hx hb dX5_place_134 rfl (lv_at hl 2 rfl) ?_
                      refine va_get (D := D) (ci := 7) (v := .ref (h 16)) (C := RX5) (T := TX5) (N := 27) hx hb hts inX5 hown hK hP 0 rfl rfl 16 (by decide) (hts _ wF_X5_44) (fun _ h9 => h9) rfl dX5_place_135 ?_
                      refine lv_iload hx hb dX5_place_138 (lv_at hl 6 rfl) ?_
                      refine k_iald (D := D) (f := Y 16) hx hb hK hP 12 0 rfl rfl i rfl (by omega) (by omega) dX5_place_140 ?_
                      refine lv_goto (tgt := 146) hx hb dX5_place_141 (by decide) ?_
                      refine lv_istore (lv' := [(4, .int (Y 16 i)), (3, .int (Y 16 i)), (6, .int (if Y 17 i = q ∧ rmd cv (Y 20 i) = Y 19 i then 1 else 0)), (0, .ref (h 0)), (1, .int q), (2, .int cv), (5, .int (nI i))]) hx hb dX5_place_146 hl (by decide) rfl (fun ls hl => ?_)
                      refine k_iinc (k := 6) (lv' := [(5, .int (nI (i + 1))), (4, .int (Y 16 i)), (3, .int (Y 16 i)), (6, .int (if Y 17 i = q ∧ rmd cv (Y 20 i) = Y 19 i then 1 else 0)), (0, .ref (h 0)), (1, .int q), (2, .int cv)]) hx hb i rfl dX5_place_148 hl rfl (by decide) rfl (fun ls hl => ?_)
                      refine lv_goto (tgt := 35) hx hb dX5_place_151 (by decide) ?_
                      exact ih35 (i + 1) (Y 16 i) (Y 16 i) _ (by omega) (by omega) (by first | exact pl_set i1 | exact pl_keep h3 i1) (by first | exact pl_set i2 | exact pl_keep h4 i2) (lv_sub hl [4, 5, 6, 2, 1, 0] rfl)
            refine lv_aload_n hx hb dX5_place_51 rfl (lv_at hl 0 rfl) ?_
            refine va_get (D := D) (ci := 7) (v := .ref (h 17)) (C := RX5) (T := TX5) (N := 27) hx hb hts inX5 hown hK hP 0 rfl rfl 17 (by decide) (hts _ wF_X5_47) (fun _ h9 => h9) rfl dX5_place_52 ?_
            refine lv_iload hx hb dX5_place_55 (lv_at hl 5 rfl) ?_
            refine k_iald (D := D) (f := Y 17) hx hb hK hP 13 0 rfl rfl i rfl (by omega) (by omega) dX5_place_57 ?_
            refine lv_iload_n hx hb dX5_place_58 rfl (lv_at hl 1 rfl) ?_
            refine lv_icmp_ne (tgt := 85) hx hb dX5_place_59 (by decide) (fun c59 => ?_) (fun c59 => ?_)
            · skip
              refine lv_iconst (v := 0) hx hb dX5_place_85 (by decide) ?_
              exact L86 0 _ (by first | exact ite_p ⟨c59, c78⟩ | exact ite_n (fun z => c59 z.1) | exact ite_n (fun z => c78 z.2)) (lv_sub hl [0, 1, 2, 3, 4, 5] rfl)
            · skip
              refine lv_iload_n hx hb dX5_place_62 rfl (lv_at hl 2 rfl) ?_
              refine lv_aload_n hx hb dX5_place_63 rfl (lv_at hl 0 rfl) ?_
              refine va_get (D := D) (ci := 7) (v := .ref (h 20)) (C := RX5) (T := TX5) (N := 27) hx hb hts inX5 hown hK hP 0 rfl rfl 20 (by decide) (hts _ wF_X5_56) (fun _ h9 => h9) rfl dX5_place_64 ?_
              refine lv_iload hx hb dX5_place_67 (lv_at hl 5 rfl) ?_
              refine k_iald (D := D) (f := Y 20) hx hb hK hP 16 0 rfl rfl i rfl (by omega) (by omega) dX5_place_69 ?_
              refine lv_irem hx hb dX5_place_70 (ev_ne (hE i c41)) ?_
              refine lv_aload_n hx hb dX5_place_71 rfl (lv_at hl 0 rfl) ?_
              refine va_get (D := D) (ci := 7) (v := .ref (h 19)) (C := RX5) (T := TX5) (N := 27) hx hb hts inX5 hown hK hP 0 rfl rfl 19 (by decide) (hts _ wF_X5_53) (fun _ h9 => h9) rfl dX5_place_72 ?_
              refine lv_iload hx hb dX5_place_75 (lv_at hl 5 rfl) ?_
              refine k_iald (D := D) (f := Y 19) hx hb hK hP 15 0 rfl rfl i rfl (by omega) (by omega) dX5_place_77 ?_
              refine lv_icmp_ne (tgt := 85) hx hb dX5_place_78 (by decide) (fun c78 => ?_) (fun c78 => ?_)
              · skip
                refine lv_iconst (v := 0) hx hb dX5_place_85 (by decide) ?_
                exact L86 0 _ (by first | exact ite_p ⟨c59, c78⟩ | exact ite_n (fun z => c59 z.1) | exact ite_n (fun z => c78 z.2)) (lv_sub hl [0, 1, 2, 3, 4, 5] rfl)
              · skip
                refine lv_iconst (v := 1) hx hb dX5_place_81 (by decide) ?_
                refine lv_goto (tgt := 86) hx hb dX5_place_82 (by decide) ?_
                exact L86 1 _ (by first | exact ite_p ⟨c59, c78⟩ | exact ite_n (fun z => c59 z.1) | exact ite_n (fun z => c78 z.2)) (lv_sub hl [0, 1, 2, 3, 4, 5] rfl)
    exact L35 ((fr - 0) + 1) 0 0 0 _ (Nat.lt_succ_self _) (Nat.zero_le _) (Or.inl ⟨rfl, fun k b => absurd b (by omega)⟩) (Or.inl ⟨rfl, fun k b => absurd b (by omega)⟩) (lv_sub hl [3, 4, 5, 2, 1, 0] rfl)
  refine lv_aload_n hx hb dX5_place_1 rfl (lv_at hl 0 rfl) ?_
  refine lv_iload_n hx hb dX5_place_2 rfl (lv_at hl 1 rfl) ?_
  refine k_callR (D := D) C hK hN hP hD (c_X5_isSlot hs1 hsl q) hl cf_yX5_isSlot wM_X5_88 0 7 rfl rfl rfl rfl (Nat.le_of_ble_eq_true rfl) ⟨by decide, by decide⟩ ⟨Nat.zero_le _, Nat.zero_le _⟩ dX5_place_3 (fun r3 hr3 => ?_)
  have hr3 : r3 = (if inR q 0 (sl - 1) then 1 else 0) := hr3
  subst hr3
  refine k_ifeq_P (P := (inR q 0 (sl - 1))) (tgt := 19) hx hb rfl dX5_place_6 (by decide) (fun c6 => ?_) (fun c6 => ?_)
  · skip
    refine lv_iconst (v := 1) hx hb dX5_place_19 (by decide) ?_
    refine lv_goto (tgt := 24) hx hb dX5_place_20 (by decide) ?_
    exact L24 1 _ (by first | exact (if_pos ⟨c6, (slot63 c10 c16)⟩).symm | exact (if_neg (fun z => c6 z.1)).symm | exact (if_neg (fun z => absurd z.2.1 (by have := Int32.lt_iff_toInt_lt.mp c10; simp at this; omega))).symm | exact (if_neg (fun z => c16 (Int32.le_iff_toInt_le.mpr z.2.2))).symm) (lv_sub hl [0, 1, 2] rfl)
  · skip
    refine lv_iload_n hx hb dX5_place_9 rfl (lv_at hl 2 rfl) ?_
    refine lv_if_lt (tgt := 19) hx hb dX5_place_10 (by decide) (fun c10 => ?_) (fun c10 => ?_)
    · skip
      refine lv_iconst (v := 1) hx hb dX5_place_19 (by decide) ?_
      refine lv_goto (tgt := 24) hx hb dX5_place_20 (by decide) ?_
      exact L24 1 _ (by first | exact (if_pos ⟨c6, (slot63 c10 c16)⟩).symm | exact (if_neg (fun z => c6 z.1)).symm | exact (if_neg (fun z => absurd z.2.1 (by have := Int32.lt_iff_toInt_lt.mp c10; simp at this; omega))).symm | exact (if_neg (fun z => c16 (Int32.le_iff_toInt_le.mpr z.2.2))).symm) (lv_sub hl [0, 1, 2] rfl)
    · skip
      refine lv_iload_n hx hb dX5_place_13 rfl (lv_at hl 2 rfl) ?_
      refine lv_bipush (v := 63) hx hb dX5_place_14 (by decide) ?_
      refine lv_icmp_le (tgt := 23) hx hb dX5_place_16 (by decide) (fun c16 => ?_) (fun c16 => ?_)
      · skip
        refine lv_iconst (v := 0) hx hb dX5_place_23 (by decide) ?_
        exact L24 0 _ (by first | exact (if_pos ⟨c6, (slot63 c10 c16)⟩).symm | exact (if_neg (fun z => c6 z.1)).symm | exact (if_neg (fun z => absurd z.2.1 (by have := Int32.lt_iff_toInt_lt.mp c10; simp at this; omega))).symm | exact (if_neg (fun z => c16 (Int32.le_iff_toInt_le.mpr z.2.2))).symm) (lv_sub hl [0, 1, 2] rfl)
      · skip
        refine lv_iconst (v := 1) hx hb dX5_place_19 (by decide) ?_
        refine lv_goto (tgt := 24) hx hb dX5_place_20 (by decide) ?_
        exact L24 1 _ (by first | exact (if_pos ⟨c6, (slot63 c10 c16)⟩).symm | exact (if_neg (fun z => c6 z.1)).symm | exact (if_neg (fun z => absurd z.2.1 (by have := Int32.lt_iff_toInt_lt.mp c10; simp at this; omega))).symm | exact (if_neg (fun z => c16 (Int32.le_iff_toInt_le.mpr z.2.2))).symm) (lv_sub hl [0, 1, 2] rfl)
set_option maxHeartbeats 4000000 in
set_option maxRecDepth 100000 in
theorem c_X5_close {l : Launch} {D : va_G} {cI cZ cL : ClassId} {h : Nat → Nat} {sl mi n : Nat} {Y : Nat → Nat → Int32} {th fr wt cy : Nat} (hn : n ≤ 16) (bd : Int32) : KI l yX5_close (.code yX5_close cX5_close 7 (some .boolean)) 0 D (tyz cI cZ cL) [.ref (h 0), .int bd] (mw h cI cZ sl mi n Y th fr wt cy) (fun r _ => (r = 1 ∧ ∀ a b, 1 ≤ a → a ≤ n → 1 ≤ b → b < a → (Y 4 a = 2 → Y 4 b = 2 → dsr (Y 6 a) (Y 6 b) ≤ bd)) ∨ (r = 0 ∧ ∃ a b, 1 ≤ a ∧ a ≤ n ∧ 1 ≤ b ∧ b < a ∧ Y 4 a = 2 ∧ Y 4 b = 2 ∧ ¬ dsr (Y 6 a) (Y 6 b) ≤ bd)) (fun _ : Unit => mw h cI cZ sl mi n Y 0 fr wt cy) := by
  refine KI.ofz (own := RX5) (lvs := [(0, .ref (h 0)), (1, .int bd)]) (by decide) rfl (Nat.le_of_ble_eq_true rfl) rfl ?_
  intro p e s m args below meth c Q C hK hN A hA hP hD hS ret ls hl
  obtain ⟨hx, hb, hml, hown, hts, hr9, hlk9⟩ := id C
  refine lv_aload_n hx hb dX5_close_0 rfl (lv_at hl 0 rfl) ?_
  refine lv_iconst (v := 0) hx hb dX5_close_1 (by decide) ?_
  refine k_put (D := D) (ci := 7) (v := .int (nI 0)) (ty := .int) (C := RX5) (T := TX5) (N := 27) (ws' := mw h cI cZ sl mi n Y 0 fr wt cy) hx hb hts inX5 tyX5 tyX5_ok nmX5 hown hK hP hD hS 0 rfl rfl 0 (by decide) (hts _ wF_X5_81) (fun _ h9 => h9) rfl (by decide +kernel) rfl rfl (Nat.le_of_ble_eq_true rfl) rfl dX5_close_2 (fun H locs hP hD hS => ?_)
  refine lv_iconst (v := 1) hx hb dX5_close_5 (by decide) ?_
  refine lv_istore_n (lv' := [(2, .int 1), (0, .ref (h 0)), (1, .int bd)]) hx hb dX5_close_6 rfl hl (by decide) rfl (fun ls hl => ?_)
  refine lv_iconst (v := 1) hx hb dX5_close_7 (by decide) ?_
  refine lv_istore_n (lv' := [(3, .int 1), (2, .int 1), (0, .ref (h 0)), (1, .int bd)]) hx hb dX5_close_8 rfl hl (by decide) rfl (fun ls hl => ?_)
  have L9 : ∀ (kf : Nat) (i : Nat) (ar : Int32) (ls : Array Slot), (n + 1 - i < kf) → (1 ≤ i) → (i ≤ n + 1) → ((ar = 1 ∧ ∀ a b, 1 ≤ a → a < i → 1 ≤ b → b < a → (Y 4 a = 2 → Y 4 b = 2 → dsr (Y 6 a) (Y 6 b) ≤ bd)) ∨ (ar = 0 ∧ ∃ a b, 1 ≤ a ∧ a < i ∧ 1 ≤ b ∧ b < a ∧ Y 4 a = 2 ∧ Y 4 b = 2 ∧ ¬ dsr (Y 6 a) (Y 6 b) ≤ bd)) → (lv_has ls 7 [(0, .ref (h 0)), (1, .int bd), (2, .int ar), (3, .int (nI i))]) → W p l e (rmK 0) s m args below meth c H locs 0 0 Q (F0 m 9 ls []) := by
    intro kf
    induction kf with
    | zero =>
      intro i ar ls hm
      exact absurd hm (Nat.not_lt_zero _)
    | succ kf ih9 =>
      intro i ar ls hm h1 h2 h3 hl
      refine lv_iload_n hx hb dX5_close_9 rfl (lv_at hl 3 rfl) ?_
      refine lv_aload_n hx hb dX5_close_10 rfl (lv_at hl 0 rfl) ?_
      refine va_get (D := D) (ci := 7) (v := .int (nI n)) (C := RX5) (T := TX5) (N := 27) hx hb hts inX5 hown hK hP 0 rfl rfl 1 (by decide) (hts _ wF_X5_71) (fun _ h9 => h9) rfl dX5_close_11 ?_
      refine k_icmp_gt (tgt := 136) hx hb i n rfl rfl (by omega) (by omega) dX5_close_14 (by decide) (fun c14 => ?_) (fun c14 => ?_)
      · skip
        refine lv_iload_n hx hb dX5_close_136 rfl (lv_at hl 2 rfl) ?_
        exact ret _ () _ _ _ _ dX5_close_137 (h3.elim (fun h => Or.inr h.1) (fun h => Or.inl h.1)) hP hD hS (by have e9 : i = n + 1 := (by omega); subst e9; exact cl_end h3)
      · skip
        refine lv_iconst (v := 1) hx hb dX5_close_17 (by decide) ?_
        refine lv_istore (lv' := [(4, .int 1), (0, .ref (h 0)), (1, .int bd), (2, .int ar), (3, .int (nI i))]) hx hb dX5_close_18 hl (by decide) rfl (fun ls hl => ?_)
        have L20 : ∀ (kf : Nat) (k : Nat) (as : Int32) (ls : Array Slot), (i - k < kf) → (1 ≤ k) → (k ≤ i) → ((as = 1 ∧ (∀ a b, 1 ≤ a → a < i → 1 ≤ b → b < a → (Y 4 a = 2 → Y 4 b = 2 → dsr (Y 6 a) (Y 6 b) ≤ bd)) ∧ ∀ b, 1 ≤ b → b < k → (Y 4 i = 2 → Y 4 b = 2 → dsr (Y 6 i) (Y 6 b) ≤ bd)) ∨ (as = 0 ∧ ((∃ a b, 1 ≤ a ∧ a < i ∧ 1 ≤ b ∧ b < a ∧ Y 4 a = 2 ∧ Y 4 b = 2 ∧ ¬ dsr (Y 6 a) (Y 6 b) ≤ bd) ∨ ∃ b, 1 ≤ b ∧ b < k ∧ Y 4 i = 2 ∧ Y 4 b = 2 ∧ ¬ dsr (Y 6 i) (Y 6 b) ≤ bd))) → (lv_has ls 7 [(0, .ref (h 0)), (1, .int bd), (2, .int as), (3, .int (nI i)), (4, .int (nI k))]) → W p l e (rmK 0) s m args below meth c H locs 0 0 Q (F0 m 20 ls []) := by
          intro kf
          induction kf with
          | zero =>
            intro k as ls hm
            exact absurd hm (Nat.not_lt_zero _)
          | succ kf ih20 =>
            intro k as ls hm k1 k2 k3 hl
            refine lv_iload hx hb dX5_close_20 (lv_at hl 4 rfl) ?_
            refine lv_iload_n hx hb dX5_close_22 rfl (lv_at hl 3 rfl) ?_
            refine k_icmp_ge (tgt := 130) hx hb k i rfl rfl (by omega) (by omega) dX5_close_23 (by decide) (fun c23 => ?_) (fun c23 => ?_)
            · skip
              refine k_iinc (k := 3) (lv' := [(3, .int (nI (i + 1))), (0, .ref (h 0)), (1, .int bd), (2, .int as), (4, .int (nI k))]) hx hb i rfl dX5_close_130 hl rfl (by decide) rfl (fun ls hl => ?_)
              refine lv_goto (tgt := 9) hx hb dX5_close_133 (by decide) ?_
              exact ih9 (i + 1) as _ (by omega) (by omega) (by omega) (cl_out k3 (by omega)) (lv_sub hl [1, 2, 3, 0] rfl)
            · skip
              have L52 : ∀ (bo : Int32) (ls : Array Slot), (bo = if Y 4 i = 2 ∧ Y 4 k = 2 then 1 else 0) → (lv_has ls 7 [(0, .ref (h 0)), (1, .int bd), (2, .int as), (3, .int (nI i)), (4, .int (nI k))]) → W p l e (rmK 0) s m args below meth c H locs 0 0 Q (F0 m 52 ls [.int bo]) := by
                intro bo ls hbo hl
                refine lv_istore (lv' := [(5, .int bo), (0, .ref (h 0)), (1, .int bd), (2, .int as), (3, .int (nI i)), (4, .int (nI k))]) hx hb dX5_close_52 hl (by decide) rfl (fun ls hl => ?_)
                have L101 : ∀ (ap : Int32) (ls : Array Slot), (ap = dsr (Y 6 i) (Y 6 k)) → (lv_has ls 7 [(0, .ref (h 0)), (1, .int bd), (2, .int as), (3, .int (nI i)), (4, .int (nI k)), (5, .int bo)]) → W p l e (rmK 0) s m args below meth c H locs 0 0 Q (F0 m 101 ls [.int ap]) := by
                  intro ap ls hap hl
                  refine lv_istore (lv' := [(6, .int ap), (0, .ref (h 0)), (1, .int bd), (2, .int as), (3, .int (nI i)), (4, .int (nI k)), (5, .int bo)]) hx hb dX5_close_101 hl (by decide) rfl (fun ls hl => ?_)
                  refine lv_iload_n hx hb dX5_close_103 rfl (lv_at hl 3 rfl) ?_
                  refine lv_if_eq (tgt := 122) hx hb dX5_close_104 (by decide) (fun c104 => ?_) (fun c104 => ?_)
                  · skip
                    refine lv_iconst (v := 0) hx hb dX5_close_122 (by decide) ?_
                    refine lv_istore_n (lv' := [(2, .int 0), (6, .int ap), (0, .ref (h 0)), (1, .int bd), (3, .int (nI i)), (4, .int (nI k)), (5, .int bo)]) hx hb dX5_close_123 rfl hl (by decide) rfl (fun ls hl => ?_)
                    refine k_iinc (k := 5) (lv' := [(4, .int (nI (k + 1))), (2, .int 0), (6, .int ap), (0, .ref (h 0)), (1, .int bd), (3, .int (nI i)), (5, .int bo)]) hx hb k rfl dX5_close_124 hl rfl (by decide) rfl (fun ls hl => ?_)
                    refine lv_goto (tgt := 20) hx hb dX5_close_127 (by decide) ?_
                    exact ih20 (k + 1) 0 _ (by omega) (by omega) (by omega) (by first | exact cl_t k3 hbo hap c104 c109 | exact cl_t2 k3 hbo hap c104 c109 c115 | exact cl_f k3 c104 | exact cl_f2 k3 k1 hbo hap c109 c115) (lv_sub hl [3, 4, 1, 5, 0] rfl)
                  · skip
                    refine lv_iload hx hb dX5_close_107 (lv_at hl 6 rfl) ?_
                    refine lv_if_eq (tgt := 118) hx hb dX5_close_109 (by decide) (fun c109 => ?_) (fun c109 => ?_)
                    · skip
                      refine lv_iconst (v := 1) hx hb dX5_close_118 (by decide) ?_
                      refine lv_goto (tgt := 123) hx hb dX5_close_119 (by decide) ?_
                      refine lv_istore_n (lv' := [(2, .int 1), (6, .int ap), (0, .ref (h 0)), (1, .int bd), (3, .int (nI i)), (4, .int (nI k)), (5, .int bo)]) hx hb dX5_close_123 rfl hl (by decide) rfl (fun ls hl => ?_)
                      refine k_iinc (k := 5) (lv' := [(4, .int (nI (k + 1))), (2, .int 1), (6, .int ap), (0, .ref (h 0)), (1, .int bd), (3, .int (nI i)), (5, .int bo)]) hx hb k rfl dX5_close_124 hl rfl (by decide) rfl (fun ls hl => ?_)
                      refine lv_goto (tgt := 20) hx hb dX5_close_127 (by decide) ?_
                      exact ih20 (k + 1) 1 _ (by omega) (by omega) (by omega) (by first | exact cl_t k3 hbo hap c104 c109 | exact cl_t2 k3 hbo hap c104 c109 c115 | exact cl_f k3 c104 | exact cl_f2 k3 k1 hbo hap c109 c115) (lv_sub hl [3, 4, 1, 5, 0] rfl)
                    · skip
                      refine lv_iload hx hb dX5_close_112 (lv_at hl 0 rfl) ?_
                      refine lv_iload_n hx hb dX5_close_114 rfl (lv_at hl 2 rfl) ?_
                      refine lv_icmp_gt (tgt := 122) hx hb dX5_close_115 (by decide) (fun c115 => ?_) (fun c115 => ?_)
                      · skip
                        refine lv_iconst (v := 0) hx hb dX5_close_122 (by decide) ?_
                        refine lv_istore_n (lv' := [(2, .int 0), (6, .int ap), (0, .ref (h 0)), (1, .int bd), (3, .int (nI i)), (4, .int (nI k)), (5, .int bo)]) hx hb dX5_close_123 rfl hl (by decide) rfl (fun ls hl => ?_)
                        refine k_iinc (k := 5) (lv' := [(4, .int (nI (k + 1))), (2, .int 0), (6, .int ap), (0, .ref (h 0)), (1, .int bd), (3, .int (nI i)), (5, .int bo)]) hx hb k rfl dX5_close_124 hl rfl (by decide) rfl (fun ls hl => ?_)
                        refine lv_goto (tgt := 20) hx hb dX5_close_127 (by decide) ?_
                        exact ih20 (k + 1) 0 _ (by omega) (by omega) (by omega) (by first | exact cl_t k3 hbo hap c104 c109 | exact cl_t2 k3 hbo hap c104 c109 c115 | exact cl_f k3 c104 | exact cl_f2 k3 k1 hbo hap c109 c115) (lv_sub hl [3, 4, 1, 5, 0] rfl)
                      · skip
                        refine lv_iconst (v := 1) hx hb dX5_close_118 (by decide) ?_
                        refine lv_goto (tgt := 123) hx hb dX5_close_119 (by decide) ?_
                        refine lv_istore_n (lv' := [(2, .int 1), (6, .int ap), (0, .ref (h 0)), (1, .int bd), (3, .int (nI i)), (4, .int (nI k)), (5, .int bo)]) hx hb dX5_close_123 rfl hl (by decide) rfl (fun ls hl => ?_)
                        refine k_iinc (k := 5) (lv' := [(4, .int (nI (k + 1))), (2, .int 1), (6, .int ap), (0, .ref (h 0)), (1, .int bd), (3, .int (nI i)), (5, .int bo)]) hx hb k rfl dX5_close_124 hl rfl (by decide) rfl (fun ls hl => ?_)
                        refine lv_goto (tgt := 20) hx hb dX5_close_127 (by decide) ?_
                        exact ih20 (k + 1) 1 _ (by omega) (by omega) (by omega) (by first | exact cl_t k3 hbo hap c104 c109 | exact cl_t2 k3 hbo hap c104 c109 c115 | exact cl_f k3 c104 | exact cl_f2 k3 k1 hbo hap c109 c115) (lv_sub hl [3, 4, 1, 5, 0] rfl)
                refine lv_aload_n hx hb dX5_close_54 rfl (lv_at hl 1 rfl) ?_
                refine va_get (D := D) (ci := 7) (v := .ref (h 6)) (C := RX5) (T := TX5) (N := 27) hx hb hts inX5 hown hK hP 0 rfl rfl 6 (by decide) (hts _ wF_X5_17) (fun _ h9 => h9) rfl dX5_close_55 ?_
                refine lv_iload_n hx hb dX5_close_58 rfl (lv_at hl 4 rfl) ?_
                refine k_iald (D := D) (f := Y 6) hx hb hK hP 3 0 rfl rfl i rfl (by omega) (by omega) dX5_close_59 ?_
                refine lv_aload_n hx hb dX5_close_60 rfl (lv_at hl 1 rfl) ?_
                refine va_get (D := D) (ci := 7) (v := .ref (h 6)) (C := RX5) (T := TX5) (N := 27) hx hb hts inX5 hown hK hP 0 rfl rfl 6 (by decide) (hts _ wF_X5_17) (fun _ h9 => h9) rfl dX5_close_61 ?_
                refine lv_iload hx hb dX5_close_64 (lv_at hl 5 rfl) ?_
                refine k_iald (D := D) (f := Y 6) hx hb hK hP 3 0 rfl rfl k rfl (by omega) (by omega) dX5_close_66 ?_
                refine lv_icmp_le (tgt := 87) hx hb dX5_close_67 (by decide) (fun c67 => ?_) (fun c67 => ?_)
                · skip
                  refine lv_aload_n hx hb dX5_close_87 rfl (lv_at hl 1 rfl) ?_
                  refine va_get (D := D) (ci := 7) (v := .ref (h 6)) (C := RX5) (T := TX5) (N := 27) hx hb hts inX5 hown hK hP 0 rfl rfl 6 (by decide) (hts _ wF_X5_17) (fun _ h9 => h9) rfl dX5_close_88 ?_
                  refine lv_iload hx hb dX5_close_91 (lv_at hl 5 rfl) ?_
                  refine k_iald (D := D) (f := Y 6) hx hb hK hP 3 0 rfl rfl k rfl (by omega) (by omega) dX5_close_93 ?_
                  refine lv_aload_n hx hb dX5_close_94 rfl (lv_at hl 1 rfl) ?_
                  refine va_get (D := D) (ci := 7) (v := .ref (h 6)) (C := RX5) (T := TX5) (N := 27) hx hb hts inX5 hown hK hP 0 rfl rfl 6 (by decide) (hts _ wF_X5_17) (fun _ h9 => h9) rfl dX5_close_95 ?_
                  refine lv_iload_n hx hb dX5_close_98 rfl (lv_at hl 4 rfl) ?_
                  refine k_iald (D := D) (f := Y 6) hx hb hK hP 3 0 rfl rfl i rfl (by omega) (by omega) dX5_close_99 ?_
                  refine lv_isub hx hb dX5_close_100 ?_
                  exact L101 ((Y 6 k) - (Y 6 i)) _ (by first | exact ite_p (Int32.not_le.mp c67) | exact ite_n (i32_nle c67)) (lv_sub hl [1, 2, 3, 4, 5, 0] rfl)
                · skip
                  refine lv_aload_n hx hb dX5_close_70 rfl (lv_at hl 1 rfl) ?_
                  refine va_get (D := D) (ci := 7) (v := .ref (h 6)) (C := RX5) (T := TX5) (N := 27) hx hb hts inX5 hown hK hP 0 rfl rfl 6 (by decide) (hts _ wF_X5_17) (fun _ h9 => h9) rfl dX5_close_71 ?_
                  refine lv_iload_n hx hb dX5_close_74 rfl (lv_at hl 4 rfl) ?_
                  refine k_iald (D := D) (f := Y 6) hx hb hK hP 3 0 rfl rfl i rfl (by omega) (by omega) dX5_close_75 ?_
                  refine lv_aload_n hx hb dX5_close_76 rfl (lv_at hl 1 rfl) ?_
                  refine va_get (D := D) (ci := 7) (v := .ref (h 6)) (C := RX5) (T := TX5) (N := 27) hx hb hts inX5 hown hK hP 0 rfl rfl 6 (by decide) (hts _ wF_X5_17) (fun _ h9 => h9) rfl dX5_close_77 ?_
                  refine lv_iload hx hb dX5_close_80 (lv_at hl 5 rfl) ?_
                  refine k_iald (D := D) (f := Y 6) hx hb hK hP 3 0 rfl rfl k rfl (by omega) (by omega) dX5_close_82 ?_
                  refine lv_isub hx hb dX5_close_83 ?_
                  refine lv_goto (tgt := 101) hx hb dX5_close_84 (by decide) ?_
                  exact L101 ((Y 6 i) - (Y 6 k)) _ (by first | exact ite_p (Int32.not_le.mp c67) | exact ite_n (i32_nle c67)) (lv_sub hl [1, 2, 3, 4, 5, 0] rfl)
              refine lv_aload_n hx hb dX5_close_26 rfl (lv_at hl 0 rfl) ?_
              refine va_get (D := D) (ci := 7) (v := .ref (h 4)) (C := RX5) (T := TX5) (N := 27) hx hb hts inX5 hown hK hP 0 rfl rfl 4 (by decide) (hts _ wF_X5_7) (fun _ h9 => h9) rfl dX5_close_27 ?_
              refine lv_iload_n hx hb dX5_close_30 rfl (lv_at hl 3 rfl) ?_
              refine k_iald (D := D) (f := Y 4) hx hb hK hP 1 0 rfl rfl i rfl (by omega) (by omega) dX5_close_31 ?_
              refine lv_iconst (v := 2) hx hb dX5_close_32 (by decide) ?_
              refine lv_icmp_ne (tgt := 51) hx hb dX5_close_33 (by decide) (fun c33 => ?_) (fun c33 => ?_)
              · skip
                refine lv_iconst (v := 0) hx hb dX5_close_51 (by decide) ?_
                exact L52 0 _ (by first | exact ite_p ⟨c33, c44⟩ | exact ite_n (fun z => c33 z.1) | exact ite_n (fun z => c44 z.2)) (lv_sub hl [0, 1, 2, 3, 4] rfl)
              · skip
                refine lv_aload_n hx hb dX5_close_36 rfl (lv_at hl 0 rfl) ?_
                refine va_get (D := D) (ci := 7) (v := .ref (h 4)) (C := RX5) (T := TX5) (N := 27) hx hb hts inX5 hown hK hP 0 rfl rfl 4 (by decide) (hts _ wF_X5_7) (fun _ h9 => h9) rfl dX5_close_37 ?_
                refine lv_iload hx hb dX5_close_40 (lv_at hl 4 rfl) ?_
                refine k_iald (D := D) (f := Y 4) hx hb hK hP 1 0 rfl rfl k rfl (by omega) (by omega) dX5_close_42 ?_
                refine lv_iconst (v := 2) hx hb dX5_close_43 (by decide) ?_
                refine lv_icmp_ne (tgt := 51) hx hb dX5_close_44 (by decide) (fun c44 => ?_) (fun c44 => ?_)
                · skip
                  refine lv_iconst (v := 0) hx hb dX5_close_51 (by decide) ?_
                  exact L52 0 _ (by first | exact ite_p ⟨c33, c44⟩ | exact ite_n (fun z => c33 z.1) | exact ite_n (fun z => c44 z.2)) (lv_sub hl [0, 1, 2, 3, 4] rfl)
                · skip
                  refine lv_iconst (v := 1) hx hb dX5_close_47 (by decide) ?_
                  refine lv_goto (tgt := 52) hx hb dX5_close_48 (by decide) ?_
                  exact L52 1 _ (by first | exact ite_p ⟨c33, c44⟩ | exact ite_n (fun z => c33 z.1) | exact ite_n (fun z => c44 z.2)) (lv_sub hl [0, 1, 2, 3, 4] rfl)
        exact L20 ((i - 1) + 1) 1 ar _ (Nat.lt_succ_self _) (Nat.le_refl 1) (by omega) (h3.elim (fun h => Or.inl ⟨h.1, h.2, fun b q1 q2 => absurd q2 (by omega)⟩) (fun h => Or.inr ⟨h.1, Or.inl h.2⟩)) (lv_sub hl [1, 2, 3, 4, 0] rfl)
  exact L9 ((n + 1 - 1) + 1) 1 1 _ (Nat.lt_succ_self _) (Nat.le_refl 1) (by omega) (Or.inl ⟨rfl, fun a b q1 q2 => absurd q2 (by omega)⟩) (lv_sub hl [2, 3, 1, 0] rfl)
end
