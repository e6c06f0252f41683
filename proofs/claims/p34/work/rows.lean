section
-- ===== PART A: goes FIRST, ahead of the names: the tables' words, and 'selects' of the private methods out of them =====
/-- a private method of a class that the tables say can be made, by its rows of tables_1 -/
def lw_okq (q : MethodName × Nat) : Prop := (q.1.cls ≠ "java/lang/invoke/MethodHandle" ∧ q.1.cls ≠ "java/lang/invoke/VarHandle") ∧ Cond.instantiable q.1.cls q.2 ∈ tables_1 ∧ Cond.privateMethod q.1 ∈ tables_1 ∧ Cond.instanceMethod q.1 ∈ tables_1
theorem lw_p0 : lw_okq (⟨"java/lang/Throwable", "fillInStackTrace", "(I)Ljava/lang/Throwable;"⟩, 6) := ⟨⟨by decide +kernel, by decide +kernel⟩, List.mem_of_getElem? (i := 228) (by decide +kernel), List.mem_of_getElem? (i := 226) (by decide +kernel), List.mem_of_getElem? (i := 227) (by decide +kernel)⟩
theorem lw_p1 : lw_okq (⟨"RoadOracle$Hierarchy", "linkTurns", "()I"⟩, 13) := ⟨⟨by decide +kernel, by decide +kernel⟩, List.mem_of_getElem? (i := 75) (by decide +kernel), List.mem_of_getElem? (i := 262) (by decide +kernel), List.mem_of_getElem? (i := 263) (by decide +kernel)⟩
theorem lw_p2 : lw_okq (⟨"RoadOracle$Hierarchy", "cheapest", "(J)I"⟩, 13) := ⟨⟨by decide +kernel, by decide +kernel⟩, List.mem_of_getElem? (i := 75) (by decide +kernel), List.mem_of_getElem? (i := 288) (by decide +kernel), List.mem_of_getElem? (i := 289) (by decide +kernel)⟩
theorem lw_p3 : lw_okq (⟨"RoadOracle$Hierarchy", "bridge", "(JJ)V"⟩, 13) := ⟨⟨by decide +kernel, by decide +kernel⟩, List.mem_of_getElem? (i := 75) (by decide +kernel), List.mem_of_getElem? (i := 298) (by decide +kernel), List.mem_of_getElem? (i := 299) (by decide +kernel)⟩
theorem lw_p4 : lw_okq (⟨"RoadOracle$Hierarchy", "renewSteps", "(JJ)V"⟩, 13) := ⟨⟨by decide +kernel, by decide +kernel⟩, List.mem_of_getElem? (i := 75) (by decide +kernel), List.mem_of_getElem? (i := 303) (by decide +kernel), List.mem_of_getElem? (i := 304) (by decide +kernel)⟩
theorem lw_p5 : lw_okq (⟨"RoadOracle$Hierarchy", "renewStepsFrom", "(IJ)V"⟩, 13) := ⟨⟨by decide +kernel, by decide +kernel⟩, List.mem_of_getElem? (i := 75) (by decide +kernel), List.mem_of_getElem? (i := 307) (by decide +kernel), List.mem_of_getElem? (i := 308) (by decide +kernel)⟩
theorem lw_p6 : lw_okq (⟨"RoadOracle$Hierarchy", "markArc", "(II)V"⟩, 13) := ⟨⟨by decide +kernel, by decide +kernel⟩, List.mem_of_getElem? (i := 75) (by decide +kernel), List.mem_of_getElem? (i := 329) (by decide +kernel), List.mem_of_getElem? (i := 330) (by decide +kernel)⟩
theorem lw_p7 : lw_okq (⟨"RoadOracle$Hierarchy", "settle", "()I"⟩, 13) := ⟨⟨by decide +kernel, by decide +kernel⟩, List.mem_of_getElem? (i := 75) (by decide +kernel), List.mem_of_getElem? (i := 333) (by decide +kernel), List.mem_of_getElem? (i := 334) (by decide +kernel)⟩
theorem lw_p8 : lw_okq (⟨"RoadOracle$Hierarchy", "settleArc", "(II)I"⟩, 13) := ⟨⟨by decide +kernel, by decide +kernel⟩, List.mem_of_getElem? (i := 75) (by decide +kernel), List.mem_of_getElem? (i := 337) (by decide +kernel), List.mem_of_getElem? (i := 338) (by decide +kernel)⟩
theorem lw_p9 : lw_okq (⟨"RoadOracle$Hierarchy", "computeArc", "(II)I"⟩, 13) := ⟨⟨by decide +kernel, by decide +kernel⟩, List.mem_of_getElem? (i := 75) (by decide +kernel), List.mem_of_getElem? (i := 341) (by decide +kernel), List.mem_of_getElem? (i := 342) (by decide +kernel)⟩
theorem lw_p10 : lw_okq (⟨"RoadOracle$Hierarchy", "markAbove", "(II)V"⟩, 13) := ⟨⟨by decide +kernel, by decide +kernel⟩, List.mem_of_getElem? (i := 75) (by decide +kernel), List.mem_of_getElem? (i := 348) (by decide +kernel), List.mem_of_getElem? (i := 349) (by decide +kernel)⟩
theorem lw_p11 : lw_okq (⟨"RoadOracle", "requireHierarchy", "()V"⟩, 12) := ⟨⟨by decide +kernel, by decide +kernel⟩, List.mem_of_getElem? (i := 16) (by decide +kernel), List.mem_of_getElem? (i := 360) (by decide +kernel), List.mem_of_getElem? (i := 361) (by decide +kernel)⟩
theorem lw_p12 : lw_okq (⟨"RoadOracle", "requireJunction", "(I)V"⟩, 12) := ⟨⟨by decide +kernel, by decide +kernel⟩, List.mem_of_getElem? (i := 16) (by decide +kernel), List.mem_of_getElem? (i := 365) (by decide +kernel), List.mem_of_getElem? (i := 366) (by decide +kernel)⟩
theorem lw_p13 : lw_okq (⟨"RoadOracle", "costBetween", "(II)I"⟩, 12) := ⟨⟨by decide +kernel, by decide +kernel⟩, List.mem_of_getElem? (i := 16) (by decide +kernel), List.mem_of_getElem? (i := 385) (by decide +kernel), List.mem_of_getElem? (i := 386) (by decide +kernel)⟩
theorem lw_p14 : lw_okq (⟨"RoadOracle", "searchFrom", "(I)V"⟩, 12) := ⟨⟨by decide +kernel, by decide +kernel⟩, List.mem_of_getElem? (i := 16) (by decide +kernel), List.mem_of_getElem? (i := 389) (by decide +kernel), List.mem_of_getElem? (i := 390) (by decide +kernel)⟩
theorem lw_p15 : lw_okq (⟨"RoadOracle", "spreadToJunctions", "()V"⟩, 12) := ⟨⟨by decide +kernel, by decide +kernel⟩, List.mem_of_getElem? (i := 16) (by decide +kernel), List.mem_of_getElem? (i := 396) (by decide +kernel), List.mem_of_getElem? (i := 397) (by decide +kernel)⟩
def lw_privs_1 : List (MethodName × Nat) := [(⟨"java/lang/Throwable", "fillInStackTrace", "(I)Ljava/lang/Throwable;"⟩, 6), (⟨"RoadOracle$Hierarchy", "linkTurns", "()I"⟩, 13), (⟨"RoadOracle$Hierarchy", "cheapest", "(J)I"⟩, 13), (⟨"RoadOracle$Hierarchy", "bridge", "(JJ)V"⟩, 13), (⟨"RoadOracle$Hierarchy", "renewSteps", "(JJ)V"⟩, 13), (⟨"RoadOracle$Hierarchy", "renewStepsFrom", "(IJ)V"⟩, 13), (⟨"RoadOracle$Hierarchy", "markArc", "(II)V"⟩, 13), (⟨"RoadOracle$Hierarchy", "settle", "()I"⟩, 13), (⟨"RoadOracle$Hierarchy", "settleArc", "(II)I"⟩, 13), (⟨"RoadOracle$Hierarchy", "computeArc", "(II)I"⟩, 13), (⟨"RoadOracle$Hierarchy", "markAbove", "(II)V"⟩, 13), (⟨"RoadOracle", "requireHierarchy", "()V"⟩, 12), (⟨"RoadOracle", "requireJunction", "(I)V"⟩, 12), (⟨"RoadOracle", "costBetween", "(II)I"⟩, 12), (⟨"RoadOracle", "searchFrom", "(I)V"⟩, 12), (⟨"RoadOracle", "spreadToJunctions", "()V"⟩, 12)]
theorem lw_r1 : ∀ q ∈ lw_privs_1, lw_okq q := List.forall_mem_cons.mpr ⟨lw_p0, List.forall_mem_cons.mpr ⟨lw_p1, List.forall_mem_cons.mpr ⟨lw_p2, List.forall_mem_cons.mpr ⟨lw_p3, List.forall_mem_cons.mpr ⟨lw_p4, List.forall_mem_cons.mpr ⟨lw_p5, List.forall_mem_cons.mpr ⟨lw_p6, List.forall_mem_cons.mpr ⟨lw_p7, List.forall_mem_cons.mpr ⟨lw_p8, List.forall_mem_cons.mpr ⟨lw_p9, List.forall_mem_cons.mpr ⟨lw_p10, List.forall_mem_cons.mpr ⟨lw_p11, List.forall_mem_cons.mpr ⟨lw_p12, List.forall_mem_cons.mpr ⟨lw_p13, List.forall_mem_cons.mpr ⟨lw_p14, List.forall_mem_cons.mpr ⟨lw_p15, fun _ h => absurd h List.not_mem_nil⟩⟩⟩⟩⟩⟩⟩⟩⟩⟩⟩⟩⟩⟩⟩⟩
theorem lw_p16 : lw_okq (⟨"RoadOracle$Hierarchy", "passOn", "([IIII)V"⟩, 13) := ⟨⟨by decide +kernel, by decide +kernel⟩, List.mem_of_getElem? (i := 75) (by decide +kernel), List.mem_of_getElem? (i := 404) (by decide +kernel), List.mem_of_getElem? (i := 405) (by decide +kernel)⟩
theorem lw_p17 : lw_okq (⟨"RoadOracle", "foundCost", "(I)I"⟩, 12) := ⟨⟨by decide +kernel, by decide +kernel⟩, List.mem_of_getElem? (i := 16) (by decide +kernel), List.mem_of_getElem? (i := 409) (by decide +kernel), List.mem_of_getElem? (i := 410) (by decide +kernel)⟩
theorem lw_p18 : lw_okq (⟨"RoadOracle", "requireWeight", "(I)V"⟩, 12) := ⟨⟨by decide +kernel, by decide +kernel⟩, List.mem_of_getElem? (i := 16) (by decide +kernel), List.mem_of_getElem? (i := 450) (by decide +kernel), List.mem_of_getElem? (i := 451) (by decide +kernel)⟩
theorem lw_p19 : lw_okq (⟨"RoadOracle", "requireRoad", "(I)V"⟩, 12) := ⟨⟨by decide +kernel, by decide +kernel⟩, List.mem_of_getElem? (i := 16) (by decide +kernel), List.mem_of_getElem? (i := 478) (by decide +kernel), List.mem_of_getElem? (i := 479) (by decide +kernel)⟩
theorem lw_p20 : lw_okq (⟨"RoadOracle", "requireTurn", "(II)V"⟩, 12) := ⟨⟨by decide +kernel, by decide +kernel⟩, List.mem_of_getElem? (i := 16) (by decide +kernel), List.mem_of_getElem? (i := 499) (by decide +kernel), List.mem_of_getElem? (i := 500) (by decide +kernel)⟩
def lw_privs_2 : List (MethodName × Nat) := [(⟨"RoadOracle$Hierarchy", "passOn", "([IIII)V"⟩, 13), (⟨"RoadOracle", "foundCost", "(I)I"⟩, 12), (⟨"RoadOracle", "requireWeight", "(I)V"⟩, 12), (⟨"RoadOracle", "requireRoad", "(I)V"⟩, 12), (⟨"RoadOracle", "requireTurn", "(II)V"⟩, 12)]
theorem lw_r2 : ∀ q ∈ lw_privs_2, lw_okq q := List.forall_mem_cons.mpr ⟨lw_p16, List.forall_mem_cons.mpr ⟨lw_p17, List.forall_mem_cons.mpr ⟨lw_p18, List.forall_mem_cons.mpr ⟨lw_p19, List.forall_mem_cons.mpr ⟨lw_p20, fun _ h => absurd h List.not_mem_nil⟩⟩⟩⟩⟩
def lw_privs : List (MethodName × Nat) := lw_privs_1 ++ (lw_privs_2)
def lw_tbl : List Cond := k2_sels lw_privs ++ tables_1
theorem lw_privs_ok : ∀ q ∈ lw_privs, lw_okq q := by
  show ∀ q ∈ lw_privs_1 ++ (lw_privs_2), lw_okq q
  exact List.forall_mem_append.mpr ⟨lw_r1, lw_r2⟩
-- ===== end of PART A; then your names; then what follows =====
/-! ===== BEGIN words of one list among another's, by their places ===== -/
theorem goodIn_r {big : List Cond} (ws : List Cond) (ps : List Nat) (hp : ws = ps.filterMap (fun i => big[i]?)) (h : ws.all goodWord = true) : GoodIn big ws := by
  intro w hw
  have h1 := List.all_eq_true.mp h w hw
  rw [hp] at hw
  obtain ⟨i, -, hi⟩ := List.mem_filterMap.mp hw
  have hm : w ∈ big := by first | exact List.mem_of_getElem? hi | exact List.getElem?_mem hi
  exact ⟨hm, good_of_word h1⟩
theorem goodIn_app {big a b : List Cond} (ha : GoodIn big a) (hb : GoodIn big b) : GoodIn big (a ++ b) := fun w h => (List.mem_append.mp h).elim (ha w) (hb w)
theorem goodIn_ca {big a b : List Cond} {c : Cond} (ha : GoodIn big (c :: a)) (hb : GoodIn big b) : GoodIn big (c :: (a ++ b)) := fun w h => (List.mem_cons.mp h).elim (fun e => ha w (List.mem_cons.mpr (Or.inl e))) (fun h => (List.mem_append.mp h).elim (fun h => ha w (List.mem_cons.mpr (Or.inr h))) (hb w))
theorem goodIn_sub {big ws : List Cond} (hm : ∀ w ∈ ws, w ∈ big) (h : ws.all goodWord = true) : GoodIn big ws := fun w hw => ⟨hm w hw, good_of_word (List.all_eq_true.mp h w hw)⟩
/-! ===== END ===== -/

/-! ===== BEGIN exceptions that leave a method, and their catching by the caller (launches without stack traces) ===== -/
section VXA
/-! The laws vx_back, vx_callV, vx_callS, vx_callSW, vx_throw0, vx_throwS follow proofs of the library, with one case more: JvmDerived/Free/Laws.lean (Back.of_free), Shelf42/LK1.lean (callV, callS), Shelf/KitTraced.lean (throwNew0V, throwNewS). -/
/-- where a method has thrown q: the class by its name, the cell, what was written, the world -/
def vx_T (XC : String → State → State → Prop) (st : State) (q : Addr) (t : State) (mc ms : Nat) (free : Addr → Prop) : Prop :=
  ∃ (E : String) (ce : Cell) (L : List Loc), XC E st t ∧ t.heap[q]? = some ce ∧ ce.vm = .none ∧ st.vm.findClass E = some ce.cls ∧ st.WarmedH t.vm ∧ st.sameButNew ({ t with vm := st.vm } : State) L mc ms ∧ ∀ z ∈ L, free z.base
def vx_Q (Qc : Array Value → State → Outcome → State → Prop) (XC : String → State → State → Prop) (mc ms : Nat) (free : Addr → Prop) : Array Value → State → Outcome → State → Prop := fun a st o t =>
  (Qc a st o t ∧ ∃ L, FrameEnd st o t L mc ms ∧ ∀ q ∈ L, free q.base) ∨ ∃ q, o = .threw q ∧ vx_T XC st q t mc ms free
/-- a callee that returns or throws -/
def vx_Met (l : Launch) (y : MethodName) (ws : List Cond) (rm : Room) (Pc : Array Value → State → Prop) (Qc : Array Value → State → Outcome → State → Prop) (XC : String → State → State → Prop) (mc ms : Nat) (free : Addr → Prop) : Prop :=
  MetFree l y (headSpec ws rm) Pc (fun _ _ _ _ _ => True) (vx_Q Qc XC mc ms free)
def vx_Post (XC : String → State → State → Prop) (mc ms : Nat) (free : Addr → Prop) : Pt → Array Value → Addr → Pt → Prop := fun A a q B =>
  ∃ (g : JFrame) (mk : MethodId) (t : State) (L : List Loc) (E : String) (ce : Cell), B.U.heap = t.heap ∧ B.U.vm = t.vm ∧ XC E (A.U.calling g mk a) t ∧ t.heap[q]? = some ce ∧ ce.vm = .none ∧ A.U.vm.findClass E = some ce.cls ∧ B.locs = A.locs ++ L ∧ (∀ z ∈ L, free z.base) ∧ B.cells = A.cells + mc ∧ B.slots = A.slots + ms
def vx_Back (l : Launch) (R : Room) (p : Program) (e : Env) (below : List Frame) (s : State) (sargs : Array Value) (y : MethodName) (len W9 : Nat)
    (Pre : Pt → Array Value → Prop) (Post : Pt → Array Value → Option Value → Pt → Prop) (PostX : Pt → Array Value → Addr → Pt → Prop) : Prop :=
  ∀ (m : MethodId) (meth : Method) (c : Code) (A : Pt) (g : JFrame) (ig : Instr) (mk : MethodId) (a : Array Value),
    Stand p l e R s m sargs below meth c A.U A.locs A.cells A.slots → g.method = m → g.locals.size = c.maxLocals → decode c.code g.pc = .ok (ig, len) →
    2 * g.monitorRoom + (g.stack.map fun v => v.category).sum ≤ W9 → A.U.methodNamed? y = some mk → Pre A a →
    (∃ (v : Option Value) (B : Pt), Stand p l e R s m sargs below meth c B.U B.locs B.cells B.slots ∧ Post A a v B ∧
      Steps p.tables e below (doInvoke e (A.U.setTop g) [] mk a).1 (B.U.setTop { g with pc := g.pc + len, stack := v.toList ++ g.stack })) ∨
    (∃ (q : Addr) (B : Pt), Stand p l e R s m sargs below meth c B.U B.locs B.cells B.slots ∧ PostX A a q B ∧
      Steps p.tables e below (doInvoke e (A.U.setTop g) [] mk a).1 ((B.U.setTop g).pushFrame (.throwing q)))
section Payer
variable {l : Launch} {R : Room} {p : Program} {e : Env} {below : List Frame} {s : State} {sargs : Array Value} {y : MethodName} {len W9 : Nat}
theorem vx_back {ws : List Cond} {rm : Room} {Pc : Array Value → State → Prop} {Qc : Array Value → State → Outcome → State → Prop} {XC : String → State → State → Prop} {mc ms : Nat} {free : Addr → Prop} {bytes : ByteArray} {maxL : Nat} {ret : Option FieldType}
    (hM : vx_Met l y ws rm Pc Qc XC mc ms free) (hblind : FrameBlind Pc) (hrc : rm.cells = mc) (hrs : rm.slots = ms)
    (hframes : rm.frames + 1 ≤ R.frames) (hlocals : W9 + (maxL + 11) + rm.locals ≤ R.locals)
    (hws : ∀ w ∈ ws, ∀ a' U, s.WarmedH U.vm → w.before a' U = true) (hcode : Cond.code y bytes maxL ret ∈ ws) (hinit : ∀ a' U, s.WarmedH U.vm → (Cond.initialized y.cls).before a' U = true) :
    vx_Back l R p e below s sargs y len W9 (PreOf R mc ms Pc) (PostOf Qc mc ms free) (vx_Post XC mc ms free) := by
  intro m meth c A g ig mk a X hg hsize hdg hW hn hp
  have h1 : (headSpec ws rm).pre.before a A.U = true := atoms_intro fun w hw => hws w hw _ _ X.warmed
  have h2 : (Cond.code y bytes maxL ret).before a A.U = true := hws _ hcode _ _ X.warmed
  have h3 : (Cond.initialized y.cls).before a A.U = true := hinit _ _ X.warmed
  have h4 : A.cells + (headSpec ws rm).room.cells ≤ R.cells := by rw [show (headSpec ws rm).room.cells = mc from hrc]; exact hp.1
  have h5 : A.slots + (headSpec ws rm).room.slots ≤ R.slots := by rw [show (headSpec ws rm).room.slots = ms from hrs]; exact hp.2.1
  have hPc : Pc a (A.U.calling g mk a) := hblind _ _ _ _ hp.2.2
  obtain ⟨U, Ls, c0, s0⟩ := A
  dsimp only [Pt.U, Pt.locs, Pt.cells, Pt.slots] at h1 h2 h3 h4 h5 X hn hPc ⊢
  obtain ⟨methY, cY, hmY, hcY, -, hlY, -, -, -, -⟩ := Cond.code_spec hn h2
  obtain ⟨kY, hkY, -⟩ := className_of_methodNamed hn
  have hinitY : kY.init = .initialized := Cond.initialized_spec (findClass_of_methodNamed hn) hkY h3
  have h : At U g.method c below := by rw [hg]; exact X.here
  have hlocals9 : W9 + (maxL + 11) + (headSpec ws rm).room.locals ≤ R.locals := hlocals
  have happ : (headSpec ws rm).appliesLoose y e.platform (U.calling g mk a) = true :=
    Spec.appliesLoose_calling (g := g) h hdg hn hkY hinitY
      (X.room_calling (g := g) (R' := (headSpec ws rm).room) hsize hmY hcY hframes (by rw [hlY]; omega) h4 h5) h1
  obtain ⟨mid, hmid⟩ := h.above
  have hfr : (U.setTop g).frames = (.java g :: mid) ++ below := by rw [State.frames_setTop' g h.top, hmid]; rfl
  obtain ⟨o, s₂, hsteps, -, hend, hq⟩ := Steps.callFree hM p X.admits X.cas X.clock (acts := []) hfr happ hPc trivial
  have hq' : vx_Q Qc XC mc ms free a (U.calling g mk a) o s₂ := hq
  rw [State.frames_setTop' g h.top] at hend
  obtain ⟨g₀, hg0⟩ := Option.isSome_iff_exists.mp h.top
  obtain ⟨r, hr⟩ := State.topJava?_eq_some.mp hg0
  have hr' : (({ U with heap := s₂.heap, slotsUsed := s₂.slotsUsed } : State).setVm s₂.vm).frames = .java g₀ :: r := hr
  rcases hq' with ⟨hqc, L, hfe, hL⟩ | ⟨q, rfl, E, ce, L, hx, hce, hcv, hcl, hW₂, hsm, hL⟩
  · obtain ⟨⟨v, rfl⟩, hW₂, e2, q2, q3, q4, q5, q6⟩ := id hfe
    have e3 : s₂ = ({ (U.calling g mk a).setFrames s₂.frames with heap := s₂.heap, slotsUsed := s₂.slotsUsed } : State).setVm s₂.vm := by
      have : s₂ = ({ s₂ with vm := (U.calling g mk a).vm } : State).setVm s₂.vm := rfl
      rw [e2] at this
      exact this
    obtain ⟨c₂, i₂, len₂, hc₂, hd₂, hf₂⟩ := hend
    have hW' : U.WarmedH s₂.vm := hW₂
    have hcc : c₂ = c := by
      have h1 : s₂.code? g.method = U.code? g.method := by
        rw [State.code?_eq, State.code?_eq, hW'.alike.method?]
      exact Option.some.inj (hc₂.symm.trans (h1.trans h.code))
    subst hcc
    have hlen : len₂ = len := by rw [hdg] at hd₂; cases hd₂; rfl
    subst hlen
    have hs₂ : s₂ = (({ U with heap := s₂.heap, slotsUsed := s₂.slotsUsed } : State).setVm s₂.vm).setTop { g with pc := g.pc + len₂, stack := v.toList ++ g.stack } := by
      refine e3.trans ?_
      rw [hf₂, State.calling_eq h.top, State.setFrames_setFrames, State.setTop_of_frames _ hr', hr]
      rfl
    have hsame : U.sameButNew ({ U with heap := s₂.heap, slotsUsed := s₂.slotsUsed } : State) L mc ms := by
      refine ⟨?_, q2, q3, q4, q5, q6⟩
      obtain ⟨t, ht, -⟩ := State.frames_cons hr
      show ({ U with heap := s₂.heap, slotsUsed := s₂.slotsUsed } : State) = { U.setFrames U.frames with heap := s₂.heap, slotsUsed := s₂.slotsUsed }
      rw [State.setFrames_self ht]
    subst hg
    refine Or.inl ⟨v, ⟨(({ U with heap := s₂.heap, slotsUsed := s₂.slotsUsed } : State).setVm s₂.vm), Ls ++ L, c0 + mc, s0 + ms⟩,
      ⟨X.admits, X.cas, X.clock, X.frames, X.room, X.hears, X.method, X.code, (X.here.setHeapUsed s₂.heap s₂.slotsUsed).setVm hW'.alike, X.tail, State.WarmedH.trans X.warmed hW', X.limits, X.bytes, X.same.trans (hsame.setVm s.vm)⟩,
      ⟨g, mk, s₂, L, rfl, rfl, hqc, rfl, hL, rfl, rfl⟩, ?_⟩
    show Steps p.tables e below _ ((({ U with heap := s₂.heap, slotsUsed := s₂.slotsUsed } : State).setVm s₂.vm).setTop { g with pc := g.pc + len₂, stack := v.toList ++ g.stack })
    rw [← hs₂]
    exact hsteps
  · obtain ⟨e2, q2, q3, q4, q5, q6⟩ := id hsm
    have e3 : s₂ = ({ (U.calling g mk a).setFrames s₂.frames with heap := s₂.heap, slotsUsed := s₂.slotsUsed } : State).setVm s₂.vm := by
      have : s₂ = ({ s₂ with vm := (U.calling g mk a).vm } : State).setVm s₂.vm := rfl
      rw [e2] at this
      exact this
    have hf₂ : s₂.frames = .throwing q :: .java g :: U.frames.tail := hend
    have hW' : U.WarmedH s₂.vm := hW₂
    have hs₂ : s₂ = ((({ U with heap := s₂.heap, slotsUsed := s₂.slotsUsed } : State).setVm s₂.vm).setTop g).pushFrame (.throwing q) := by
      refine e3.trans ?_
      rw [hf₂, State.calling_eq h.top, State.setFrames_setFrames, State.pushFrame, State.frames_setTop _ hr', State.setTop_of_frames _ hr', State.setFrames_setFrames, hr]
      rfl
    have hsame : U.sameButNew ({ U with heap := s₂.heap, slotsUsed := s₂.slotsUsed } : State) L mc ms := by
      refine ⟨?_, q2, q3, q4, q5, q6⟩
      obtain ⟨t, ht, -⟩ := State.frames_cons hr
      show ({ U with heap := s₂.heap, slotsUsed := s₂.slotsUsed } : State) = { U.setFrames U.frames with heap := s₂.heap, slotsUsed := s₂.slotsUsed }
      rw [State.setFrames_self ht]
    subst hg
    refine Or.inr ⟨q, ⟨(({ U with heap := s₂.heap, slotsUsed := s₂.slotsUsed } : State).setVm s₂.vm), Ls ++ L, c0 + mc, s0 + ms⟩,
      ⟨X.admits, X.cas, X.clock, X.frames, X.room, X.hears, X.method, X.code, (X.here.setHeapUsed s₂.heap s₂.slotsUsed).setVm hW'.alike, X.tail, State.WarmedH.trans X.warmed hW', X.limits, X.bytes, X.same.trans (hsame.setVm s.vm)⟩,
      ⟨g, mk, s₂, L, E, ce, rfl, rfl, hx, hce, hcv, hcl, rfl, hL, rfl, rfl⟩, ?_⟩
    show Steps p.tables e below _ (((({ U with heap := s₂.heap, slotsUsed := s₂.slotsUsed } : State).setVm s₂.vm).setTop g).pushFrame (.throwing q))
    rw [← hs₂]
    exact hsteps
end Payer
section Calls
variable {p : Program} {l : Launch} {e : Env} {R : Room} {s : State} {m : MethodId} {args : Array Value} {below : List Frame} {meth : Method} {c : Code} {T : State} {locs : List Loc} {cells slots : Nat}
theorem vx_callV (X : Stand p l e R s m args below meth c T locs cells slots) (hexec : p.tables.exec = Jvm.exec) {own C : String} {index : Nat} {y : MethodName} {bytes : ByteArray} {maxL : Nat} {ret : Option FieldType}
    (hown : s.vm.findClass own = some m.cls) (hlink : (Cond.methodLink own index y).before args s = true) (hinst : (Cond.instanceMethod y).before args s = true) (hsel : (Cond.selects C y y).before args s = true)
    (hcode : (Cond.code y bytes maxL ret).before args s = true) (hy : y.cls ≠ "java/lang/invoke/MethodHandle" ∧ y.cls ≠ "java/lang/invoke/VarHandle")
    {W9 : Nat} {Pre : Pt → Array Value → Prop} {Post : Pt → Array Value → Option Value → Pt → Prop} {PostX : Pt → Array Value → Addr → Pt → Prop} (hK : vx_Back l R p e below s args y 3 W9 Pre Post PostX)
    {b : Addr} {cellB : Cell} (hcell : T.heap[b]? = some cellB) (hobj : cellB.vm.isStatics = false) (hcls : s.vm.findClass C = some cellB.cls)
    {g : JFrame} (hg : g.method = m) (hsize : g.locals.size = c.maxLocals) {argsL rest : List Value} (hlen : ∀ sig, parseMethodDescriptor y.desc = some sig → argsL.length = sig.parameters.length)
    (hstack : g.stack = argsL.reverse ++ .ref b :: rest) (hW : 2 * g.monitorRoom + (rest.map fun v => v.category).sum ≤ W9) (hdg : decode c.code g.pc = .ok (.invokevirtual index, 3))
    (hpre : ∀ vm₁, s.WarmedH vm₁ → Pre ⟨T.setVm vm₁, locs, cells, slots⟩ (Value.ref b :: argsL).toArray) :
    (∃ (v : Option Value) (vm₁ : Vm) (B : Pt), s.WarmedH vm₁ ∧ Stand p l e R s m args below meth c B.U B.locs B.cells B.slots ∧ Post ⟨T.setVm vm₁, locs, cells, slots⟩ (Value.ref b :: argsL).toArray v B ∧
      ∀ target, Steps p.tables e below (B.U.setTop { g with pc := g.pc + 3, stack := v.toList ++ rest }) target → Steps p.tables e below (T.setTop g) target) ∨
    (∃ (q : Addr) (vm₁ : Vm) (B : Pt), s.WarmedH vm₁ ∧ Stand p l e R s m args below meth c B.U B.locs B.cells B.slots ∧ PostX ⟨T.setVm vm₁, locs, cells, slots⟩ (Value.ref b :: argsL).toArray q B ∧
      Steps p.tables e below (T.setTop g) ((B.U.setTop { g with stack := rest }).pushFrame (.throwing q))) := by
  obtain ⟨mk, methM, hnamed, hmethM, hstM, habM⟩ := Cond.instanceMethod_spec hinst
  obtain ⟨methM', cM, hmethM', -, -, -, -, -, -, hsigM⟩ := Cond.code_spec hnamed hcode
  cases hmethM.symm.trans hmethM'
  obtain ⟨c2, r2, m2, q1, q2, q3, q4, kP, hkP, hkPi⟩ := Cond.selects_spec hsel
  cases hcls.symm.trans q1
  cases (State.methodFound?_of_named hnamed hy).symm.trans q2
  cases hnamed.symm.trans q3
  have hselP : selectMethod e.platform s.vm cellB.cls mk = .method mk := by rw [Launch.admits_selectMethod X.admits]; exact q4
  obtain ⟨vm₁, X₁, hstep₁⟩ := X.invokevirtual hexec hown hlink hnamed hmethM hstM hkP hkPi hy (a := b) (cell := cellB) hcell
    (fun z h => by rw [h] at hobj; cases hobj) hselP hmethM habM hkP hkPi (g := g) hg (argsL := argsL) (rest := rest) (hlen _ hsigM) hstack hdg
  rcases hK m meth c ⟨T.setVm vm₁, locs, cells, slots⟩ { g with stack := rest } (.invokevirtual index) mk (Value.ref b :: argsL).toArray X₁ hg hsize hdg hW (X₁.named hnamed) (hpre vm₁ X₁.warmed) with ⟨v, B, X', hpost, hsteps⟩ | ⟨q, B, X', hpost, hsteps⟩
  · exact Or.inl ⟨v, vm₁, B, X₁.warmed, X', hpost, fun target h => hstep₁ _ fun acts => by rw [doInvoke_state]; exact hsteps.trans h⟩
  · exact Or.inr ⟨q, vm₁, B, X₁.warmed, X', hpost, hstep₁ _ fun acts => by rw [doInvoke_state]; exact hsteps⟩
theorem vx_callS (X : Stand p l e R s m args below meth c T locs cells slots) (hexec : p.tables.exec = Jvm.exec) {own : String} {index : Nat} {y : MethodName} {bytes : ByteArray} {maxL : Nat} {ret : Option FieldType}
    (hown : s.vm.findClass own = some m.cls) (hlink : (Cond.methodLink own index y).before args s = true) (hstat : (Cond.static y).before args s = true) (hinit : (Cond.initialized y.cls).before args s = true)
    (hcode : (Cond.code y bytes maxL ret).before args s = true) (hy : y.cls ≠ "java/lang/invoke/MethodHandle" ∧ y.cls ≠ "java/lang/invoke/VarHandle")
    {W9 : Nat} {Pre : Pt → Array Value → Prop} {Post : Pt → Array Value → Option Value → Pt → Prop} {PostX : Pt → Array Value → Addr → Pt → Prop} (hK : vx_Back l R p e below s args y 3 W9 Pre Post PostX)
    {g : JFrame} (hg : g.method = m) (hsize : g.locals.size = c.maxLocals) {argsL rest : List Value} (hlen : ∀ sig, parseMethodDescriptor y.desc = some sig → argsL.length = sig.parameters.length)
    (hstack : g.stack = argsL.reverse ++ rest) (hW : 2 * g.monitorRoom + (rest.map fun v => v.category).sum ≤ W9) (hdg : decode c.code g.pc = .ok (.invokestatic index, 3))
    (hpre : ∀ vm₁, s.WarmedH vm₁ → Pre ⟨T.setVm vm₁, locs, cells, slots⟩ argsL.toArray) :
    (∃ (v : Option Value) (vm₁ : Vm) (B : Pt), s.WarmedH vm₁ ∧ Stand p l e R s m args below meth c B.U B.locs B.cells B.slots ∧ Post ⟨T.setVm vm₁, locs, cells, slots⟩ argsL.toArray v B ∧
      ∀ target, Steps p.tables e below (B.U.setTop { g with pc := g.pc + 3, stack := v.toList ++ rest }) target → Steps p.tables e below (T.setTop g) target) ∨
    (∃ (q : Addr) (vm₁ : Vm) (B : Pt), s.WarmedH vm₁ ∧ Stand p l e R s m args below meth c B.U B.locs B.cells B.slots ∧ PostX ⟨T.setVm vm₁, locs, cells, slots⟩ argsL.toArray q B ∧
      Steps p.tables e below (T.setTop g) ((B.U.setTop { g with stack := rest }).pushFrame (.throwing q))) := by
  obtain ⟨mk, hnamed⟩ := Cond.code_named hcode
  obtain ⟨methM, cM, hmethM, -, -, -, -, -, -, hsigM⟩ := Cond.code_spec hnamed hcode
  have hstatic : methM.isStatic = true := Cond.static_spec hnamed hmethM hstat
  obtain ⟨kP, hkP, -⟩ := className_of_methodNamed hnamed
  have hinitP : kP.init = .initialized := Cond.initialized_spec (findClass_of_methodNamed hnamed) hkP hinit
  obtain ⟨vm₁, X₁, hstep₁⟩ := X.invokestatic hexec hown hlink hnamed hmethM hstatic hkP hinitP hy (g := g) hg (argsL := argsL) (rest := rest) (hlen _ hsigM) hstack hdg
  rcases hK m meth c ⟨T.setVm vm₁, locs, cells, slots⟩ { g with stack := rest } (.invokestatic index) mk argsL.toArray X₁ hg hsize hdg hW (X₁.named hnamed) (hpre vm₁ X₁.warmed) with ⟨v, B, X', hpost, hsteps⟩ | ⟨q, B, X', hpost, hsteps⟩
  · exact Or.inl ⟨v, vm₁, B, X₁.warmed, X', hpost, fun target h => hstep₁ _ fun acts => by rw [doInvoke_state]; exact hsteps.trans h⟩
  · exact Or.inr ⟨q, vm₁, B, X₁.warmed, X', hpost, hstep₁ _ fun acts => by rw [doInvoke_state]; exact hsteps⟩
end Calls
theorem vx_cls {s : State} {T : State} {vm₁ : Vm} {E : String} {k : ClassId} (hW : s.WarmedH vm₁) (h : (T.setVm vm₁).vm.findClass E = some k) : s.vm.findClass E = some k := by
  have h1 : vm₁.findClass E = some k := h
  rw [hW.alike.findClass] at h1
  exact h1
/-- the method's frame g, with q thrown over it -/
def vx_W (p : Program) (l : Launch) (e : Env) (R : Room) (s : State) (m : MethodId) (args : Array Value) (below : List Frame) (meth : Method) (c : Code) (H : Heap) (locs : List Loc) (cells slots : Nat) (Q : State → Prop) (g : JFrame) (q : Addr) : Prop :=
  ∀ T : State, T.heap = H → Stand p l e R s m args below meth c T locs cells slots → ∃ t, Steps p.tables e below ((T.setTop g).pushFrame (.throwing q)) t ∧ Q t
def vx_Run (p : Program) (l : Launch) (e : Env) (R : Room) (s : State) (m : MethodId) (args : Array Value) (below : List Frame) (meth : Method) (c : Code) (H : Heap) (locs : List Loc) (cells slots mc ms : Nat) (g : JFrame) (rest : List Value) (Qa : State → Outcome → State → Prop) (XC : String → State → State → Prop) (free : Addr → Prop) : Prop :=
  ∀ T : State, T.heap = H → Stand p l e R s m args below meth c T locs cells slots →
    (∃ (v : Option Value) (st₀ t T' : State) (L : List Loc), st₀.heap = H ∧ Stand p l e R s m args below meth c T' (locs ++ L) (cells + mc) (slots + ms) ∧ (∀ q ∈ L, free q.base) ∧ T'.heap = t.heap ∧ T'.vm = t.vm ∧ Qa st₀ (.returned v) t ∧
      Goes p e below T g T' { g with pc := g.pc + 3, stack := v.toList ++ rest }) ∨
    (∃ (q : Addr) (st₀ t T' : State) (L : List Loc) (E : String) (ce : Cell), st₀.heap = H ∧ Stand p l e R s m args below meth c T' (locs ++ L) (cells + mc) (slots + ms) ∧ (∀ z ∈ L, free z.base) ∧ T'.heap = t.heap ∧ T'.vm = t.vm ∧ XC E st₀ t ∧ t.heap[q]? = some ce ∧ ce.vm = .none ∧ s.vm.findClass E = some ce.cls ∧
      Steps p.tables e below (T.setTop g) ((T'.setTop { g with stack := rest }).pushFrame (.throwing q)))
def vx_X {S : Type} (px : S → Prop) (B : String → S → State → Prop) (A : Nat → Prop) : String → State → State → Prop := fun E st t => ∃ u : S, px u ∧ B E u t ∧ va_F A st t
section Runs
variable {p : Program} {l : Launch} {e : Env} {R : Room} {s : State} {m : MethodId} {args : Array Value} {below : List Frame} {meth : Method} {c : Code} {H : Heap} {locs : List Loc} {cells slots : Nat}
variable {y : MethodName} {bytes cc : ByteArray} {maxL nL mc ms n index : Nat} {ret : Option FieldType} {ws : List Cond} {rm : Room} {Pc : Array Value → State → Prop} {Qc : Array Value → State → Outcome → State → Prop} {XC : String → State → State → Prop} {free : Addr → Prop} {Ts : List Cond} {own C : String} {b : Addr} {As rest : List Value} {g : JFrame}
theorem vx_callBack (cb : CallB R s args own index y bytes maxL ret ws rm mc ms n) (hM : vx_Met l y ws rm Pc Qc XC mc ms free) (hbl : FrameBlind Pc) : vx_Back l R p e below s args y 3 8 (PreOf R mc ms Pc) (PostOf Qc mc ms free) (vx_Post XC mc ms free) := by
  obtain ⟨hrc, hrs, hfr, hlo, hws, hcw, -, hini, -⟩ := cb
  exact vx_back (bytes := bytes) (maxL := maxL) (ret := ret) hM hbl hrc hrs hfr hlo hws hcw (fun a' U hW => word_at hW (Or.inl (by first | rfl | simp [Cond.onTables, Cond.keeps, Cond.steady])) hini)
theorem vx_runV (S : CallFix p m c cc nL s args Ts own) (hM : vx_Met l y ws rm Pc Qc XC mc ms free) (cw : CallW R s args own C index y bytes maxL ret ws rm mc ms n) (hp : PreV s H C b Pc As)
    (hg : g.method = m) (hn : As.length = n) (hsize : g.locals.size = nL) (hstack : g.stack = As.reverse ++ .ref b :: rest) (hW : 2 * g.monitorRoom + (rest.map fun v => v.category).sum ≤ 8) (hdg : decode cc g.pc = .ok (.invokevirtual index, 3)) (hf : cells + mc ≤ R.cells ∧ slots + ms ≤ R.slots) :
    vx_Run p l e R s m args below meth c H locs cells slots mc ms g rest (Qc (Value.ref b :: As).toArray) XC free := by
  have hK : vx_Back l R p e below s args y 3 8 (PreOf R mc ms Pc) (PostOf Qc mc ms free) (vx_Post XC mc ms free) := vx_callBack cw.1 hM hp.1
  obtain ⟨⟨-, -, -, -, -, -, hcode, -, hy, hlen, hl⟩, hin, hse⟩ := cw
  obtain ⟨hx, hb, hml, ho, -⟩ := S
  obtain ⟨-, ⟨cellB, hcB, hoB, hclB⟩, hPc⟩ := hp
  intro T hT X
  rcases vx_callV X hx (C := C) (bytes := bytes) (maxL := maxL) (ret := ret) ho hl hin hse hcode hy hK (by rw [hT]; exact hcB) hoB hclB hg (hsize.trans hml.symm) (argsL := As) (rest := rest) (fun sig h => hn.trans (hlen sig h)) hstack hW (by rw [hb]; exact hdg)
    (fun vm₁ hW₁ => ⟨hf.1, hf.2, hPc (T.setVm vm₁) hT hW₁⟩) with ⟨v, vm₁, ⟨U', l2, c2, s2⟩, hW₁, X', ⟨g', mk, t, L, e1, e2, hq, h1, hL, h2, h3⟩, st⟩ | ⟨q, vm₁, ⟨U', l2, c2, s2⟩, hW₁, X', ⟨g', mk, t, L, E, ce, e1, e2, hq, hce, hcv, hcl, h1, hL, h2, h3⟩, st⟩
  · dsimp only [Pt.U, Pt.locs, Pt.cells, Pt.slots] at X' e1 e2 h1 h2 h3 st
    subst h1; subst h2; subst h3
    exact Or.inl ⟨v, (T.setVm vm₁).calling g' mk (Value.ref b :: As).toArray, t, U', L, hT, X', hL, e1, e2, hq, st⟩
  · dsimp only [Pt.U, Pt.locs, Pt.cells, Pt.slots] at X' e1 e2 h1 h2 h3 st hcl
    subst h1; subst h2; subst h3
    exact Or.inr ⟨q, (T.setVm vm₁).calling g' mk (Value.ref b :: As).toArray, t, U', L, E, ce, hT, X', hL, e1, e2, hq, hce, hcv, vx_cls hW₁ hcl, st⟩
theorem vx_runS (S : CallFix p m c cc nL s args Ts own) (hM : vx_Met l y ws rm Pc Qc XC mc ms free) (cw : CallB R s args own index y bytes maxL ret ws rm mc ms n ∧ (Cond.static y).before args s = true) (hp : PreS s H Pc As)
    (hg : g.method = m) (hn : As.length = n) (hsize : g.locals.size = nL) (hstack : g.stack = As.reverse ++ rest) (hW : 2 * g.monitorRoom + (rest.map fun v => v.category).sum ≤ 8) (hdg : decode cc g.pc = .ok (.invokestatic index, 3)) (hf : cells + mc ≤ R.cells ∧ slots + ms ≤ R.slots) :
    vx_Run p l e R s m args below meth c H locs cells slots mc ms g rest (Qc As.toArray) XC free := by
  have hK : vx_Back l R p e below s args y 3 8 (PreOf R mc ms Pc) (PostOf Qc mc ms free) (vx_Post XC mc ms free) := vx_callBack cw.1 hM hp.1
  obtain ⟨⟨-, -, -, -, -, -, hcode, hini, hy, hlen, hl⟩, hstt⟩ := cw
  obtain ⟨hx, hb, hml, ho, -⟩ := S
  intro T hT X
  rcases vx_callS X hx (bytes := bytes) (maxL := maxL) (ret := ret) ho hl hstt hini hcode hy hK hg (hsize.trans hml.symm) (argsL := As) (rest := rest) (fun sig h => hn.trans (hlen sig h)) hstack hW (by rw [hb]; exact hdg)
    (fun vm₁ hW₁ => ⟨hf.1, hf.2, hp.2 (T.setVm vm₁) hT hW₁⟩) with ⟨v, vm₁, ⟨U', l2, c2, s2⟩, hW₁, X', ⟨g', mk, t, L, e1, e2, hq, h1, hL, h2, h3⟩, st⟩ | ⟨q, vm₁, ⟨U', l2, c2, s2⟩, hW₁, X', ⟨g', mk, t, L, E, ce, e1, e2, hq, hce, hcv, hcl, h1, hL, h2, h3⟩, st⟩
  · dsimp only [Pt.U, Pt.locs, Pt.cells, Pt.slots] at X' e1 e2 h1 h2 h3 st
    subst h1; subst h2; subst h3
    exact Or.inl ⟨v, (T.setVm vm₁).calling g' mk As.toArray, t, U', L, hT, X', hL, e1, e2, hq, st⟩
  · dsimp only [Pt.U, Pt.locs, Pt.cells, Pt.slots] at X' e1 e2 h1 h2 h3 st hcl
    subst h1; subst h2; subst h3
    exact Or.inr ⟨q, (T.setVm vm₁).calling g' mk As.toArray, t, U', L, E, ce, hT, X', hL, e1, e2, hq, hce, hcv, vx_cls hW₁ hcl, st⟩
end Runs
section Rows
variable {p : Program} {l : Launch} {e : Env} {R : Room} {s : State} {m : MethodId} {args : Array Value} {below : List Frame} {meth : Method} {c : Code} {H : Heap} {locs : List Loc} {cells slots : Nat} {Q : State → Prop}
variable {mc ms : Nat} {free : Addr → Prop} {A0 A1 : Nat → Prop} {H0 : Heap} {a : Array Value} {pc : Nat} {ls : Array Slot} {st0 rest : List Value}
theorem vx_keep {st₀ t T' : State} {L : List Loc} (h0 : st₀.heap = H) (e1 : T'.heap = t.heap) (hS : va_S A0 H0 H locs) (hA : ∀ q, q < H.size → A1 q → A0 q) (hf : ∀ q, free q → A0 q) (hL : ∀ q ∈ L, free q.base) (hF : va_F A1 st₀ t) :
    H.size ≤ T'.heap.size ∧ (∀ q : Nat, q < H.size → ¬ A1 q → T'.heap[q]? = H[q]?) ∧ va_S A0 H0 T'.heap (locs ++ L) := by
  obtain ⟨hz, hk⟩ := hF
  rw [h0] at hz hk
  exact ⟨by rw [e1]; exact hz, fun q h1 h2 => by rw [e1]; exact hk q h1 h2,
    ⟨Nat.le_trans hS.1 (by rw [e1]; exact hz), fun q h1 h2 => by rw [e1, hk q (Nat.lt_of_lt_of_le h1 hS.1) (fun z => h2 (hA q (Nat.lt_of_lt_of_le h1 hS.1) z))]; exact hS.2.1 q h1 h2, fun q hq => by
      rcases List.mem_append.mp hq with h | h
      · exact hS.2.2 q h
      · exact hf _ (hL q h)⟩⟩
theorem vx_calli {S SX : Type} {post : Int32 → S → Prop} {px : SX → Prop} {B : S → State → Prop} {BX : String → SX → State → Prop} {AX : Nat → Prop} (hr : vx_Run p l e R s m args below meth c H locs cells slots mc ms (F0 m pc ls st0) rest (va_Qi post B A1 a) (vx_X px BX AX) free) (hS : va_S A0 H0 H locs) (hA : ∀ q, q < H.size → A1 q → A0 q) (hf : ∀ q, free q → A0 q) (hAX : ∀ q, q < H.size → AX q → A0 q)
    (kx : ∀ (E : String) (ce : Cell) (q9 : Addr) (u : SX) (t : State) (H1 : Heap) (locs1 : List Loc), t.heap = H1 → s.vm.Alike t.vm → px u → BX E u t → H.size ≤ H1.size → (∀ q : Nat, q < H.size → ¬ AX q → H1[q]? = H[q]?) → va_S A0 H0 H1 locs1 → H1[q9]? = some ce → ce.vm = .none → s.vm.findClass E = some ce.cls → vx_W p l e R s m args below meth c H1 locs1 (cells + mc) (slots + ms) Q (F0 m pc ls rest) q9)
    (kk : ∀ (r : Int32) (u : S) (t : State) (H1 : Heap) (locs1 : List Loc), t.heap = H1 → s.vm.Alike t.vm → post r u → B u t → H.size ≤ H1.size → (∀ q : Nat, q < H.size → ¬ A1 q → H1[q]? = H[q]?) → va_S A0 H0 H1 locs1 → W p l e R s m args below meth c H1 locs1 (cells + mc) (slots + ms) Q (F0 m (pc + 3) ls (.int r :: rest))) : W p l e R s m args below meth c H locs cells slots Q (F0 m pc ls st0) := by
  intro T hT X
  rcases hr T hT X with ⟨v, st₀, t, T', L, h0, X', hL, e1, e2, ⟨⟨r, u, hv, hp, hb⟩, hF⟩, st⟩ | ⟨q, st₀, t, T', L, E, ce, h0, X', hL, e1, e2, ⟨u, hp, hb, hF⟩, hce, hcv, hcl, st⟩
  · cases hv
    obtain ⟨k1, k2, k3⟩ := vx_keep h0 e1 hS hA hf hL hF
    obtain ⟨t2, a1, b1⟩ := kk r u t T'.heap (locs ++ L) e1.symm (by rw [← e2]; exact X'.warmed.alike) hp hb k1 k2 k3 T' rfl X'
    exact ⟨t2, st t2 a1, b1⟩
  · obtain ⟨k1, k2, k3⟩ := vx_keep h0 e1 hS hAX hf hL hF
    obtain ⟨t2, a1, b1⟩ := kx E ce q u t T'.heap (locs ++ L) e1.symm (by rw [← e2]; exact X'.warmed.alike) hp hb k1 k2 k3 (by rw [e1]; exact hce) hcv hcl T' rfl X'
    exact ⟨t2, st.trans a1, b1⟩
theorem vx_calll {S SX : Type} {post : Int64 → S → Prop} {px : SX → Prop} {B : S → State → Prop} {BX : String → SX → State → Prop} {AX : Nat → Prop} (hr : vx_Run p l e R s m args below meth c H locs cells slots mc ms (F0 m pc ls st0) rest (va_Ql post B A1 a) (vx_X px BX AX) free) (hS : va_S A0 H0 H locs) (hA : ∀ q, q < H.size → A1 q → A0 q) (hf : ∀ q, free q → A0 q) (hAX : ∀ q, q < H.size → AX q → A0 q)
    (kx : ∀ (E : String) (ce : Cell) (q9 : Addr) (u : SX) (t : State) (H1 : Heap) (locs1 : List Loc), t.heap = H1 → s.vm.Alike t.vm → px u → BX E u t → H.size ≤ H1.size → (∀ q : Nat, q < H.size → ¬ AX q → H1[q]? = H[q]?) → va_S A0 H0 H1 locs1 → H1[q9]? = some ce → ce.vm = .none → s.vm.findClass E = some ce.cls → vx_W p l e R s m args below meth c H1 locs1 (cells + mc) (slots + ms) Q (F0 m pc ls rest) q9)
    (kk : ∀ (r : Int64) (u : S) (t : State) (H1 : Heap) (locs1 : List Loc), t.heap = H1 → s.vm.Alike t.vm → post r u → B u t → H.size ≤ H1.size → (∀ q : Nat, q < H.size → ¬ A1 q → H1[q]? = H[q]?) → va_S A0 H0 H1 locs1 → W p l e R s m args below meth c H1 locs1 (cells + mc) (slots + ms) Q (F0 m (pc + 3) ls (.long r :: rest))) : W p l e R s m args below meth c H locs cells slots Q (F0 m pc ls st0) := by
  intro T hT X
  rcases hr T hT X with ⟨v, st₀, t, T', L, h0, X', hL, e1, e2, ⟨⟨r, u, hv, hp, hb⟩, hF⟩, st⟩ | ⟨q, st₀, t, T', L, E, ce, h0, X', hL, e1, e2, ⟨u, hp, hb, hF⟩, hce, hcv, hcl, st⟩
  · cases hv
    obtain ⟨k1, k2, k3⟩ := vx_keep h0 e1 hS hA hf hL hF
    obtain ⟨t2, a1, b1⟩ := kk r u t T'.heap (locs ++ L) e1.symm (by rw [← e2]; exact X'.warmed.alike) hp hb k1 k2 k3 T' rfl X'
    exact ⟨t2, st t2 a1, b1⟩
  · obtain ⟨k1, k2, k3⟩ := vx_keep h0 e1 hS hAX hf hL hF
    obtain ⟨t2, a1, b1⟩ := kx E ce q u t T'.heap (locs ++ L) e1.symm (by rw [← e2]; exact X'.warmed.alike) hp hb k1 k2 k3 (by rw [e1]; exact hce) hcv hcl T' rfl X'
    exact ⟨t2, st.trans a1, b1⟩
theorem vx_callf {S SX : Type} {post : UInt32 → S → Prop} {px : SX → Prop} {B : S → State → Prop} {BX : String → SX → State → Prop} {AX : Nat → Prop} (hr : vx_Run p l e R s m args below meth c H locs cells slots mc ms (F0 m pc ls st0) rest (va_Qf post B A1 a) (vx_X px BX AX) free) (hS : va_S A0 H0 H locs) (hA : ∀ q, q < H.size → A1 q → A0 q) (hf : ∀ q, free q → A0 q) (hAX : ∀ q, q < H.size → AX q → A0 q)
    (kx : ∀ (E : String) (ce : Cell) (q9 : Addr) (u : SX) (t : State) (H1 : Heap) (locs1 : List Loc), t.heap = H1 → s.vm.Alike t.vm → px u → BX E u t → H.size ≤ H1.size → (∀ q : Nat, q < H.size → ¬ AX q → H1[q]? = H[q]?) → va_S A0 H0 H1 locs1 → H1[q9]? = some ce → ce.vm = .none → s.vm.findClass E = some ce.cls → vx_W p l e R s m args below meth c H1 locs1 (cells + mc) (slots + ms) Q (F0 m pc ls rest) q9)
    (kk : ∀ (r : UInt32) (u : S) (t : State) (H1 : Heap) (locs1 : List Loc), t.heap = H1 → s.vm.Alike t.vm → post r u → B u t → H.size ≤ H1.size → (∀ q : Nat, q < H.size → ¬ A1 q → H1[q]? = H[q]?) → va_S A0 H0 H1 locs1 → W p l e R s m args below meth c H1 locs1 (cells + mc) (slots + ms) Q (F0 m (pc + 3) ls (.float r :: rest))) : W p l e R s m args below meth c H locs cells slots Q (F0 m pc ls st0) := by
  intro T hT X
  rcases hr T hT X with ⟨v, st₀, t, T', L, h0, X', hL, e1, e2, ⟨⟨r, u, hv, hp, hb⟩, hF⟩, st⟩ | ⟨q, st₀, t, T', L, E, ce, h0, X', hL, e1, e2, ⟨u, hp, hb, hF⟩, hce, hcv, hcl, st⟩
  · cases hv
    obtain ⟨k1, k2, k3⟩ := vx_keep h0 e1 hS hA hf hL hF
    obtain ⟨t2, a1, b1⟩ := kk r u t T'.heap (locs ++ L) e1.symm (by rw [← e2]; exact X'.warmed.alike) hp hb k1 k2 k3 T' rfl X'
    exact ⟨t2, st t2 a1, b1⟩
  · obtain ⟨k1, k2, k3⟩ := vx_keep h0 e1 hS hAX hf hL hF
    obtain ⟨t2, a1, b1⟩ := kx E ce q u t T'.heap (locs ++ L) e1.symm (by rw [← e2]; exact X'.warmed.alike) hp hb k1 k2 k3 (by rw [e1]; exact hce) hcv hcl T' rfl X'
    exact ⟨t2, st.trans a1, b1⟩
theorem vx_calld {S SX : Type} {post : UInt64 → S → Prop} {px : SX → Prop} {B : S → State → Prop} {BX : String → SX → State → Prop} {AX : Nat → Prop} (hr : vx_Run p l e R s m args below meth c H locs cells slots mc ms (F0 m pc ls st0) rest (va_Qd post B A1 a) (vx_X px BX AX) free) (hS : va_S A0 H0 H locs) (hA : ∀ q, q < H.size → A1 q → A0 q) (hf : ∀ q, free q → A0 q) (hAX : ∀ q, q < H.size → AX q → A0 q)
    (kx : ∀ (E : String) (ce : Cell) (q9 : Addr) (u : SX) (t : State) (H1 : Heap) (locs1 : List Loc), t.heap = H1 → s.vm.Alike t.vm → px u → BX E u t → H.size ≤ H1.size → (∀ q : Nat, q < H.size → ¬ AX q → H1[q]? = H[q]?) → va_S A0 H0 H1 locs1 → H1[q9]? = some ce → ce.vm = .none → s.vm.findClass E = some ce.cls → vx_W p l e R s m args below meth c H1 locs1 (cells + mc) (slots + ms) Q (F0 m pc ls rest) q9)
    (kk : ∀ (r : UInt64) (u : S) (t : State) (H1 : Heap) (locs1 : List Loc), t.heap = H1 → s.vm.Alike t.vm → post r u → B u t → H.size ≤ H1.size → (∀ q : Nat, q < H.size → ¬ A1 q → H1[q]? = H[q]?) → va_S A0 H0 H1 locs1 → W p l e R s m args below meth c H1 locs1 (cells + mc) (slots + ms) Q (F0 m (pc + 3) ls (.double r :: rest))) : W p l e R s m args below meth c H locs cells slots Q (F0 m pc ls st0) := by
  intro T hT X
  rcases hr T hT X with ⟨v, st₀, t, T', L, h0, X', hL, e1, e2, ⟨⟨r, u, hv, hp, hb⟩, hF⟩, st⟩ | ⟨q, st₀, t, T', L, E, ce, h0, X', hL, e1, e2, ⟨u, hp, hb, hF⟩, hce, hcv, hcl, st⟩
  · cases hv
    obtain ⟨k1, k2, k3⟩ := vx_keep h0 e1 hS hA hf hL hF
    obtain ⟨t2, a1, b1⟩ := kk r u t T'.heap (locs ++ L) e1.symm (by rw [← e2]; exact X'.warmed.alike) hp hb k1 k2 k3 T' rfl X'
    exact ⟨t2, st t2 a1, b1⟩
  · obtain ⟨k1, k2, k3⟩ := vx_keep h0 e1 hS hAX hf hL hF
    obtain ⟨t2, a1, b1⟩ := kx E ce q u t T'.heap (locs ++ L) e1.symm (by rw [← e2]; exact X'.warmed.alike) hp hb k1 k2 k3 (by rw [e1]; exact hce) hcv hcl T' rfl X'
    exact ⟨t2, st.trans a1, b1⟩
theorem vx_callv {S SX : Type} {post : S → Prop} {px : SX → Prop} {B : S → State → Prop} {BX : String → SX → State → Prop} {AX : Nat → Prop} (hr : vx_Run p l e R s m args below meth c H locs cells slots mc ms (F0 m pc ls st0) rest (va_Qv post B A1 a) (vx_X px BX AX) free) (hS : va_S A0 H0 H locs) (hA : ∀ q, q < H.size → A1 q → A0 q) (hf : ∀ q, free q → A0 q) (hAX : ∀ q, q < H.size → AX q → A0 q)
    (kx : ∀ (E : String) (ce : Cell) (q9 : Addr) (u : SX) (t : State) (H1 : Heap) (locs1 : List Loc), t.heap = H1 → s.vm.Alike t.vm → px u → BX E u t → H.size ≤ H1.size → (∀ q : Nat, q < H.size → ¬ AX q → H1[q]? = H[q]?) → va_S A0 H0 H1 locs1 → H1[q9]? = some ce → ce.vm = .none → s.vm.findClass E = some ce.cls → vx_W p l e R s m args below meth c H1 locs1 (cells + mc) (slots + ms) Q (F0 m pc ls rest) q9)
    (kk : ∀ (u : S) (t : State) (H1 : Heap) (locs1 : List Loc), t.heap = H1 → s.vm.Alike t.vm → post u → B u t → H.size ≤ H1.size → (∀ q : Nat, q < H.size → ¬ A1 q → H1[q]? = H[q]?) → va_S A0 H0 H1 locs1 → W p l e R s m args below meth c H1 locs1 (cells + mc) (slots + ms) Q (F0 m (pc + 3) ls (rest))) : W p l e R s m args below meth c H locs cells slots Q (F0 m pc ls st0) := by
  intro T hT X
  rcases hr T hT X with ⟨v, st₀, t, T', L, h0, X', hL, e1, e2, ⟨⟨u, hv, hp, hb⟩, hF⟩, st⟩ | ⟨q, st₀, t, T', L, E, ce, h0, X', hL, e1, e2, ⟨u, hp, hb, hF⟩, hce, hcv, hcl, st⟩
  · cases hv
    obtain ⟨k1, k2, k3⟩ := vx_keep h0 e1 hS hA hf hL hF
    obtain ⟨t2, a1, b1⟩ := kk u t T'.heap (locs ++ L) e1.symm (by rw [← e2]; exact X'.warmed.alike) hp hb k1 k2 k3 T' rfl X'
    exact ⟨t2, st t2 a1, b1⟩
  · obtain ⟨k1, k2, k3⟩ := vx_keep h0 e1 hS hAX hf hL hF
    obtain ⟨t2, a1, b1⟩ := kx E ce q u t T'.heap (locs ++ L) e1.symm (by rw [← e2]; exact X'.warmed.alike) hp hb k1 k2 k3 (by rw [e1]; exact hce) hcv hcl T' rfl X'
    exact ⟨t2, st.trans a1, b1⟩
/-- caught by the row x of this method's table; the rows ahead don't take it -/
theorem vx_catch {own name : String} {E : String} {ce : Cell} {q : Addr} (hown : s.vm.findClass own = some m.cls) (pre : List ExceptionTableEntry) (x : ExceptionTableEntry) (suf : List ExceptionTableEntry) (hsplit : c.exceptionTable.toList = pre ++ x :: suf)
    (hpass : ∀ z ∈ pre, covers z pc = false ∨ (z.catchType ≠ 0 ∧ ∃ nm : String, (Cond.classLink own z.catchType nm).before args s = true ∧ va_Nc E nm s)) (hx : covers x pc = true) (h0 : x.catchType ≠ 0)
    (hlink : (Cond.classLink own x.catchType name).before args s = true) (hcast : (Cond.castable E name).before args s = true) (hcell : H[q]? = some ce) (hv : ce.vm = .none) (hcl : s.vm.findClass E = some ce.cls)
    (kk : W p l e R s m args below meth c H locs cells slots Q (F0 m x.handlerPc ls [.ref q])) : vx_W p l e R s m args below meth c H locs cells slots Q (F0 m pc ls rest) q := by
  intro T hT X
  have hpl : e.platform.magicAccessors = ({} : Platform).magicAccessors := by rw [X.admits.platform]
  obtain ⟨c3, c4, hc3, hc4, hasg⟩ := Cond.castable_spec hcast
  cases Option.some.inj (hc3.symm.trans hcl)
  obtain ⟨c5, hc5, hcl5⟩ := Cond.classLink_spec hown hlink e.platform hpl
  cases Option.some.inj (hc4.symm.trans hc5)
  obtain ⟨vm', X', st⟩ := X.thenCaughtThrough q (g := F0 m pc ls rest) rfl (Steps.refl _) (by rw [hT]; exact hcell) (by rw [hv]; rfl) (by obtain ⟨k9, h9, -⟩ := Vm.findClass_spec hcl; exact ⟨k9, h9⟩) pre x suf hsplit
    (fun z hz => by
      rcases hpass z hz with h | ⟨hz0, nm, hl1, hn1⟩
      · exact Or.inl h
      · obtain ⟨c6, hc6, hcl6⟩ := Cond.classLink_spec hown hl1 e.platform hpl
        obtain ⟨a8, b8, h1, h2, h3⟩ := hn1
        cases Option.some.inj (h1.symm.trans hcl)
        cases Option.some.inj (h2.symm.trans hc6)
        exact Or.inr ⟨hz0, _, hcl6, h3⟩) hx (Or.inr ⟨h0, c4, hcl5, hasg⟩)
  obtain ⟨t, a1, b1⟩ := kk (T.setVm vm') hT X'
  exact ⟨t, st.trans a1, b1⟩
end Rows
section Ends
variable {p : Program} {l : Launch} {e : Env} {R : Room} {s : State} {m : MethodId} {args : Array Value} {below : List Frame} {meth : Method} {c : Code} {H : Heap} {locs : List Loc} {cells slots : Nat} {Q : State → Prop}
variable {mc ms : Nat} {free : Addr → Prop} {A0 A1 : Nat → Prop} {H0 : Heap} {a : Array Value} {ls : Array Slot} {st0 rest : List Value}
variable {Qc : Array Value → State → Outcome → State → Prop} {XC : String → State → State → Prop}
/-- what a body that may throw owes at its end -/
def vx_MQ (below : List Frame) (Qc : Array Value → State → Outcome → State → Prop) (XC : String → State → State → Prop) (a : Array Value) (s : State) (mc ms : Nat) (free : Addr → Prop) : State → Prop := fun t =>
  ∃ o, t.status = .running ∧ Ended t below o ∧ vx_Q Qc XC mc ms free a s o t
theorem vx_ret {g : JFrame} {mc ms : Nat} (k : W p l e R s m args below meth c H locs cells slots (MQ below Qc args s mc ms free) g) : W p l e R s m args below meth c H locs cells slots (vx_MQ below Qc XC args s mc ms free) g := by
  intro T hT X
  obtain ⟨t, a1, o, b1, b2, b3, b4⟩ := k T hT X
  exact ⟨t, a1, o, b1, b2, Or.inl ⟨b3, b4⟩⟩
/-- not caught here: it goes on to the caller -/
theorem vx_widen {g : JFrame} {q : Addr} {k n : Nat} (h1 : cells ≤ k) (h2 : slots ≤ n) (kk : vx_W p l e R s m args below meth c H locs k n Q g q) : vx_W p l e R s m args below meth c H locs cells slots Q g q := fun T hT X => kk T hT (stand_widen X h1 h2)
theorem vx_out {pc : Nat} {E : String} {ce : Cell} {q : Addr} {mc ms : Nat} (hout : ∀ x ∈ c.exceptionTable.toList, covers x pc = false) (hlocks : meth.locks = false) (hcell : H[q]? = some ce) (hv : ce.vm = .none) (hcl : s.vm.findClass E = some ce.cls)
    (hx : ∀ t : State, t.heap = H → s.vm.Alike t.vm → XC E s t) (hf : ∀ z ∈ locs, free z.base) (hc : cells ≤ mc) (hs : slots ≤ ms) :
    vx_W p l e R s m args below meth c H locs cells slots (vx_MQ below Qc XC args s mc ms free) (F0 m pc ls rest) q := by
  intro T hT X
  obtain ⟨st1, hrun, hend, hW, hsm⟩ := X.leaveThrown q (g := F0 m pc ls rest) rfl rfl rfl hout hlocks
  have hcell9 : (T.setFrames (.throwing q :: below)).heap[q]? = some ce := by
    show T.heap[q]? = some ce
    rw [hT]; exact hcell
  exact ⟨_, st1, .threw q, hrun, hend, Or.inr ⟨q, rfl, E, ce, locs, hx _ hT hW.alike, hcell9, hv, hcl, hW, hsm.mono hc hs, hf⟩⟩
theorem vx_frame {U : State} {k n : Nat} (h : s.sameButNew ({ U with vm := s.vm } : State) locs k n) : s.heap.size ≤ U.heap.size ∧ ∀ q : Nat, q < s.heap.size → (∀ z ∈ locs, z.base ≠ q) → U.heap[q]? = s.heap[q]? := by
  obtain ⟨-, h2, -, -, -, h6⟩ := h
  refine ⟨h2, fun q hq hz => ?_⟩
  obtain ⟨c9, e1, e2, e3, e4⟩ := h6 q _ (Array.getElem?_eq_getElem hq)
  have hs : c9.slots = (s.heap[q]).slots := Array.ext_getElem? fun i => e4 i fun hm => hz _ hm rfl
  have h9 : c9 = s.heap[q] := by
    rw [hs] at e2
    exact e2
  have e5 : U.heap[q]? = some c9 := e1
  rw [e5, h9, Array.getElem?_eq_getElem hq]
/-- the words of a throw but the four that speak of the heap -/
def vx_no (w : Cond) : Bool := decide (w ≠ .isRef (.static Bundle.tN "UNASSIGNED_STACK" Bundle.steD)) && decide (w ≠ .isRef (.static Bundle.tN "SUPPRESSED_SENTINEL" Bundle.listD)) && decide (w ≠ .laysStatic Bundle.tN "UNASSIGNED_STACK" Bundle.steD) && decide (w ≠ .laysStatic Bundle.tN "SUPPRESSED_SENTINEL" Bundle.listD)
def vx_at0 (own : String) (ic : Nat) (X : String) (names : List String) : List Cond := (Bundle.ownAtoms0 own ic X names).filter vx_no
def vx_atS (own : String) (ic : Nat) (X : String) (names : List String) : List Cond := (Bundle.ownAtoms own ic X names).filter vx_no
/-- a word that the tables alone decide, or a good one -/
def vx_ot (w : Cond) : Bool := w.onTables || goodWord w
theorem vx_ot_at {args a' : Array Value} {s U : State} {w : Cond} (hW : s.WarmedH U.vm) (hvm : s.vm = U.vm) (hg : vx_ot w = true) (h : w.before args s = true) : w.before a' U = true := by
  simp only [vx_ot, Bool.or_eq_true] at hg
  rcases hg with hg | hg
  · exact va_tabs hg hvm h
  · exact word_at hW (good_of_word hg) h
/-- a list's words: the good ones out of the method's own list, the others by premises of their own -/
theorem vx_hat {args : Array Value} {s : State} {L B : List Cond} (h1 : ∀ w ∈ L.filter goodWord, w.before args s = true) (h2 : ∀ w ∈ L.filter (fun w => !goodWord w), w ∈ B) (h3 : ∀ w ∈ B, w.before args s = true) : ∀ w ∈ L, w.before args s = true := by
  intro w hw
  by_cases g : goodWord w = true
  · exact h1 w (List.mem_filter.mpr ⟨hw, g⟩)
  · refine h3 w (h2 w (List.mem_filter.mpr ⟨hw, ?_⟩))
    show (!goodWord w) = true
    cases hgw : goodWord w
    · rfl
    · exact absurd hgw g
theorem vx_c {args : Array Value} {s : State} {w : Cond} {B : List Cond} (h : w.before args s = true) (t : ∀ w ∈ B, w.before args s = true) : ∀ w' ∈ w :: B, w'.before args s = true := fun w' h' => (List.mem_cons.mp h').elim (fun e => by rw [e]; exact h) (t w')
theorem vx_n {args : Array Value} {s : State} : ∀ w ∈ ([] : List Cond), w.before args s = true := fun _ h => nomatch h
theorem vx_own {args : Array Value} {s : State} {L : List Cond} (h1 : ∀ w ∈ L.filter vx_no, w.before args s = true)
    (hU : (Cond.isRef (.static Bundle.tN "UNASSIGNED_STACK" Bundle.steD)).before args s = true) (hN : (Cond.isRef (.static Bundle.tN "SUPPRESSED_SENTINEL" Bundle.listD)).before args s = true)
    (lU : (Cond.laysStatic Bundle.tN "UNASSIGNED_STACK" Bundle.steD).before args s = true) (lN : (Cond.laysStatic Bundle.tN "SUPPRESSED_SENTINEL" Bundle.listD).before args s = true) : ∀ w ∈ L, w.before args s = true := by
  intro w hw
  by_cases e1 : w = .isRef (.static Bundle.tN "UNASSIGNED_STACK" Bundle.steD)
  · rw [e1]; exact hU
  · by_cases e2 : w = .isRef (.static Bundle.tN "SUPPRESSED_SENTINEL" Bundle.listD)
    · rw [e2]; exact hN
    · by_cases e3 : w = .laysStatic Bundle.tN "UNASSIGNED_STACK" Bundle.steD
      · rw [e3]; exact lU
      · by_cases e4 : w = .laysStatic Bundle.tN "SUPPRESSED_SENTINEL" Bundle.listD
        · rw [e4]; exact lN
        · exact h1 w (List.mem_filter.mpr ⟨hw, by unfold vx_no; rw [decide_eq_true e1, decide_eq_true e2, decide_eq_true e3, decide_eq_true e4]; rfl⟩)
/-- where a static field lies, its class's statics cell in H -/
def vx_L (C n d : String) (A : Nat → Prop) (U : State) (H : Heap) : Prop := ∃ (c : ClassId) (k : Class) (i : Nat) (f : Field) (a : Nat) (cell : Cell), U.vm.findClass C = some c ∧ U.fieldFound? C n d = some (c, k, i, f) ∧ f.isStatic = true ∧ k.statics = some a ∧ H[a]? = some cell ∧ cell.vm.isStatics = true ∧ cell.cls = c ∧ f.slot < cell.slots.size ∧ k.staticTypes[f.slot]? = some f.type ∧ ¬ A a
theorem vx_L.moved {C n d : String} {A : Nat → Prop} {u U : State} {H : Heap} (hvm : u.vm.Alike U.vm) (h : vx_L C n d A u H) : vx_L C n d A U H := by
  obtain ⟨c, k, i, f, a, cell, h1, h2, h3, h4, h5, h6, h7, h8, h9, h10⟩ := h
  obtain ⟨k', hi', he⟩ := State.fieldFound?_setVm hvm h2
  exact ⟨c, k', i, f, a, cell, by rw [hvm.findClass]; exact h1, hi', h3, by rw [he]; exact h4, h5, h6, h7, h8, by rw [he]; exact h9, h10⟩
theorem vx_L.kept {C n d : String} {A : Nat → Prop} {U : State} {H H1 : Heap} (h : vx_L C n d A U H) (hq : ∀ a : Nat, a < H.size → ¬ A a → H1[a]? = H[a]?) : vx_L C n d A U H1 := by
  obtain ⟨c, k, i, f, a, cell, h1, h2, h3, h4, h5, h6, h7, h8, h9, h10⟩ := h
  exact ⟨c, k, i, f, a, cell, h1, h2, h3, h4, by rw [hq a (Array.getElem?_eq_some_iff.mp h5).1 h10]; exact h5, h6, h7, h8, h9, h10⟩
theorem vx_L.narrow {C n d : String} {A B : Nat → Prop} {U : State} {H : Heap} (h : vx_L C n d A U H) (hAB : ∀ q, B q → A q) : vx_L C n d B U H := by
  obtain ⟨c, k, i, f, a, cell, h1, h2, h3, h4, h5, h6, h7, h8, h9, h10⟩ := h
  exact ⟨c, k, i, f, a, cell, h1, h2, h3, h4, h5, h6, h7, h8, h9, fun z => h10 (hAB _ z)⟩
theorem vx_L.word {C n d : String} {A : Nat → Prop} {s : State} {args : Array Value} (h : vx_L C n d A s s.heap) : (Cond.laysStatic C n d).before args s = true := by
  obtain ⟨c, k, i, f, a, cell, h1, h2, h3, h4, h5, h6, h7, h8, h9, -⟩ := h
  show (Cond.laysStatic C n d).holds args s none s [] = true
  exact Cond.laysStatic_of h1 h2 h3 h4 h5 h6 h7 h8 h9
/-- .. and what it holds: null or some reference -/
def vx_Zq (C n d : String) (A : Nat → Prop) (U : State) (H : Heap) : Prop := va_Zq C n d A U H ∧ vx_L C n d A U H
theorem vx_Zq.moved {C n d : String} {A : Nat → Prop} {u U : State} {H : Heap} (hvm : u.vm.Alike U.vm) (h : vx_Zq C n d A u H) : vx_Zq C n d A U H := ⟨va_Zq.moved hvm h.1, vx_L.moved hvm h.2⟩
theorem vx_Zq.kept {C n d : String} {A : Nat → Prop} {U : State} {H H1 : Heap} (h : vx_Zq C n d A U H) (hq : ∀ a : Nat, a < H.size → ¬ A a → H1[a]? = H[a]?) : vx_Zq C n d A U H1 := ⟨va_Zq.kept h.1 hq, vx_L.kept h.2 hq⟩
theorem vx_Zq.narrow {C n d : String} {A B : Nat → Prop} {U : State} {H : Heap} (h : vx_Zq C n d A U H) (hAB : ∀ q, B q → A q) : vx_Zq C n d B U H := ⟨va_Zq.narrow h.1 hAB, vx_L.narrow h.2 hAB⟩
theorem vx_Zqof {args : Array Value} {s : State} {C n d : String} {A : Nat → Prop} (hl : (Cond.laysStatic C n d).before args s = true) (hini : (Cond.initialized C).before args s = true) (h : (Cond.isRef (.static C n d)).before args s = true) (hA : ∀ a : Nat, a < s.heap.size → ¬ A a) : vx_Zq C n d A s s.heap := by
  refine ⟨va_Zqof hl hini h hA, ?_⟩
  obtain ⟨c, k, i, f, a, cell, h1, h2, h3, h4, h5, h6, h7, h8, h9⟩ := Cond.laysStatic_spec hl
  exact ⟨c, k, i, f, a, cell, h1, h2, h3, h4, h5, h6, h7, h8, h9, hA a (Array.getElem?_eq_some_iff.mp h5).1⟩
theorem vx_isRef {C n d : String} {v : Value} {A : Nat → Prop} {s : State} {args : Array Value} (h : va_Z C n d v A s s.heap) (hv : v.isRef = true) : (Cond.isRef (.static C n d)).before args s = true := by
  obtain ⟨cf, kf, fi, f, a, cell, h1, h2, h3, h4, h5, h6, h7, -⟩ := h
  have he : (Term.static C n d).eval args s none [] s = some v := by
    simp [Term.eval, State.fieldNamed?, h1, h2, h4, h5, h6, h7]
  simp only [Cond.before, Cond.holds, Cond.value, he]
  cases v <;> simp_all [Value.isRef]
theorem vx_isRefq {C n d : String} {A : Nat → Prop} {s : State} {args : Array Value} (h : va_Zq C n d A s s.heap) : (Cond.isRef (.static C n d)).before args s = true := by
  rcases h with h | ⟨t, h⟩
  · exact vx_isRef h rfl
  · exact vx_isRef h rfl
/-- the same frame, seen from here: as if the method were called anew in this heap -/
theorem vx_rebase {T : State} (X : Stand p l e R s m args below meth c T locs cells slots) {R' : Room} (hf : R'.frames ≤ R.frames) (hl : R'.locals ≤ R.locals) (hc : cells + R'.cells ≤ R.cells) (hs : slots + R'.slots ≤ R.slots) :
    Stand p l e R' ((T.setVm s.vm).setFrames (.invoking m args :: below)) m args below meth c T [] 0 0 := by
  have htop : (T.setVm s.vm).topJava?.isSome := X.here.top
  have hF : ((T.setVm s.vm).setFrames (.invoking m args :: below)).frames = .invoking m args :: below := State.frames_setFrames _ (State.cur_lt_of_top htop)
  obtain ⟨g₀, hg0⟩ := Option.isSome_iff_exists.mp htop
  obtain ⟨r, hr⟩ := State.topJava?_eq_some.mp hg0
  have hl9 : e.platform.stackLimits (T.setVm s.vm).me = e.platform.stackLimits s.me := X.limits
  have hb9 : (T.setVm s.vm).me.stackBytes = s.me.stackBytes := X.bytes
  refine ⟨X.admits, X.cas, X.clock, hF, ?_, X.hears, X.method, X.code, X.here, X.tail, X.warmed, ?_, ?_, ?_⟩
  · have h := X.room
    have hU : ((T.setVm s.vm).setFrames (.invoking m args :: below)).localsInUse = s.localsInUse := by
      rw [State.localsInUse_invoking hF (meth := meth) (c := c) X.method X.code, State.localsInUse_invoking X.frames X.method X.code]
    simp only [State.hasRoom, Bool.and_eq_true, decide_eq_true_eq] at h ⊢
    obtain ⟨⟨⟨⟨h1, h2, h3, h4, h5, h6⟩, h7⟩, h8⟩, h9⟩ := h
    rw [X.frames, List.length_cons] at h2 h3
    have q1 := X.heapSize
    have q2 := X.used
    simp only [hF, hU, List.length_cons, State.stackLimits_setFrames, State.stackBytes_setFrames, hl9, hb9]
    refine ⟨⟨⟨⟨by omega, by omega, by omega, by omega, by omega, h6⟩, ?_⟩, ?_⟩, X.book⟩
    · show T.heap.size + R'.cells ≤ e.platform.maxCells
      omega
    · show T.slotsUsed + R'.slots ≤ e.platform.maxSlots
      omega
  · rw [State.stackLimits_setFrames]; rfl
  · rw [State.stackBytes_setFrames]; rfl
  · refine ⟨?_, Nat.le_refl _, Nat.le_refl _, ?_, ?_, fun a c9 h9 => ⟨c9, h9, rfl, rfl, fun _ _ => rfl⟩⟩
    · obtain ⟨t, ht, -⟩ := State.frames_cons hr
      show T.setVm s.vm = { ((T.setVm s.vm).setFrames (.invoking m args :: below)).setFrames (T.setVm s.vm).frames with heap := T.heap, slotsUsed := T.slotsUsed }
      rw [State.setFrames_setFrames, State.setFrames_self ht]
      rfl
    · show T.slotsUsed = T.slotsUsed + ((T.heap.toList.drop T.heap.size).map (·.slots.size)).sum
      rw [List.drop_eq_nil_of_le (Nat.le_of_eq Array.length_toList)]
      rfl
    · show ((T.heap.toList.drop T.heap.size).map (·.slots.size)).sum ≤ 0
      rw [List.drop_eq_nil_of_le (Nat.le_of_eq Array.length_toList)]
      exact Nat.le_refl _
/-- 'throw new E()': new; dup; invokespecial; athrow -/
theorem vx_throw0 {cc : ByteArray} {pc : Nat} (hexec : p.tables.exec = Jvm.exec) (hb : c.code = cc) (hl : l.stackTraces = false) {own cls : String} {names : List String} {ik ic mc ms : Nat} {A : Nat → Prop}
    (hown : s.vm.findClass own = some m.cls) (hcls : Bundle.fit cls = true) (hnames : ∀ n ∈ names, Bundle.fit n = true)
    (hk : (Cond.classLink own ik cls).before args s = true) (hini : (Cond.initialized cls).before args s = true) (hat : ∀ w ∈ vx_at0 own ic cls names, w.before args s = true)
    (hgood : ∀ w ∈ Cond.classLink own ik cls :: Cond.initialized cls :: vx_at0 own ic cls names, vx_ot w = true)
    (hU : vx_Zq Bundle.tN "UNASSIGNED_STACK" Bundle.steD A s s.heap) (hN : vx_Zq Bundle.tN "SUPPRESSED_SENTINEL" Bundle.listD A s s.heap) (hS : va_S A s.heap H locs) (hsize : ls.size = c.maxLocals)
    (d0 : decode cc pc = .ok (.new ik, 3)) (d3 : decode cc (pc + 3) = .ok (.dup, 1)) (d4 : decode cc (pc + 4) = .ok (.invokespecial ic, 3)) (d7 : decode cc (pc + 7) = .ok (.athrow, 1))
    (hout : ∀ x ∈ c.exceptionTable.toList, covers x (pc + 7) = false)
    (hRframes : names.length + 3 < R.frames) (hRlocals : (rest.map fun v => v.category).sum + (13 * (names.length + 1) + 42) ≤ R.locals) (hRcells : cells + 1 ≤ R.cells) (hRslots : slots + 6 ≤ R.slots) (hlocks : meth.locks = false)
    (hx : ∀ t : State, s.vm.Alike t.vm → H.size ≤ t.heap.size → (∀ q : Nat, q < H.size → t.heap[q]? = H[q]?) → XC cls s t)
    (hf : ∀ z ∈ locs, free z.base) (hc : cells + 1 ≤ mc) (hs : slots + 6 ≤ ms) :
    W p l e R s m args below meth c H locs cells slots (vx_MQ below Qc XC args s mc ms free) (F0 m pc ls rest) := by
  intro T hT X
  have htr : e.platform.stackTraces = false := (show e.platform.stackTraces = l.stackTraces by rw [X.admits.platform]).trans hl
  have Y := vx_rebase X (R' := { frames := R.frames, locals := R.locals, cells := 1, slots := 6 }) (Nat.le_refl _) (Nat.le_refl _) hRcells hRslots
  obtain ⟨s', hA⟩ : ∃ z, z = (T.setVm s.vm).setFrames (.invoking m args :: below) := ⟨_, rfl⟩
  rw [← hA] at Y
  have hvm : s'.vm = s.vm := by rw [hA]; rfl
  have hhp : s'.heap = H := by rw [hA]; exact hT
  have hW0 : s.WarmedH s'.vm := by rw [hvm]; exact State.WarmedH.refl s
  have hat' : ∀ w ∈ vx_at0 own ic cls names, w.before args s' = true := fun w hw => vx_ot_at hW0 hvm.symm (hgood w (List.mem_cons_of_mem _ (List.mem_cons_of_mem _ hw))) (hat w hw)
  have hk' : (Cond.classLink own ik cls).before args s' = true := vx_ot_at hW0 hvm.symm (hgood _ List.mem_cons_self) hk
  have hini' : (Cond.initialized cls).before args s' = true := vx_ot_at hW0 hvm.symm (hgood _ (List.mem_cons_of_mem _ List.mem_cons_self)) hini
  have hU' : vx_Zq Bundle.tN "UNASSIGNED_STACK" Bundle.steD A s' s'.heap := by rw [hhp]; exact vx_Zq.moved hW0.alike (hU.kept hS.2.1)
  have hN' : vx_Zq Bundle.tN "SUPPRESSED_SENTINEL" Bundle.listD A s' s'.heap := by rw [hhp]; exact vx_Zq.moved hW0.alike (hN.kept hS.2.1)
  have h : ∀ w ∈ Bundle.ownAtoms0 own ic cls names, w.before args s' = true := vx_own hat' (vx_isRefq hU'.1) (vx_isRefq hN'.1) hU'.2.word hN'.2.word
  have hown' : s'.vm.findClass own = some m.cls := by rw [hvm]; exact hown
  have hins : (Cond.instantiable cls 6).before args s' = true := h _ (by simp [Bundle.ownAtoms0])
  obtain ⟨vm₁, cX, kX, hfX, hkX, -, -, X₁, st1⟩ := Y.newCold hexec (own := own) (C := cls) (index := ik) (n := 6) hown' hk' hins hini'
    (g := F0 m pc ls rest) rfl (by rw [hb]; exact d0) (Nat.le_refl _) (Nat.le_refl _)
  generalize hT1 : (T.setVm vm₁).pushCell { cls := cX, slots := kX.instanceTypes.map defaultValue, vm := .none } = T1 at X₁ st1
  have hcat : (Value.ref T.heap.size).category = 1 := rfl
  have hcellA : T1.heap[T.heap.size]? = some (freshCell cX kX) := by rw [← hT1]; exact State.heap_pushCell_size _ _
  have d3' : decode c.code (pc + 3) = .ok (.dup, 1) := by rw [hb]; exact d3
  obtain ⟨U, hsteps, hrun, hend, hW, hsame, ce, hce, hO⟩ := X₁.ctorThrow0 hexec htr (own := own) (cls := cls) (names := names) (ic := ic) hown' hcls hnames h (fun x hx => nomatch hx) hfX hkX hcellA (by rw [hhp, hT]; exact Nat.le_refl _)
    (g := { method := m, pc := pc + 4, locals := ls, stack := .ref T.heap.size :: .ref T.heap.size :: rest, locked := none }) rfl hsize rfl rfl (rest := rest) rfl
    (by rw [hb]; exact d4) (by rw [hb]; exact d7) hout hRframes (by simp only [List.map_cons, List.sum_cons, hcat]; omega) hlocks
  obtain ⟨f1, f2⟩ := vx_frame hsame
  rw [hhp] at f1 f2
  have hWs : s.WarmedH U.vm := State.WarmedH.trans hW0 hW
  have hcl : s.vm.findClass cls = some ce.cls := by
    have h9 := hO.cls
    rw [hvm] at h9
    exact h9
  have hall : s.sameButNew ({ U with vm := s.vm } : State) locs mc ms := by
    subst hA
    obtain ⟨e1, e2⟩ := hsame
    rw [State.setFrames_setFrames] at e1
    have h2 : (T.setVm s.vm).sameButNew ({ U with vm := s.vm } : State) [] (0 + 1) (0 + 6) := ⟨e1, e2⟩
    have h3 := X.same.trans h2
    rw [List.append_nil] at h3
    exact h3.mono hc hs
  refine ⟨U, ?_, .threw T.heap.size, hrun, hend, Or.inr ⟨T.heap.size, rfl, cls, ce, locs, hx U hWs.alike f1 (fun q hq => f2 q hq (fun z hz => nomatch hz)), hce, hO.vm, hcl, hWs, hall, hf⟩⟩
  refine st1 _ ?_
  show Steps p.tables e below (T1.setTop { method := m, pc := pc + 3, locals := ls, stack := .ref T.heap.size :: rest, locked := none }) _
  jvm_step X₁.here [X₁.here.top, hexec, d3', Value.category]
  exact hsteps
/-- 'throw new E("text")': new; dup; ldc; invokespecial; athrow -/
theorem vx_throwS {cc : ByteArray} {pc : Nat} (hexec : p.tables.exec = Jvm.exec) (hb : c.code = cc) (hl : l.stackTraces = false) {own cls text : String} {names : List String} {ik is ic mc ms sa : Nat} {A : Nat → Prop}
    (hown : s.vm.findClass own = some m.cls) (hcls : Bundle.fit cls = true) (hnames : ∀ n ∈ names, Bundle.fit n = true)
    (hk : (Cond.classLink own ik cls).before args s = true) (hini : (Cond.initialized cls).before args s = true) (hstr : vk_R own is text sa s) (hat : ∀ w ∈ vx_atS own ic cls names, w.before args s = true)
    (hgood : ∀ w ∈ Cond.classLink own ik cls :: Cond.initialized cls :: vx_atS own ic cls names, vx_ot w = true)
    (hU : vx_Zq Bundle.tN "UNASSIGNED_STACK" Bundle.steD A s s.heap) (hN : vx_Zq Bundle.tN "SUPPRESSED_SENTINEL" Bundle.listD A s s.heap) (hS : va_S A s.heap H locs) (hsize : ls.size = c.maxLocals)
    (d0 : decode cc pc = .ok (.new ik, 3)) (d3 : decode cc (pc + 3) = .ok (.dup, 1)) (d4 : decode cc (pc + 4) = .ok (.ldc is, 2)) (d6 : decode cc (pc + 6) = .ok (.invokespecial ic, 3)) (d9 : decode cc (pc + 9) = .ok (.athrow, 1))
    (hout : ∀ x ∈ c.exceptionTable.toList, covers x (pc + 9) = false)
    (hRframes : names.length + 3 < R.frames) (hRlocals : (rest.map fun v => v.category).sum + (13 * (names.length + 1) + 43) ≤ R.locals) (hRcells : cells + 1 ≤ R.cells) (hRslots : slots + 6 ≤ R.slots) (hlocks : meth.locks = false)
    (hx : ∀ t : State, s.vm.Alike t.vm → H.size ≤ t.heap.size → (∀ q : Nat, q < H.size → t.heap[q]? = H[q]?) → XC cls s t)
    (hf : ∀ z ∈ locs, free z.base) (hc : cells + 1 ≤ mc) (hs : slots + 6 ≤ ms) :
    W p l e R s m args below meth c H locs cells slots (vx_MQ below Qc XC args s mc ms free) (F0 m pc ls rest) := by
  intro T hT X
  have htr : e.platform.stackTraces = false := (show e.platform.stackTraces = l.stackTraces by rw [X.admits.platform]).trans hl
  have Y := vx_rebase X (R' := { frames := R.frames, locals := R.locals, cells := 1, slots := 6 }) (Nat.le_refl _) (Nat.le_refl _) hRcells hRslots
  obtain ⟨s', hA⟩ : ∃ z, z = (T.setVm s.vm).setFrames (.invoking m args :: below) := ⟨_, rfl⟩
  rw [← hA] at Y
  have hvm : s'.vm = s.vm := by rw [hA]; rfl
  have hhp : s'.heap = H := by rw [hA]; exact hT
  have hW0 : s.WarmedH s'.vm := by rw [hvm]; exact State.WarmedH.refl s
  have hat' : ∀ w ∈ vx_atS own ic cls names, w.before args s' = true := fun w hw => vx_ot_at hW0 hvm.symm (hgood w (List.mem_cons_of_mem _ (List.mem_cons_of_mem _ hw))) (hat w hw)
  have hk' : (Cond.classLink own ik cls).before args s' = true := vx_ot_at hW0 hvm.symm (hgood _ List.mem_cons_self) hk
  have hini' : (Cond.initialized cls).before args s' = true := vx_ot_at hW0 hvm.symm (hgood _ (List.mem_cons_of_mem _ List.mem_cons_self)) hini
  have hU' : vx_Zq Bundle.tN "UNASSIGNED_STACK" Bundle.steD A s' s'.heap := by rw [hhp]; exact vx_Zq.moved hW0.alike (hU.kept hS.2.1)
  have hN' : vx_Zq Bundle.tN "SUPPRESSED_SENTINEL" Bundle.listD A s' s'.heap := by rw [hhp]; exact vx_Zq.moved hW0.alike (hN.kept hS.2.1)
  have h : ∀ w ∈ Bundle.ownAtoms own ic cls names, w.before args s' = true := vx_own hat' (vx_isRefq hU'.1) (vx_isRefq hN'.1) hU'.2.word hN'.2.word
  have hown' : s'.vm.findClass own = some m.cls := by rw [hvm]; exact hown
  have hins : (Cond.instantiable cls 6).before args s' = true := h _ (by simp [Bundle.ownAtoms])
  obtain ⟨vm₁, cX, kX, hfX, hkX, -, -, X₁, st1⟩ := Y.newCold hexec (own := own) (C := cls) (index := ik) (n := 6) hown' hk' hins hini'
    (g := F0 m pc ls rest) rfl (by rw [hb]; exact d0) (Nat.le_refl _) (Nat.le_refl _)
  generalize hT1 : (T.setVm vm₁).pushCell { cls := cX, slots := kX.instanceTypes.map defaultValue, vm := .none } = T1 at X₁ st1
  have hcat : (Value.ref T.heap.size).category = 1 := rfl
  have hcellA : T1.heap[T.heap.size]? = some (freshCell cX kX) := by rw [← hT1]; exact State.heap_pushCell_size _ _
  have d3' : decode c.code (pc + 3) = .ok (.dup, 1) := by rw [hb]; exact d3
  have d4' : decode c.code (pc + 4) = .ok (.ldc is, 2) := by rw [hb]; exact d4
  have hstr' : vk_R own is text sa s' := vk_R.warm hW0 hstr
  obtain ⟨U, hsteps, hrun, hend, hW, hsame, ce, hce, hO⟩ := X₁.ctorThrowS hexec htr (own := own) (cls := cls) (names := names) (ic := ic) hown' hcls hnames h (fun x hx => nomatch hx) hfX hkX hcellA (by rw [hhp, hT]; exact Nat.le_refl _) (msg := .ref sa) rfl
    (g := { method := m, pc := pc + 6, locals := ls, stack := .ref sa :: .ref T.heap.size :: .ref T.heap.size :: rest, locked := none }) rfl hsize rfl rfl (rest := rest) rfl
    (by rw [hb]; exact d6) (by rw [hb]; exact d9) hout hRframes (by simp only [List.map_cons, List.sum_cons, hcat]; omega) hlocks
  obtain ⟨f1, f2⟩ := vx_frame hsame
  rw [hhp] at f1 f2
  have hWs : s.WarmedH U.vm := State.WarmedH.trans hW0 hW
  have hcl : s.vm.findClass cls = some ce.cls := by
    have h9 := hO.cls
    rw [hvm] at h9
    exact h9
  have hall : s.sameButNew ({ U with vm := s.vm } : State) locs mc ms := by
    subst hA
    obtain ⟨e1, e2⟩ := hsame
    rw [State.setFrames_setFrames] at e1
    have h2 : (T.setVm s.vm).sameButNew ({ U with vm := s.vm } : State) [] (0 + 1) (0 + 6) := ⟨e1, e2⟩
    have h3 := X.same.trans h2
    rw [List.append_nil] at h3
    exact h3.mono hc hs
  refine ⟨U, ?_, .threw T.heap.size, hrun, hend, Or.inr ⟨T.heap.size, rfl, cls, ce, locs, hx U hWs.alike f1 (fun q hq => f2 q hq (fun z hz => nomatch hz)), hce, hO.vm, hcl, hWs, hall, hf⟩⟩
  refine st1 _ ?_
  show Steps p.tables e below (T1.setTop { method := m, pc := pc + 3, locals := ls, stack := .ref T.heap.size :: rest, locked := none }) _
  jvm_step X₁.here [X₁.here.top, hexec, d3', Value.category]
  exact X₁.ldcString hexec (own := own) (text := text) (index := is) (a := sa) hown' hstr'.1 hstr'.2
    (g := { method := m, pc := pc + 4, locals := ls, stack := .ref T.heap.size :: .ref T.heap.size :: rest, locked := none }) rfl d4' _ hsteps
/-- 'throw new E("text")', the text by a wide index -/
theorem vx_throwSW {cc : ByteArray} {pc : Nat} (hexec : p.tables.exec = Jvm.exec) (hb : c.code = cc) (hl : l.stackTraces = false) {own cls text : String} {names : List String} {ik is ic mc ms sa : Nat} {A : Nat → Prop}
    (hown : s.vm.findClass own = some m.cls) (hcls : Bundle.fit cls = true) (hnames : ∀ n ∈ names, Bundle.fit n = true)
    (hk : (Cond.classLink own ik cls).before args s = true) (hini : (Cond.initialized cls).before args s = true) (hstr : vk_R own is text sa s) (hat : ∀ w ∈ vx_atS own ic cls names, w.before args s = true)
    (hgood : ∀ w ∈ Cond.classLink own ik cls :: Cond.initialized cls :: vx_atS own ic cls names, vx_ot w = true)
    (hU : vx_Zq Bundle.tN "UNASSIGNED_STACK" Bundle.steD A s s.heap) (hN : vx_Zq Bundle.tN "SUPPRESSED_SENTINEL" Bundle.listD A s s.heap) (hS : va_S A s.heap H locs) (hsize : ls.size = c.maxLocals)
    (d0 : decode cc pc = .ok (.new ik, 3)) (d3 : decode cc (pc + 3) = .ok (.dup, 1)) (d4 : decode cc (pc + 4) = .ok (.ldc_w is, 3)) (d7 : decode cc (pc + 7) = .ok (.invokespecial ic, 3)) (d10 : decode cc (pc + 10) = .ok (.athrow, 1))
    (hout : ∀ x ∈ c.exceptionTable.toList, covers x (pc + 10) = false)
    (hRframes : names.length + 3 < R.frames) (hRlocals : (rest.map fun v => v.category).sum + (13 * (names.length + 1) + 43) ≤ R.locals) (hRcells : cells + 1 ≤ R.cells) (hRslots : slots + 6 ≤ R.slots) (hlocks : meth.locks = false)
    (hx : ∀ t : State, s.vm.Alike t.vm → H.size ≤ t.heap.size → (∀ q : Nat, q < H.size → t.heap[q]? = H[q]?) → XC cls s t)
    (hf : ∀ z ∈ locs, free z.base) (hc : cells + 1 ≤ mc) (hs : slots + 6 ≤ ms) :
    W p l e R s m args below meth c H locs cells slots (vx_MQ below Qc XC args s mc ms free) (F0 m pc ls rest) := by
  intro T hT X
  have htr : e.platform.stackTraces = false := (show e.platform.stackTraces = l.stackTraces by rw [X.admits.platform]).trans hl
  have Y := vx_rebase X (R' := { frames := R.frames, locals := R.locals, cells := 1, slots := 6 }) (Nat.le_refl _) (Nat.le_refl _) hRcells hRslots
  obtain ⟨s', hA⟩ : ∃ z, z = (T.setVm s.vm).setFrames (.invoking m args :: below) := ⟨_, rfl⟩
  rw [← hA] at Y
  have hvm : s'.vm = s.vm := by rw [hA]; rfl
  have hhp : s'.heap = H := by rw [hA]; exact hT
  have hW0 : s.WarmedH s'.vm := by rw [hvm]; exact State.WarmedH.refl s
  have hat' : ∀ w ∈ vx_atS own ic cls names, w.before args s' = true := fun w hw => vx_ot_at hW0 hvm.symm (hgood w (List.mem_cons_of_mem _ (List.mem_cons_of_mem _ hw))) (hat w hw)
  have hk' : (Cond.classLink own ik cls).before args s' = true := vx_ot_at hW0 hvm.symm (hgood _ List.mem_cons_self) hk
  have hini' : (Cond.initialized cls).before args s' = true := vx_ot_at hW0 hvm.symm (hgood _ (List.mem_cons_of_mem _ List.mem_cons_self)) hini
  have hU' : vx_Zq Bundle.tN "UNASSIGNED_STACK" Bundle.steD A s' s'.heap := by rw [hhp]; exact vx_Zq.moved hW0.alike (hU.kept hS.2.1)
  have hN' : vx_Zq Bundle.tN "SUPPRESSED_SENTINEL" Bundle.listD A s' s'.heap := by rw [hhp]; exact vx_Zq.moved hW0.alike (hN.kept hS.2.1)
  have h : ∀ w ∈ Bundle.ownAtoms own ic cls names, w.before args s' = true := vx_own hat' (vx_isRefq hU'.1) (vx_isRefq hN'.1) hU'.2.word hN'.2.word
  have hown' : s'.vm.findClass own = some m.cls := by rw [hvm]; exact hown
  have hins : (Cond.instantiable cls 6).before args s' = true := h _ (by simp [Bundle.ownAtoms])
  obtain ⟨vm₁, cX, kX, hfX, hkX, -, -, X₁, st1⟩ := Y.newCold hexec (own := own) (C := cls) (index := ik) (n := 6) hown' hk' hins hini'
    (g := F0 m pc ls rest) rfl (by rw [hb]; exact d0) (Nat.le_refl _) (Nat.le_refl _)
  generalize hT1 : (T.setVm vm₁).pushCell { cls := cX, slots := kX.instanceTypes.map defaultValue, vm := .none } = T1 at X₁ st1
  have hcat : (Value.ref T.heap.size).category = 1 := rfl
  have hcellA : T1.heap[T.heap.size]? = some (freshCell cX kX) := by rw [← hT1]; exact State.heap_pushCell_size _ _
  have d3' : decode c.code (pc + 3) = .ok (.dup, 1) := by rw [hb]; exact d3
  have d4' : decode c.code (pc + 4) = .ok (.ldc_w is, 3) := by rw [hb]; exact d4
  have hstr' : vk_R own is text sa s' := vk_R.warm hW0 hstr
  obtain ⟨U, hsteps, hrun, hend, hW, hsame, ce, hce, hO⟩ := X₁.ctorThrowS hexec htr (own := own) (cls := cls) (names := names) (ic := ic) hown' hcls hnames h (fun x hx => nomatch hx) hfX hkX hcellA (by rw [hhp, hT]; exact Nat.le_refl _) (msg := .ref sa) rfl
    (g := { method := m, pc := pc + 7, locals := ls, stack := .ref sa :: .ref T.heap.size :: .ref T.heap.size :: rest, locked := none }) rfl hsize rfl rfl (rest := rest) rfl
    (by rw [hb]; exact d7) (by rw [hb]; exact d10) hout hRframes (by simp only [List.map_cons, List.sum_cons, hcat]; omega) hlocks
  obtain ⟨f1, f2⟩ := vx_frame hsame
  rw [hhp] at f1 f2
  have hWs : s.WarmedH U.vm := State.WarmedH.trans hW0 hW
  have hcl : s.vm.findClass cls = some ce.cls := by
    have h9 := hO.cls
    rw [hvm] at h9
    exact h9
  have hall : s.sameButNew ({ U with vm := s.vm } : State) locs mc ms := by
    subst hA
    obtain ⟨e1, e2⟩ := hsame
    rw [State.setFrames_setFrames] at e1
    have h2 : (T.setVm s.vm).sameButNew ({ U with vm := s.vm } : State) [] (0 + 1) (0 + 6) := ⟨e1, e2⟩
    have h3 := X.same.trans h2
    rw [List.append_nil] at h3
    exact h3.mono hc hs
  refine ⟨U, ?_, .threw T.heap.size, hrun, hend, Or.inr ⟨T.heap.size, rfl, cls, ce, locs, hx U hWs.alike f1 (fun q hq => f2 q hq (fun z hz => nomatch hz)), hce, hO.vm, hcl, hWs, hall, hf⟩⟩
  refine st1 _ ?_
  show Steps p.tables e below (T1.setTop { method := m, pc := pc + 3, locals := ls, stack := .ref T.heap.size :: rest, locked := none }) _
  jvm_step X₁.here [X₁.here.top, hexec, d3', Value.category]
  exact X₁.ldcStringW hexec (own := own) (text := text) (index := is) (a := sa) hown' hstr'.1 hstr'.2
    (g := { method := m, pc := pc + 4, locals := ls, stack := .ref T.heap.size :: .ref T.heap.size :: rest, locked := none }) rfl d4' _ hsteps
end Ends
section Bodies
variable {l : Launch}
theorem vx_ofW {y : MethodName} {ws ws' : List Cond} {rm : Room} {Pc : Array Value → State → Prop} {Qc : Array Value → State → Outcome → State → Prop} {XC : String → State → State → Prop} {mc ms : Nat} {free : Addr → Prop} {cc : ByteArray} {maxL : Nat} {ret : Option FieldType}
    (hy : plainName y.cls = true) (hw : ws = Cond.code y cc maxL ret :: ws')
    (body : ∀ p e s m args below meth c s₁, BodyLoose p l y (headSpec ws rm) cc maxL ret e s m args below meth c s₁ → c.maxLocals = maxL → (∀ x ∈ c.exceptionTable.toList, False) → Pc args s →
      W p l e (headSpec ws rm).room s m args below meth c s.heap [] 0 0 (vx_MQ below Qc XC args s mc ms free) (entryFrame m args maxL)) : vx_Met l y ws rm Pc Qc XC mc ms free := by
  refine MetFree.of_bodyS (code := cc) (maxLocals := maxL) (ret := ret) hy ?_ ?_
  · intro args s m h hn
    obtain ⟨meth, c, h1, h2, h3, h4, h5, h6, -, -⟩ := Cond.code_spec hn (atoms_spec (ws := ws) h _ (by rw [hw]; exact List.mem_cons_self))
    exact ⟨meth, c, h1, h2, h3, h4, h5, h6⟩
  · intro p e s m args below meth c s₁ B hml hP _
    have hh0 : s₁.heap = s.heap := by rw [B.state]; rfl
    have ht : ∀ x ∈ c.exceptionTable.toList, False := by
      obtain ⟨meth9, c9, h1, h2, -, -, -, -, h7, -⟩ := Cond.code_spec B.named (atoms_spec (ws := ws) B.pre _ (by rw [hw]; exact List.mem_cons_self))
      cases Option.some.inj (h1.symm.trans B.method)
      cases Option.some.inj (h2.symm.trans (Stand.of_body B).code)
      intro x hx
      rw [Array.isEmpty_iff.mp h7] at hx
      cases hx
    obtain ⟨t, a1, o, b1, b2, b3⟩ := body p e s m args below meth c s₁ B hml ht hP s₁ hh0 (Stand.of_body B)
    exact ⟨t, o, a1, b1, b2, b3⟩
/-- the table of a body with handlers -/
theorem vx_table {p : Program} {x y : MethodName} {S : Spec} {cc bytes : ByteArray} {maxL maxL' : Nat} {ret ret' : Option FieldType} {e : Env} {s s₁ : State} {m : MethodId} {args : Array Value} {below : List Frame} {meth : Method} {c : Code} {hh : List (Nat × Nat × Nat × Nat)}
    (B : BodyLoose p l y S cc maxL ret e s m args below meth c s₁) (h : (Cond.codeWith y bytes maxL' ret' hh).before args s = true) : c.exceptionTable.toList = tableOf hh := by
  obtain ⟨m9, meth9, c9, hn9, h1, h2, -, -, h6, -⟩ := Cond.codeWith_spec h
  cases Option.some.inj (hn9.symm.trans B.named)
  cases Option.some.inj (h1.symm.trans B.method)
  cases Option.some.inj (h2.symm.trans (Stand.of_body B).code)
  rw [← h6, table_eq]
end Bodies
end VXA
/-! ===== END ===== -/
/-! ===== BEGIN a static call of a method with an exception table ===== -/
section VXS
variable {p : Program} {l : Launch} {e : Env} {R : Room} {s : State} {m : MethodId} {args : Array Value} {below : List Frame} {meth : Method} {c : Code} {T : State} {H : Heap} {locs : List Loc} {cells slots : Nat}
abbrev vx_CSW (R : Room) (s : State) (args : Array Value) (own : String) (index : Nat) (y : MethodName) (bytes : ByteArray) (maxL : Nat) (ret : Option FieldType) (hh : List (Nat × Nat × Nat × Nat)) (ws : List Cond) (rm : Room) (mc ms n : Nat) : Prop :=
  (rm.cells = mc ∧ rm.slots = ms ∧ rm.frames + 1 ≤ R.frames ∧ 8 + (maxL + 11) + rm.locals ≤ R.locals ∧ (∀ w ∈ ws, ∀ (a' : Array Value) (U : State), s.WarmedH U.vm → w.before a' U = true) ∧ Cond.codeWith y bytes maxL ret hh ∈ ws) ∧
  (Cond.codeWith y bytes maxL ret hh).before args s = true ∧ (Cond.initialized y.cls).before args s = true ∧ (y.cls ≠ "java/lang/invoke/MethodHandle" ∧ y.cls ≠ "java/lang/invoke/VarHandle") ∧
  (∀ sig, parseMethodDescriptor y.desc = some sig → n = sig.parameters.length) ∧ (Cond.methodLink own index y).before args s = true ∧ (Cond.static y).before args s = true
theorem vx_cwSW {own : String} {index maxL mc ms : Nat} {y : MethodName} {bytes : ByteArray} {ret : Option FieldType} {hh : List (Nat × Nat × Nat × Nat)} {Ts ws ws' : List Cond} {rm : Room} (n : Nat) (ht : ∀ w ∈ Ts, w.before args s = true) (hT : GoodIn Ts (va_wsS own index y ws)) (hw : ws = Cond.codeWith y bytes maxL ret hh :: ws') (hrc : rm.cells = mc) (hrs : rm.slots = ms)
    (hd : y.cls ≠ "java/lang/invoke/MethodHandle" ∧ y.cls ≠ "java/lang/invoke/VarHandle" ∧ (parseMethodDescriptor y.desc).map (fun d => d.parameters.length) = some n) (hR : rm.frames + 1 ≤ R.frames ∧ 8 + (maxL + 11) + rm.locals ≤ R.locals) :
    vx_CSW R s args own index y bytes maxL ret hh ws rm mc ms n := by
  have ok : ∀ w ∈ va_wsS own index y ws, w.before args s = true := fun w h => ht w (hT w h).1
  have hG : GoodIn Ts ws := fun w h => hT w (by unfold va_wsS; exact List.mem_append_right _ h)
  have hc : Cond.codeWith y bytes maxL ret hh ∈ ws := by rw [hw]; exact List.mem_cons_self
  refine ⟨⟨hrc, hrs, hR.1, hR.2, pay_in ht hG, hc⟩, ht _ (hG _ hc).1, ok _ (by simp [va_wsS]), ⟨hd.1, hd.2.1⟩, fun sig h => ?_, ok _ (by simp [va_wsS]), ok _ (by simp [va_wsS])⟩
  have h2 := hd.2.2
  rw [h] at h2
  exact (Option.some.inj h2).symm
theorem vx_callSW (X : Stand p l e R s m args below meth c T locs cells slots) (hexec : p.tables.exec = Jvm.exec) {own : String} {index : Nat} {y : MethodName} {bytes : ByteArray} {maxL : Nat} {ret : Option FieldType} {hh : List (Nat × Nat × Nat × Nat)}
    (hown : s.vm.findClass own = some m.cls) (hlink : (Cond.methodLink own index y).before args s = true) (hstat : (Cond.static y).before args s = true) (hinit : (Cond.initialized y.cls).before args s = true)
    (hcode : (Cond.codeWith y bytes maxL ret hh).before args s = true) (hy : y.cls ≠ "java/lang/invoke/MethodHandle" ∧ y.cls ≠ "java/lang/invoke/VarHandle")
    {W9 : Nat} {Pre : Pt → Array Value → Prop} {Post : Pt → Array Value → Option Value → Pt → Prop} (hK : Back l R p e below s args y 3 W9 Pre Post)
    {g : JFrame} (hg : g.method = m) (hsize : g.locals.size = c.maxLocals) {argsL rest : List Value} (hlen : ∀ sig, parseMethodDescriptor y.desc = some sig → argsL.length = sig.parameters.length)
    (hstack : g.stack = argsL.reverse ++ rest) (hW : 2 * g.monitorRoom + (rest.map fun v => v.category).sum ≤ W9) (hdg : decode c.code g.pc = .ok (.invokestatic index, 3))
    (hpre : ∀ vm₁, s.WarmedH vm₁ → Pre ⟨T.setVm vm₁, locs, cells, slots⟩ argsL.toArray) :
    ∃ (v : Option Value) (vm₁ : Vm) (B : Pt), s.WarmedH vm₁ ∧ Stand p l e R s m args below meth c B.U B.locs B.cells B.slots ∧ Post ⟨T.setVm vm₁, locs, cells, slots⟩ argsL.toArray v B ∧
      ∀ target, Steps p.tables e below (B.U.setTop { g with pc := g.pc + 3, stack := v.toList ++ rest }) target → Steps p.tables e below (T.setTop g) target := by
  obtain ⟨mk, methM, cM, hnamed, hmethM, -, -, -, -, -, -, hsigM⟩ := Cond.codeWith_spec hcode
  have hstatic : methM.isStatic = true := Cond.static_spec hnamed hmethM hstat
  obtain ⟨kP, hkP, -⟩ := className_of_methodNamed hnamed
  have hinitP : kP.init = .initialized := Cond.initialized_spec (findClass_of_methodNamed hnamed) hkP hinit
  obtain ⟨vm₁, X₁, hstep₁⟩ := X.invokestatic hexec hown hlink hnamed hmethM hstatic hkP hinitP hy (g := g) hg (argsL := argsL) (rest := rest) (hlen _ hsigM) hstack hdg
  obtain ⟨v, B, X', hpost, hsteps⟩ := hK m meth c ⟨T.setVm vm₁, locs, cells, slots⟩ { g with stack := rest } (.invokestatic index) mk argsL.toArray X₁ hg hsize hdg hW (X₁.named hnamed) (hpre vm₁ X₁.warmed)
  exact ⟨v, vm₁, B, X₁.warmed, X', hpost, fun target h => hstep₁ _ fun acts => by rw [doInvoke_state]; exact hsteps.trans h⟩
theorem vx_runSW {y : MethodName} {bytes cc : ByteArray} {maxL nL mc ms n index : Nat} {ret : Option FieldType} {hh : List (Nat × Nat × Nat × Nat)} {ws : List Cond} {rm : Room} {Pc : Array Value → State → Prop} {Qc : Array Value → State → Outcome → State → Prop} {free : Addr → Prop} {Ts : List Cond} {own : String} {As rest : List Value} {g : JFrame}
    (S : CallFix p m c cc nL s args Ts own) (hM : Met l y ws rm Pc Qc mc ms free) (cw : vx_CSW R s args own index y bytes maxL ret hh ws rm mc ms n) (hp : PreS s H Pc As)
    (hg : g.method = m) (hn : As.length = n) (hsize : g.locals.size = nL) (hstack : g.stack = As.reverse ++ rest) (hW : 2 * g.monitorRoom + (rest.map fun v => v.category).sum ≤ 8) (hdg : decode cc g.pc = .ok (.invokestatic index, 3)) (hf : cells + mc ≤ R.cells ∧ slots + ms ≤ R.slots) :
    va_Run p l e R s m args below meth c H locs cells slots mc ms g rest (Qc As.toArray) (free) := by
  obtain ⟨⟨hrc, hrs, hfr, hlo, hws, hcw⟩, hcode, hini, hy, hlen, hl, hstt⟩ := cw
  have hK : Back l R p e below s args y 3 8 (PreOf R mc ms Pc) (PostOf Qc mc ms free) := va_backW (hh := hh) (bytes := bytes) (maxL := maxL) (ret := ret) hM hp.1 hrc hrs hfr hlo hws hcw (fun a' U hW => word_at hW (Or.inl (by first | rfl | simp [Cond.onTables, Cond.keeps, Cond.steady])) hini)
  obtain ⟨hx, hb, hml, ho, -⟩ := S
  intro T hT X
  obtain ⟨v, vm₁, ⟨U', l2, c2, s2⟩, hW₁, X', ⟨g', mk, t, L, e1, e2, hq, h1, hL, h2, h3⟩, st⟩ := vx_callSW X hx (hh := hh) (bytes := bytes) (maxL := maxL) (ret := ret) ho hl hstt hini hcode hy hK hg (hsize.trans hml.symm) (argsL := As) (rest := rest) (fun sig h => hn.trans (hlen sig h)) hstack hW (by rw [hb]; exact hdg)
    (fun vm₁ hW₁ => ⟨hf.1, hf.2, hp.2 (T.setVm vm₁) hT hW₁⟩)
  dsimp only [Pt.U, Pt.locs, Pt.cells, Pt.slots] at X' e1 e2 h1 h2 h3 st
  subst h1; subst h2; subst h3
  exact ⟨v, (T.setVm vm₁).calling g' mk As.toArray, t, U', L, hT, X', hL, e1, e2, hq, st⟩
/-- not caught here, past rows that name other classes: it goes on to the caller -/
theorem vx_outP {p : Program} {l : Launch} {e : Env} {R : Room} {s : State} {m : MethodId} {args : Array Value} {below : List Frame} {meth : Method} {c : Code} {H : Heap} {locs : List Loc} {cells slots : Nat} {free : Addr → Prop} {ls : Array Slot} {rest : List Value} {Qc : Array Value → State → Outcome → State → Prop} {XC : String → State → State → Prop}
    {pc : Nat} {own E : String} {ce : Cell} {q : Addr} {mc ms : Nat} (hown : s.vm.findClass own = some m.cls) (hlocks : meth.locks = false)
    (hpass : ∀ z ∈ c.exceptionTable.toList, covers z pc = false ∨ (z.catchType ≠ 0 ∧ ∃ nm : String, (Cond.classLink own z.catchType nm).before args s = true ∧ va_Nc E nm s)) (hcell : H[q]? = some ce) (hv : ce.vm = .none) (hcl : s.vm.findClass E = some ce.cls)
    (hx : ∀ t : State, t.heap = H → s.vm.Alike t.vm → XC E s t) (hf : ∀ z ∈ locs, free z.base) (hc : cells ≤ mc) (hs : slots ≤ ms) :
    vx_W p l e R s m args below meth c H locs cells slots (vx_MQ below Qc XC args s mc ms free) (F0 m pc ls rest) q := by
  intro T hT X
  have hpl : e.platform.magicAccessors = ({} : Platform).magicAccessors := by rw [X.admits.platform]
  obtain ⟨vm', hW', X', st⟩ := X.outThrough hlocks q (g := F0 m pc ls rest) rfl rfl rfl (cell := ce) (by rw [hT]; exact hcell) (by rw [hv]; rfl)
    (by obtain ⟨k9, h9, -⟩ := Vm.findClass_spec hcl; exact ⟨k9, h9⟩) (fun z hz => by
      rcases hpass z hz with h | ⟨hz0, nm, hl1, hn1⟩
      · exact Or.inl h
      · obtain ⟨c6, hc6, hcl6⟩ := Cond.classLink_spec hown hl1 e.platform hpl
        obtain ⟨a8, b8, h1, h2, h3⟩ := hn1
        cases Option.some.inj (h1.symm.trans hcl)
        cases Option.some.inj (h2.symm.trans hc6)
        exact Or.inr ⟨hz0, _, hcl6, h3⟩)
  obtain ⟨g₀, hfr⟩ := X'.frames_eq
  have hcell9 : ((T.setVm vm').setFrames (.throwing q :: below)).heap[q]? = some ce := by
    show T.heap[q]? = some ce
    rw [hT]; exact hcell
  have hend : Ended ((T.setVm vm').setFrames (.throwing q :: below)) below (.threw q) := State.frames_setFrames _ (State.cur_lt_of_frames hfr)
  refine ⟨(T.setVm vm').setFrames (.throwing q :: below), ?_, .threw q, X'.here.running, hend, Or.inr ⟨q, rfl, E, ce, locs, hx _ hT (X'.ends _).1.alike, hcell9, hv, hcl, (X'.ends _).1, (X'.ends _).2.mono hc hs, hf⟩⟩
  rw [X.pushThrowing_eq]
  exact st
/-- a thing of a world lies in the heap -/
theorem vx_lt {D : va_G} {cl : List vw_C} {ws : va_W} {H1 : Heap} (h : va_P D cl ws H1) {k : Nat} {q : Nat × va_E} (hk : ws[k]? = some q) : q.1 < H1.size := (h k q hk).lt
end VXS
/-! ===== END ===== -/
/-! ===== BEGIN methods with a table of their own: called by a name, returning or throwing ===== -/
section VXH
/-! vx_backW, vx_callVX, vx_callSX, vx_callVW, vx_runVW, vx_runVX, vx_runSX, vx_ofWH follow the same proofs as their sisters above (Free/Laws.lean, Shelf42/LK1.lean); vx_outP calls Shelf42/NT130.lean (outThrough). -/
section
variable {l : Launch} {R : Room} {p : Program} {e : Env} {below : List Frame} {s : State} {sargs : Array Value} {y : MethodName} {len W9 : Nat}
theorem vx_backW {ws : List Cond} {rm : Room} {Pc : Array Value → State → Prop} {Qc : Array Value → State → Outcome → State → Prop} {XC : String → State → State → Prop} {mc ms : Nat} {free : Addr → Prop} {bytes : ByteArray} {maxL : Nat} {ret : Option FieldType} {hh : List (Nat × Nat × Nat × Nat)}
    (hM : vx_Met l y ws rm Pc Qc XC mc ms free) (hblind : FrameBlind Pc) (hrc : rm.cells = mc) (hrs : rm.slots = ms)
    (hframes : rm.frames + 1 ≤ R.frames) (hlocals : W9 + (maxL + 11) + rm.locals ≤ R.locals)
    (hws : ∀ w ∈ ws, ∀ a' U, s.WarmedH U.vm → w.before a' U = true) (hcode : Cond.codeWith y bytes maxL ret hh ∈ ws) (hinit : ∀ a' U, s.WarmedH U.vm → (Cond.initialized y.cls).before a' U = true) :
    vx_Back l R p e below s sargs y len W9 (PreOf R mc ms Pc) (PostOf Qc mc ms free) (vx_Post XC mc ms free) := by
  intro m meth c A g ig mk a X hg hsize hdg hW hn hp
  have h1 : (headSpec ws rm).pre.before a A.U = true := atoms_intro fun w hw => hws w hw _ _ X.warmed
  have h2 : (Cond.codeWith y bytes maxL ret hh).before a A.U = true := hws _ hcode _ _ X.warmed
  have h3 : (Cond.initialized y.cls).before a A.U = true := hinit _ _ X.warmed
  have h4 : A.cells + (headSpec ws rm).room.cells ≤ R.cells := by rw [show (headSpec ws rm).room.cells = mc from hrc]; exact hp.1
  have h5 : A.slots + (headSpec ws rm).room.slots ≤ R.slots := by rw [show (headSpec ws rm).room.slots = ms from hrs]; exact hp.2.1
  have hPc : Pc a (A.U.calling g mk a) := hblind _ _ _ _ hp.2.2
  obtain ⟨U, Ls, c0, s0⟩ := A
  dsimp only [Pt.U, Pt.locs, Pt.cells, Pt.slots] at h1 h2 h3 h4 h5 X hn hPc ⊢
  obtain ⟨m9, methY, cY, hn9, hmY, hcY, -, hlY, -⟩ := Cond.codeWith_spec h2
  cases Option.some.inj (hn9.symm.trans hn)
  obtain ⟨kY, hkY, -⟩ := className_of_methodNamed hn
  have hinitY : kY.init = .initialized := Cond.initialized_spec (findClass_of_methodNamed hn) hkY h3
  have h : At U g.method c below := by rw [hg]; exact X.here
  have hlocals9 : W9 + (maxL + 11) + (headSpec ws rm).room.locals ≤ R.locals := hlocals
  have happ : (headSpec ws rm).appliesLoose y e.platform (U.calling g mk a) = true :=
    Spec.appliesLoose_calling (g := g) h hdg hn hkY hinitY
      (X.room_calling (g := g) (R' := (headSpec ws rm).room) hsize hmY hcY hframes (by rw [hlY]; omega) h4 h5) h1
  obtain ⟨mid, hmid⟩ := h.above
  have hfr : (U.setTop g).frames = (.java g :: mid) ++ below := by rw [State.frames_setTop' g h.top, hmid]; rfl
  obtain ⟨o, s₂, hsteps, -, hend, hq⟩ := Steps.callFree hM p X.admits X.cas X.clock (acts := []) hfr happ hPc trivial
  have hq' : vx_Q Qc XC mc ms free a (U.calling g mk a) o s₂ := hq
  rw [State.frames_setTop' g h.top] at hend
  obtain ⟨g₀, hg0⟩ := Option.isSome_iff_exists.mp h.top
  obtain ⟨r, hr⟩ := State.topJava?_eq_some.mp hg0
  have hr' : (({ U with heap := s₂.heap, slotsUsed := s₂.slotsUsed } : State).setVm s₂.vm).frames = .java g₀ :: r := hr
  rcases hq' with ⟨hqc, L, hfe, hL⟩ | ⟨q, rfl, E, ce, L, hx, hce, hcv, hcl, hW₂, hsm, hL⟩
  · obtain ⟨⟨v, rfl⟩, hW₂, e2, q2, q3, q4, q5, q6⟩ := id hfe
    have e3 : s₂ = ({ (U.calling g mk a).setFrames s₂.frames with heap := s₂.heap, slotsUsed := s₂.slotsUsed } : State).setVm s₂.vm := by
      have : s₂ = ({ s₂ with vm := (U.calling g mk a).vm } : State).setVm s₂.vm := rfl
      rw [e2] at this
      exact this
    obtain ⟨c₂, i₂, len₂, hc₂, hd₂, hf₂⟩ := hend
    have hW' : U.WarmedH s₂.vm := hW₂
    have hcc : c₂ = c := by
      have h1 : s₂.code? g.method = U.code? g.method := by
        rw [State.code?_eq, State.code?_eq, hW'.alike.method?]
      exact Option.some.inj (hc₂.symm.trans (h1.trans h.code))
    subst hcc
    have hlen : len₂ = len := by rw [hdg] at hd₂; cases hd₂; rfl
    subst hlen
    have hs₂ : s₂ = (({ U with heap := s₂.heap, slotsUsed := s₂.slotsUsed } : State).setVm s₂.vm).setTop { g with pc := g.pc + len₂, stack := v.toList ++ g.stack } := by
      refine e3.trans ?_
      rw [hf₂, State.calling_eq h.top, State.setFrames_setFrames, State.setTop_of_frames _ hr', hr]
      rfl
    have hsame : U.sameButNew ({ U with heap := s₂.heap, slotsUsed := s₂.slotsUsed } : State) L mc ms := by
      refine ⟨?_, q2, q3, q4, q5, q6⟩
      obtain ⟨t, ht, -⟩ := State.frames_cons hr
      show ({ U with heap := s₂.heap, slotsUsed := s₂.slotsUsed } : State) = { U.setFrames U.frames with heap := s₂.heap, slotsUsed := s₂.slotsUsed }
      rw [State.setFrames_self ht]
    subst hg
    refine Or.inl ⟨v, ⟨(({ U with heap := s₂.heap, slotsUsed := s₂.slotsUsed } : State).setVm s₂.vm), Ls ++ L, c0 + mc, s0 + ms⟩,
      ⟨X.admits, X.cas, X.clock, X.frames, X.room, X.hears, X.method, X.code, (X.here.setHeapUsed s₂.heap s₂.slotsUsed).setVm hW'.alike, X.tail, State.WarmedH.trans X.warmed hW', X.limits, X.bytes, X.same.trans (hsame.setVm s.vm)⟩,
      ⟨g, mk, s₂, L, rfl, rfl, hqc, rfl, hL, rfl, rfl⟩, ?_⟩
    show Steps p.tables e below _ ((({ U with heap := s₂.heap, slotsUsed := s₂.slotsUsed } : State).setVm s₂.vm).setTop { g with pc := g.pc + len₂, stack := v.toList ++ g.stack })
    rw [← hs₂]
    exact hsteps
  · obtain ⟨e2, q2, q3, q4, q5, q6⟩ := id hsm
    have e3 : s₂ = ({ (U.calling g mk a).setFrames s₂.frames with heap := s₂.heap, slotsUsed := s₂.slotsUsed } : State).setVm s₂.vm := by
      have : s₂ = ({ s₂ with vm := (U.calling g mk a).vm } : State).setVm s₂.vm := rfl
      rw [e2] at this
      exact this
    have hf₂ : s₂.frames = .throwing q :: .java g :: U.frames.tail := hend
    have hW' : U.WarmedH s₂.vm := hW₂
    have hs₂ : s₂ = ((({ U with heap := s₂.heap, slotsUsed := s₂.slotsUsed } : State).setVm s₂.vm).setTop g).pushFrame (.throwing q) := by
      refine e3.trans ?_
      rw [hf₂, State.calling_eq h.top, State.setFrames_setFrames, State.pushFrame, State.frames_setTop _ hr', State.setTop_of_frames _ hr', State.setFrames_setFrames, hr]
      rfl
    have hsame : U.sameButNew ({ U with heap := s₂.heap, slotsUsed := s₂.slotsUsed } : State) L mc ms := by
      refine ⟨?_, q2, q3, q4, q5, q6⟩
      obtain ⟨t, ht, -⟩ := State.frames_cons hr
      show ({ U with heap := s₂.heap, slotsUsed := s₂.slotsUsed } : State) = { U.setFrames U.frames with heap := s₂.heap, slotsUsed := s₂.slotsUsed }
      rw [State.setFrames_self ht]
    subst hg
    refine Or.inr ⟨q, ⟨(({ U with heap := s₂.heap, slotsUsed := s₂.slotsUsed } : State).setVm s₂.vm), Ls ++ L, c0 + mc, s0 + ms⟩,
      ⟨X.admits, X.cas, X.clock, X.frames, X.room, X.hears, X.method, X.code, (X.here.setHeapUsed s₂.heap s₂.slotsUsed).setVm hW'.alike, X.tail, State.WarmedH.trans X.warmed hW', X.limits, X.bytes, X.same.trans (hsame.setVm s.vm)⟩,
      ⟨g, mk, s₂, L, E, ce, rfl, rfl, hx, hce, hcv, hcl, rfl, hL, rfl, rfl⟩, ?_⟩
    show Steps p.tables e below _ (((({ U with heap := s₂.heap, slotsUsed := s₂.slotsUsed } : State).setVm s₂.vm).setTop g).pushFrame (.throwing q))
    rw [← hs₂]
    exact hsteps
end
variable {p : Program} {l : Launch} {e : Env} {R : Room} {s : State} {m : MethodId} {args : Array Value} {below : List Frame} {meth : Method} {c : Code} {T : State} {H : Heap} {locs : List Loc} {cells slots : Nat}
theorem vx_callVX (X : Stand p l e R s m args below meth c T locs cells slots) (hexec : p.tables.exec = Jvm.exec) {own C : String} {index : Nat} {y : MethodName} {bytes : ByteArray} {maxL : Nat} {ret : Option FieldType} {hh : List (Nat × Nat × Nat × Nat)}
    (hown : s.vm.findClass own = some m.cls) (hlink : (Cond.methodLink own index y).before args s = true) (hinst : (Cond.instanceMethod y).before args s = true) (hsel : (Cond.selects C y y).before args s = true)
    (hcode : (Cond.codeWith y bytes maxL ret hh).before args s = true) (hy : y.cls ≠ "java/lang/invoke/MethodHandle" ∧ y.cls ≠ "java/lang/invoke/VarHandle")
    {W9 : Nat} {Pre : Pt → Array Value → Prop} {Post : Pt → Array Value → Option Value → Pt → Prop} {PostX : Pt → Array Value → Addr → Pt → Prop} (hK : vx_Back l R p e below s args y 3 W9 Pre Post PostX)
    {b : Addr} {cellB : Cell} (hcell : T.heap[b]? = some cellB) (hobj : cellB.vm.isStatics = false) (hcls : s.vm.findClass C = some cellB.cls)
    {g : JFrame} (hg : g.method = m) (hsize : g.locals.size = c.maxLocals) {argsL rest : List Value} (hlen : ∀ sig, parseMethodDescriptor y.desc = some sig → argsL.length = sig.parameters.length)
    (hstack : g.stack = argsL.reverse ++ .ref b :: rest) (hW : 2 * g.monitorRoom + (rest.map fun v => v.category).sum ≤ W9) (hdg : decode c.code g.pc = .ok (.invokevirtual index, 3))
    (hpre : ∀ vm₁, s.WarmedH vm₁ → Pre ⟨T.setVm vm₁, locs, cells, slots⟩ (Value.ref b :: argsL).toArray) :
    (∃ (v : Option Value) (vm₁ : Vm) (B : Pt), s.WarmedH vm₁ ∧ Stand p l e R s m args below meth c B.U B.locs B.cells B.slots ∧ Post ⟨T.setVm vm₁, locs, cells, slots⟩ (Value.ref b :: argsL).toArray v B ∧
      ∀ target, Steps p.tables e below (B.U.setTop { g with pc := g.pc + 3, stack := v.toList ++ rest }) target → Steps p.tables e below (T.setTop g) target) ∨
    (∃ (q : Addr) (vm₁ : Vm) (B : Pt), s.WarmedH vm₁ ∧ Stand p l e R s m args below meth c B.U B.locs B.cells B.slots ∧ PostX ⟨T.setVm vm₁, locs, cells, slots⟩ (Value.ref b :: argsL).toArray q B ∧
      Steps p.tables e below (T.setTop g) ((B.U.setTop { g with stack := rest }).pushFrame (.throwing q))) := by
  obtain ⟨mk, methM, hnamed, hmethM, hstM, habM⟩ := Cond.instanceMethod_spec hinst
  obtain ⟨m8, methM', cM, hn8, hmethM', -, -, -, -, -, -, hsigM⟩ := Cond.codeWith_spec hcode
  cases Option.some.inj (hn8.symm.trans hnamed)
  cases hmethM.symm.trans hmethM'
  obtain ⟨c2, r2, m2, q1, q2, q3, q4, kP, hkP, hkPi⟩ := Cond.selects_spec hsel
  cases hcls.symm.trans q1
  cases (State.methodFound?_of_named hnamed hy).symm.trans q2
  cases hnamed.symm.trans q3
  have hselP : selectMethod e.platform s.vm cellB.cls mk = .method mk := by rw [Launch.admits_selectMethod X.admits]; exact q4
  obtain ⟨vm₁, X₁, hstep₁⟩ := X.invokevirtual hexec hown hlink hnamed hmethM hstM hkP hkPi hy (a := b) (cell := cellB) hcell
    (fun z h => by rw [h] at hobj; cases hobj) hselP hmethM habM hkP hkPi (g := g) hg (argsL := argsL) (rest := rest) (hlen _ hsigM) hstack hdg
  rcases hK m meth c ⟨T.setVm vm₁, locs, cells, slots⟩ { g with stack := rest } (.invokevirtual index) mk (Value.ref b :: argsL).toArray X₁ hg hsize hdg hW (X₁.named hnamed) (hpre vm₁ X₁.warmed) with ⟨v, B, X', hpost, hsteps⟩ | ⟨q, B, X', hpost, hsteps⟩
  · exact Or.inl ⟨v, vm₁, B, X₁.warmed, X', hpost, fun target h => hstep₁ _ fun acts => by rw [doInvoke_state]; exact hsteps.trans h⟩
  · exact Or.inr ⟨q, vm₁, B, X₁.warmed, X', hpost, hstep₁ _ fun acts => by rw [doInvoke_state]; exact hsteps⟩
theorem vx_callSX (X : Stand p l e R s m args below meth c T locs cells slots) (hexec : p.tables.exec = Jvm.exec) {own : String} {index : Nat} {y : MethodName} {bytes : ByteArray} {maxL : Nat} {ret : Option FieldType} {hh : List (Nat × Nat × Nat × Nat)}
    (hown : s.vm.findClass own = some m.cls) (hlink : (Cond.methodLink own index y).before args s = true) (hstat : (Cond.static y).before args s = true) (hinit : (Cond.initialized y.cls).before args s = true)
    (hcode : (Cond.codeWith y bytes maxL ret hh).before args s = true) (hy : y.cls ≠ "java/lang/invoke/MethodHandle" ∧ y.cls ≠ "java/lang/invoke/VarHandle")
    {W9 : Nat} {Pre : Pt → Array Value → Prop} {Post : Pt → Array Value → Option Value → Pt → Prop} {PostX : Pt → Array Value → Addr → Pt → Prop} (hK : vx_Back l R p e below s args y 3 W9 Pre Post PostX)
    {g : JFrame} (hg : g.method = m) (hsize : g.locals.size = c.maxLocals) {argsL rest : List Value} (hlen : ∀ sig, parseMethodDescriptor y.desc = some sig → argsL.length = sig.parameters.length)
    (hstack : g.stack = argsL.reverse ++ rest) (hW : 2 * g.monitorRoom + (rest.map fun v => v.category).sum ≤ W9) (hdg : decode c.code g.pc = .ok (.invokestatic index, 3))
    (hpre : ∀ vm₁, s.WarmedH vm₁ → Pre ⟨T.setVm vm₁, locs, cells, slots⟩ argsL.toArray) :
    (∃ (v : Option Value) (vm₁ : Vm) (B : Pt), s.WarmedH vm₁ ∧ Stand p l e R s m args below meth c B.U B.locs B.cells B.slots ∧ Post ⟨T.setVm vm₁, locs, cells, slots⟩ argsL.toArray v B ∧
      ∀ target, Steps p.tables e below (B.U.setTop { g with pc := g.pc + 3, stack := v.toList ++ rest }) target → Steps p.tables e below (T.setTop g) target) ∨
    (∃ (q : Addr) (vm₁ : Vm) (B : Pt), s.WarmedH vm₁ ∧ Stand p l e R s m args below meth c B.U B.locs B.cells B.slots ∧ PostX ⟨T.setVm vm₁, locs, cells, slots⟩ argsL.toArray q B ∧
      Steps p.tables e below (T.setTop g) ((B.U.setTop { g with stack := rest }).pushFrame (.throwing q))) := by
  obtain ⟨mk, methM, cM, hnamed, hmethM, -, -, -, -, -, -, hsigM⟩ := Cond.codeWith_spec hcode
  have hstatic : methM.isStatic = true := Cond.static_spec hnamed hmethM hstat
  obtain ⟨kP, hkP, -⟩ := className_of_methodNamed hnamed
  have hinitP : kP.init = .initialized := Cond.initialized_spec (findClass_of_methodNamed hnamed) hkP hinit
  obtain ⟨vm₁, X₁, hstep₁⟩ := X.invokestatic hexec hown hlink hnamed hmethM hstatic hkP hinitP hy (g := g) hg (argsL := argsL) (rest := rest) (hlen _ hsigM) hstack hdg
  rcases hK m meth c ⟨T.setVm vm₁, locs, cells, slots⟩ { g with stack := rest } (.invokestatic index) mk argsL.toArray X₁ hg hsize hdg hW (X₁.named hnamed) (hpre vm₁ X₁.warmed) with ⟨v, B, X', hpost, hsteps⟩ | ⟨q, B, X', hpost, hsteps⟩
  · exact Or.inl ⟨v, vm₁, B, X₁.warmed, X', hpost, fun target h => hstep₁ _ fun acts => by rw [doInvoke_state]; exact hsteps.trans h⟩
  · exact Or.inr ⟨q, vm₁, B, X₁.warmed, X', hpost, hstep₁ _ fun acts => by rw [doInvoke_state]; exact hsteps⟩
theorem vx_callVW (X : Stand p l e R s m args below meth c T locs cells slots) (hexec : p.tables.exec = Jvm.exec) {own C : String} {index : Nat} {y : MethodName} {bytes : ByteArray} {maxL : Nat} {ret : Option FieldType} {hh : List (Nat × Nat × Nat × Nat)}
    (hown : s.vm.findClass own = some m.cls) (hlink : (Cond.methodLink own index y).before args s = true) (hinst : (Cond.instanceMethod y).before args s = true) (hsel : (Cond.selects C y y).before args s = true)
    (hcode : (Cond.codeWith y bytes maxL ret hh).before args s = true) (hy : y.cls ≠ "java/lang/invoke/MethodHandle" ∧ y.cls ≠ "java/lang/invoke/VarHandle")
    {W9 : Nat} {Pre : Pt → Array Value → Prop} {Post : Pt → Array Value → Option Value → Pt → Prop} (hK : Back l R p e below s args y 3 W9 Pre Post)
    {b : Addr} {cellB : Cell} (hcell : T.heap[b]? = some cellB) (hobj : cellB.vm.isStatics = false) (hcls : s.vm.findClass C = some cellB.cls)
    {g : JFrame} (hg : g.method = m) (hsize : g.locals.size = c.maxLocals) {argsL rest : List Value} (hlen : ∀ sig, parseMethodDescriptor y.desc = some sig → argsL.length = sig.parameters.length)
    (hstack : g.stack = argsL.reverse ++ .ref b :: rest) (hW : 2 * g.monitorRoom + (rest.map fun v => v.category).sum ≤ W9) (hdg : decode c.code g.pc = .ok (.invokevirtual index, 3))
    (hpre : ∀ vm₁, s.WarmedH vm₁ → Pre ⟨T.setVm vm₁, locs, cells, slots⟩ (Value.ref b :: argsL).toArray) :
    ∃ (v : Option Value) (vm₁ : Vm) (B : Pt), s.WarmedH vm₁ ∧ Stand p l e R s m args below meth c B.U B.locs B.cells B.slots ∧ Post ⟨T.setVm vm₁, locs, cells, slots⟩ (Value.ref b :: argsL).toArray v B ∧
      ∀ target, Steps p.tables e below (B.U.setTop { g with pc := g.pc + 3, stack := v.toList ++ rest }) target → Steps p.tables e below (T.setTop g) target := by
  obtain ⟨mk, methM, hnamed, hmethM, hstM, habM⟩ := Cond.instanceMethod_spec hinst
  obtain ⟨m8, methM', cM, hn8, hmethM', -, -, -, -, -, -, hsigM⟩ := Cond.codeWith_spec hcode
  cases Option.some.inj (hn8.symm.trans hnamed)
  cases hmethM.symm.trans hmethM'
  obtain ⟨c2, r2, m2, q1, q2, q3, q4, kP, hkP, hkPi⟩ := Cond.selects_spec hsel
  cases hcls.symm.trans q1
  cases (State.methodFound?_of_named hnamed hy).symm.trans q2
  cases hnamed.symm.trans q3
  have hselP : selectMethod e.platform s.vm cellB.cls mk = .method mk := by rw [Launch.admits_selectMethod X.admits]; exact q4
  obtain ⟨vm₁, X₁, hstep₁⟩ := X.invokevirtual hexec hown hlink hnamed hmethM hstM hkP hkPi hy (a := b) (cell := cellB) hcell
    (fun z h => by rw [h] at hobj; cases hobj) hselP hmethM habM hkP hkPi (g := g) hg (argsL := argsL) (rest := rest) (hlen _ hsigM) hstack hdg
  obtain ⟨v, B, X', hpost, hsteps⟩ := hK m meth c ⟨T.setVm vm₁, locs, cells, slots⟩ { g with stack := rest } (.invokevirtual index) mk (Value.ref b :: argsL).toArray X₁ hg hsize hdg hW (X₁.named hnamed) (hpre vm₁ X₁.warmed)
  exact ⟨v, vm₁, B, X₁.warmed, X', hpost, fun target h => hstep₁ _ fun acts => by rw [doInvoke_state]; exact hsteps.trans h⟩
abbrev vx_CVW (R : Room) (s : State) (args : Array Value) (own C : String) (index : Nat) (y : MethodName) (bytes : ByteArray) (maxL : Nat) (ret : Option FieldType) (hh : List (Nat × Nat × Nat × Nat)) (ws : List Cond) (rm : Room) (mc ms n : Nat) : Prop :=
  (rm.cells = mc ∧ rm.slots = ms ∧ rm.frames + 1 ≤ R.frames ∧ 8 + (maxL + 11) + rm.locals ≤ R.locals ∧ (∀ w ∈ ws, ∀ (a' : Array Value) (U : State), s.WarmedH U.vm → w.before a' U = true) ∧ Cond.codeWith y bytes maxL ret hh ∈ ws) ∧
  (Cond.codeWith y bytes maxL ret hh).before args s = true ∧ (Cond.initialized y.cls).before args s = true ∧ (y.cls ≠ "java/lang/invoke/MethodHandle" ∧ y.cls ≠ "java/lang/invoke/VarHandle") ∧
  (∀ sig, parseMethodDescriptor y.desc = some sig → n = sig.parameters.length) ∧ (Cond.methodLink own index y).before args s = true ∧ (Cond.instanceMethod y).before args s = true ∧ (Cond.selects C y y).before args s = true
theorem vx_cwVW {own C : String} {index maxL mc ms : Nat} {y : MethodName} {bytes : ByteArray} {ret : Option FieldType} {hh : List (Nat × Nat × Nat × Nat)} {Ts ws ws' : List Cond} {rm : Room} (n : Nat) (ht : ∀ w ∈ Ts, w.before args s = true) (hT : GoodIn Ts (wsV own index C y ws)) (hw : ws = Cond.codeWith y bytes maxL ret hh :: ws') (hrc : rm.cells = mc) (hrs : rm.slots = ms)
    (hd : y.cls = C ∧ y.cls ≠ "java/lang/invoke/MethodHandle" ∧ y.cls ≠ "java/lang/invoke/VarHandle" ∧ (parseMethodDescriptor y.desc).map (fun d => d.parameters.length) = some n) (hR : rm.frames + 1 ≤ R.frames ∧ 8 + (maxL + 11) + rm.locals ≤ R.locals) :
    vx_CVW R s args own C index y bytes maxL ret hh ws rm mc ms n := by
  obtain ⟨hC, hd⟩ := hd
  subst hC
  have ok : ∀ w ∈ wsV own index y.cls y ws, w.before args s = true := fun w h => ht w (hT w h).1
  have hG : GoodIn Ts ws := fun w h => hT w (by unfold wsV; exact List.mem_append_right _ h)
  have hc : Cond.codeWith y bytes maxL ret hh ∈ ws := by rw [hw]; exact List.mem_cons_self
  refine ⟨⟨hrc, hrs, hR.1, hR.2, pay_in ht hG, hc⟩, ht _ (hG _ hc).1, ok _ (by simp [wsV]), ⟨hd.1, hd.2.1⟩, fun sig h => ?_, ok _ (by simp [wsV]), ok _ (by simp [wsV]), ok _ (by simp [wsV])⟩
  have h2 := hd.2.2
  rw [h] at h2
  exact (Option.some.inj h2).symm
theorem vx_runVW {y : MethodName} {bytes cc : ByteArray} {maxL nL mc ms n index : Nat} {ret : Option FieldType} {hh : List (Nat × Nat × Nat × Nat)} {ws : List Cond} {rm : Room} {Pc : Array Value → State → Prop} {Qc : Array Value → State → Outcome → State → Prop} {free : Addr → Prop} {Ts : List Cond} {own C : String} {b : Addr} {As rest : List Value} {g : JFrame}
    (S : CallFix p m c cc nL s args Ts own) (hM : Met l y ws rm Pc Qc mc ms free) (cw : vx_CVW R s args own C index y bytes maxL ret hh ws rm mc ms n) (hp : PreV s H C b Pc As)
    (hg : g.method = m) (hn : As.length = n) (hsize : g.locals.size = nL) (hstack : g.stack = As.reverse ++ .ref b :: rest) (hW : 2 * g.monitorRoom + (rest.map fun v => v.category).sum ≤ 8) (hdg : decode cc g.pc = .ok (.invokevirtual index, 3)) (hf : cells + mc ≤ R.cells ∧ slots + ms ≤ R.slots) :
    va_Run p l e R s m args below meth c H locs cells slots mc ms g rest (Qc (Value.ref b :: As).toArray) free := by
  obtain ⟨⟨hrc, hrs, hfr, hlo, hws, hcw⟩, hcode, hini, hy, hlen, hl, hin, hse⟩ := cw
  have hK : Back l R p e below s args y 3 8 (PreOf R mc ms Pc) (PostOf Qc mc ms free) := va_backW (hh := hh) (bytes := bytes) (maxL := maxL) (ret := ret) hM hp.1 hrc hrs hfr hlo hws hcw (fun a' U hW => word_at hW (Or.inl (by first | rfl | simp [Cond.onTables, Cond.keeps, Cond.steady])) hini)
  obtain ⟨hx, hb, hml, ho, -⟩ := S
  obtain ⟨-, ⟨cellB, hcB, hoB, hclB⟩, hPc⟩ := hp
  intro T hT X
  obtain ⟨v, vm₁, ⟨U', l2, c2, s2⟩, hW₁, X', ⟨g', mk, t, L, e1, e2, hq, h1, hL, h2, h3⟩, st⟩ := vx_callVW X hx (C := C) (hh := hh) (bytes := bytes) (maxL := maxL) (ret := ret) ho hl hin hse hcode hy hK (by rw [hT]; exact hcB) hoB hclB hg (hsize.trans hml.symm) (argsL := As) (rest := rest) (fun sig h => hn.trans (hlen sig h)) hstack hW (by rw [hb]; exact hdg)
    (fun vm₁ hW₁ => ⟨hf.1, hf.2, hPc (T.setVm vm₁) hT hW₁⟩)
  dsimp only [Pt.U, Pt.locs, Pt.cells, Pt.slots] at X' e1 e2 h1 h2 h3 st
  subst h1; subst h2; subst h3
  exact ⟨v, (T.setVm vm₁).calling g' mk (Value.ref b :: As).toArray, t, U', L, hT, X', hL, e1, e2, hq, st⟩
section
variable {y : MethodName} {bytes cc : ByteArray} {maxL nL mc ms n index : Nat} {ret : Option FieldType} {ws : List Cond} {rm : Room} {Pc : Array Value → State → Prop} {Qc : Array Value → State → Outcome → State → Prop} {XC : String → State → State → Prop} {free : Addr → Prop} {Ts : List Cond} {own C : String} {b : Addr} {As rest : List Value} {g : JFrame}
theorem vx_runVX {hh : List (Nat × Nat × Nat × Nat)} (S : CallFix p m c cc nL s args Ts own) (hM : vx_Met l y ws rm Pc Qc XC mc ms free) (cw : vx_CVW R s args own C index y bytes maxL ret hh ws rm mc ms n) (hp : PreV s H C b Pc As)
    (hg : g.method = m) (hn : As.length = n) (hsize : g.locals.size = nL) (hstack : g.stack = As.reverse ++ .ref b :: rest) (hW : 2 * g.monitorRoom + (rest.map fun v => v.category).sum ≤ 8) (hdg : decode cc g.pc = .ok (.invokevirtual index, 3)) (hf : cells + mc ≤ R.cells ∧ slots + ms ≤ R.slots) :
    vx_Run p l e R s m args below meth c H locs cells slots mc ms g rest (Qc (Value.ref b :: As).toArray) XC free := by
  obtain ⟨⟨hrc, hrs, hfr, hlo, hws, hcw⟩, hcode, hini, hy, hlen, hl, hin, hse⟩ := cw
  have hK : vx_Back l R p e below s args y 3 8 (PreOf R mc ms Pc) (PostOf Qc mc ms free) (vx_Post XC mc ms free) := vx_backW (hh := hh) (bytes := bytes) (maxL := maxL) (ret := ret) hM hp.1 hrc hrs hfr hlo hws hcw (fun a' U hW => word_at hW (Or.inl (by first | rfl | simp [Cond.onTables, Cond.keeps, Cond.steady])) hini)
  obtain ⟨hx, hb, hml, ho, -⟩ := S
  obtain ⟨-, ⟨cellB, hcB, hoB, hclB⟩, hPc⟩ := hp
  intro T hT X
  rcases vx_callVX X hx (C := C) (hh := hh) (bytes := bytes) (maxL := maxL) (ret := ret) ho hl hin hse hcode hy hK (by rw [hT]; exact hcB) hoB hclB hg (hsize.trans hml.symm) (argsL := As) (rest := rest) (fun sig h => hn.trans (hlen sig h)) hstack hW (by rw [hb]; exact hdg)
    (fun vm₁ hW₁ => ⟨hf.1, hf.2, hPc (T.setVm vm₁) hT hW₁⟩) with ⟨v, vm₁, ⟨U', l2, c2, s2⟩, hW₁, X', ⟨g', mk, t, L, e1, e2, hq, h1, hL, h2, h3⟩, st⟩ | ⟨q, vm₁, ⟨U', l2, c2, s2⟩, hW₁, X', ⟨g', mk, t, L, E, ce, e1, e2, hq, hce, hcv, hcl, h1, hL, h2, h3⟩, st⟩
  · dsimp only [Pt.U, Pt.locs, Pt.cells, Pt.slots] at X' e1 e2 h1 h2 h3 st
    subst h1; subst h2; subst h3
    exact Or.inl ⟨v, (T.setVm vm₁).calling g' mk (Value.ref b :: As).toArray, t, U', L, hT, X', hL, e1, e2, hq, st⟩
  · dsimp only [Pt.U, Pt.locs, Pt.cells, Pt.slots] at X' e1 e2 h1 h2 h3 st hcl
    subst h1; subst h2; subst h3
    exact Or.inr ⟨q, (T.setVm vm₁).calling g' mk (Value.ref b :: As).toArray, t, U', L, E, ce, hT, X', hL, e1, e2, hq, hce, hcv, vx_cls hW₁ hcl, st⟩
theorem vx_runSX {hh : List (Nat × Nat × Nat × Nat)} (S : CallFix p m c cc nL s args Ts own) (hM : vx_Met l y ws rm Pc Qc XC mc ms free) (cw : vx_CSW R s args own index y bytes maxL ret hh ws rm mc ms n) (hp : PreS s H Pc As)
    (hg : g.method = m) (hn : As.length = n) (hsize : g.locals.size = nL) (hstack : g.stack = As.reverse ++ rest) (hW : 2 * g.monitorRoom + (rest.map fun v => v.category).sum ≤ 8) (hdg : decode cc g.pc = .ok (.invokestatic index, 3)) (hf : cells + mc ≤ R.cells ∧ slots + ms ≤ R.slots) :
    vx_Run p l e R s m args below meth c H locs cells slots mc ms g rest (Qc As.toArray) XC free := by
  obtain ⟨⟨hrc, hrs, hfr, hlo, hws, hcw⟩, hcode, hini, hy, hlen, hl, hstt⟩ := cw
  have hK : vx_Back l R p e below s args y 3 8 (PreOf R mc ms Pc) (PostOf Qc mc ms free) (vx_Post XC mc ms free) := vx_backW (hh := hh) (bytes := bytes) (maxL := maxL) (ret := ret) hM hp.1 hrc hrs hfr hlo hws hcw (fun a' U hW => word_at hW (Or.inl (by first | rfl | simp [Cond.onTables, Cond.keeps, Cond.steady])) hini)
  obtain ⟨hx, hb, hml, ho, -⟩ := S
  intro T hT X
  rcases vx_callSX X hx (hh := hh) (bytes := bytes) (maxL := maxL) (ret := ret) ho hl hstt hini hcode hy hK hg (hsize.trans hml.symm) (argsL := As) (rest := rest) (fun sig h => hn.trans (hlen sig h)) hstack hW (by rw [hb]; exact hdg)
    (fun vm₁ hW₁ => ⟨hf.1, hf.2, hp.2 (T.setVm vm₁) hT hW₁⟩) with ⟨v, vm₁, ⟨U', l2, c2, s2⟩, hW₁, X', ⟨g', mk, t, L, e1, e2, hq, h1, hL, h2, h3⟩, st⟩ | ⟨q, vm₁, ⟨U', l2, c2, s2⟩, hW₁, X', ⟨g', mk, t, L, E, ce, e1, e2, hq, hce, hcv, hcl, h1, hL, h2, h3⟩, st⟩
  · dsimp only [Pt.U, Pt.locs, Pt.cells, Pt.slots] at X' e1 e2 h1 h2 h3 st
    subst h1; subst h2; subst h3
    exact Or.inl ⟨v, (T.setVm vm₁).calling g' mk As.toArray, t, U', L, hT, X', hL, e1, e2, hq, st⟩
  · dsimp only [Pt.U, Pt.locs, Pt.cells, Pt.slots] at X' e1 e2 h1 h2 h3 st hcl
    subst h1; subst h2; subst h3
    exact Or.inr ⟨q, (T.setVm vm₁).calling g' mk As.toArray, t, U', L, E, ce, hT, X', hL, e1, e2, hq, hce, hcv, vx_cls hW₁ hcl, st⟩
end
end VXH
theorem vx_ofWH {l : Launch} {y : MethodName} {ws ws' : List Cond} {rm : Room} {Pc : Array Value → State → Prop} {Qc : Array Value → State → Outcome → State → Prop} {XC : String → State → State → Prop} {mc ms : Nat} {free : Addr → Prop} {cc : ByteArray} {maxL : Nat} {ret : Option FieldType} {hh : List (Nat × Nat × Nat × Nat)}
    (hy : plainName y.cls = true) (hw : ws = Cond.codeWith y cc maxL ret hh :: ws')
    (body : ∀ p e s m args below meth c s₁, BodyLoose p l y (headSpec ws rm) cc maxL ret e s m args below meth c s₁ → c.maxLocals = maxL → Pc args s →
      W p l e (headSpec ws rm).room s m args below meth c s.heap [] 0 0 (vx_MQ below Qc XC args s mc ms free) (entryFrame m args maxL)) : vx_Met l y ws rm Pc Qc XC mc ms free := by
  refine MetFree.of_bodyS (code := cc) (maxLocals := maxL) (ret := ret) hy ?_ ?_
  · intro args s m h hn
    obtain ⟨m9, meth, c, hn9, h1, h2, h3, h4, -, h5, h6, -⟩ := Cond.codeWith_spec (atoms_spec (ws := ws) h _ (by rw [hw]; exact List.mem_cons_self))
    cases hn.symm.trans hn9
    exact ⟨meth, c, h1, h2, h3, h4, h5, h6⟩
  · intro p e s m args below meth c s₁ B hml hP _
    have hh0 : s₁.heap = s.heap := by rw [B.state]; rfl
    obtain ⟨t, a1, o, b1, b2, b3⟩ := body p e s m args below meth c s₁ B hml hP s₁ hh0 (Stand.of_body B)
    exact ⟨t, o, a1, b1, b2, b3⟩
/-! ===== END ===== -/
end
section
def RX0 : String := "RoadOracle$Hierarchy"
def TX0 : u_T := fun k => match k with
  | 0 => ("RoadOracle$Hierarchy", "network", "LRoadOracle$Network;", true)
  | 1 => ("RoadOracle$Hierarchy", "built", "Z", false)
  | 2 => ("RoadOracle$Hierarchy", "roads", "I", false)
  | 3 => ("RoadOracle$Hierarchy", "arcs", "I", false)
  | 4 => ("RoadOracle$Hierarchy", "shortcuts", "I", false)
  | 5 => ("RoadOracle$Hierarchy", "positions", "[I", true)
  | 6 => ("RoadOracle$Hierarchy", "order", "[I", true)
  | 7 => ("RoadOracle$Hierarchy", "heads", "[J", true)
  | 8 => ("RoadOracle$Hierarchy", "tails", "[J", true)
  | 9 => ("RoadOracle$Hierarchy", "lengths", "[I", true)
  | 10 => ("RoadOracle$Hierarchy", "steps", "[I", true)
  | 11 => ("RoadOracle$Hierarchy", "staleHeads", "[J", true)
  | _ => ("RoadOracle$Hierarchy", "staleTails", "[J", true)
def tyX0 : Nat → FieldType := fun k => match k with
  | 0 => .object "RoadOracle$Network"
  | 1 => .boolean
  | 2 => .int
  | 3 => .int
  | 4 => .int
  | 5 => .array .int
  | 6 => .array .int
  | 7 => .array .long
  | 8 => .array .long
  | 9 => .array .int
  | 10 => .array .int
  | 11 => .array .long
  | _ => .array .long
abbrev wsX00 : List Cond := u_ws RX0 TX0 13
theorem nmX0 : ∀ a, a < 13 → ∀ b, b < 13 → a ≠ b → (TX0 a).2.1 ≠ (TX0 b).2.1 := by decide +kernel
theorem tyX0_ok : ∀ k, k < 13 → parseFieldDescriptor (TX0 k).2.2.1 = some (tyX0 k) := by decide +kernel
abbrev cX0_init : ByteArray := prog_2_method_1_code
def yX0_init : MethodName := ⟨RX0, "<init>", "(LRoadOracle$Network;)V"⟩
abbrev cX0_build : ByteArray := prog_2_method_2_code
def yX0_build : MethodName := ⟨RX0, "build", "()V"⟩
abbrev cX0_linkTurns : ByteArray := prog_2_method_3_code
def yX0_linkTurns : MethodName := ⟨RX0, "linkTurns", "()I"⟩
abbrev cX0_cheapest : ByteArray := prog_2_method_4_code
def yX0_cheapest : MethodName := ⟨RX0, "cheapest", "(J)I"⟩
abbrev cX0_bridge : ByteArray := prog_2_method_5_code
def yX0_bridge : MethodName := ⟨RX0, "bridge", "(JJ)V"⟩
abbrev cX0_renewRoad : ByteArray := prog_2_method_6_code
def yX0_renewRoad : MethodName := ⟨RX0, "renewRoad", "(I)I"⟩
abbrev cX0_renewTurn : ByteArray := prog_2_method_7_code
def yX0_renewTurn : MethodName := ⟨RX0, "renewTurn", "(II)I"⟩
abbrev cX0_renewAll : ByteArray := prog_2_method_8_code
def yX0_renewAll : MethodName := ⟨RX0, "renewAll", "()I"⟩
abbrev cX0_renewSteps : ByteArray := prog_2_method_9_code
def yX0_renewSteps : MethodName := ⟨RX0, "renewSteps", "(JJ)V"⟩
abbrev cX0_renewStepsFrom : ByteArray := prog_2_method_10_code
def yX0_renewStepsFrom : MethodName := ⟨RX0, "renewStepsFrom", "(IJ)V"⟩
abbrev cX0_markArc : ByteArray := prog_2_method_11_code
def yX0_markArc : MethodName := ⟨RX0, "markArc", "(II)V"⟩
abbrev cX0_settle : ByteArray := prog_2_method_12_code
def yX0_settle : MethodName := ⟨RX0, "settle", "()I"⟩
abbrev cX0_settleArc : ByteArray := prog_2_method_13_code
def yX0_settleArc : MethodName := ⟨RX0, "settleArc", "(II)I"⟩
abbrev cX0_computeArc : ByteArray := prog_2_method_14_code
def yX0_computeArc : MethodName := ⟨RX0, "computeArc", "(II)I"⟩
abbrev cX0_markAbove : ByteArray := prog_2_method_15_code
def yX0_markAbove : MethodName := ⟨RX0, "markAbove", "(II)V"⟩
abbrev cX0_spreadForward : ByteArray := prog_2_method_16_code
def yX0_spreadForward : MethodName := ⟨RX0, "spreadForward", "([I)V"⟩
abbrev cX0_passOn : ByteArray := prog_2_method_17_code
def yX0_passOn : MethodName := ⟨RX0, "passOn", "([IIII)V"⟩
def RX1 : String := "RoadOracle$Levels"
def TX1 : u_T := fun k => match k with
  | 0 => ("RoadOracle$Levels", "count", "I", false)
  | 1 => ("RoadOracle$Levels", "roads", "[I", true)
  | 2 => ("RoadOracle$Levels", "weights", "[I", true)
  | 3 => ("RoadOracle$Levels", "settings", "[I", true)
  | 4 => ("RoadOracle$Levels", "openRoads", "[J", true)
  | _ => ("RoadOracle$Levels", "uTurns", "[I", true)
def tyX1 : Nat → FieldType := fun k => match k with
  | 0 => .int
  | 1 => .array .int
  | 2 => .array .int
  | 3 => .array .int
  | 4 => .array .long
  | _ => .array .int
abbrev wsX10 : List Cond := u_ws RX1 TX1 6
theorem nmX1 : ∀ a, a < 6 → ∀ b, b < 6 → a ≠ b → (TX1 a).2.1 ≠ (TX1 b).2.1 := by decide +kernel
theorem tyX1_ok : ∀ k, k < 6 → parseFieldDescriptor (TX1 k).2.2.1 = some (tyX1 k) := by decide +kernel
abbrev cX1_init : ByteArray := prog_3_method_1_code
def yX1_init : MethodName := ⟨RX1, "<init>", "()V"⟩
def RX2 : String := "RoadOracle$Network"
def TX2 : u_T := fun k => match k with
  | 0 => ("RoadOracle$Network", "junctions", "I", false)
  | 1 => ("RoadOracle$Network", "roads", "I", false)
  | 2 => ("RoadOracle$Network", "begin", "[I", true)
  | 3 => ("RoadOracle$Network", "end", "[I", true)
  | 4 => ("RoadOracle$Network", "weights", "[I", true)
  | 5 => ("RoadOracle$Network", "settings", "[I", true)
  | 6 => ("RoadOracle$Network", "beginning", "[J", true)
  | 7 => ("RoadOracle$Network", "ending", "[J", true)
  | 8 => ("RoadOracle$Network", "openRoads", "J", false)
  | _ => ("RoadOracle$Network", "uTurn", "I", false)
def tyX2 : Nat → FieldType := fun k => match k with
  | 0 => .int
  | 1 => .int
  | 2 => .array .int
  | 3 => .array .int
  | 4 => .array .int
  | 5 => .array .int
  | 6 => .array .long
  | 7 => .array .long
  | 8 => .long
  | _ => .int
abbrev wsX20 : List Cond := u_ws RX2 TX2 10
theorem nmX2 : ∀ a, a < 10 → ∀ b, b < 10 → a ≠ b → (TX2 a).2.1 ≠ (TX2 b).2.1 := by decide +kernel
theorem tyX2_ok : ∀ k, k < 10 → parseFieldDescriptor (TX2 k).2.2.1 = some (tyX2 k) := by decide +kernel
abbrev cX2_init : ByteArray := prog_4_method_1_code
def yX2_init : MethodName := ⟨RX2, "<init>", "()V"⟩
abbrev cX2_append : ByteArray := prog_4_method_2_code
def yX2_append : MethodName := ⟨RX2, "append", "(III)I"⟩
abbrev cX2_openOrClose : ByteArray := prog_4_method_3_code
def yX2_openOrClose : MethodName := ⟨RX2, "openOrClose", "(IZ)V"⟩
abbrev cX2_allRoads : ByteArray := prog_4_method_4_code
def yX2_allRoads : MethodName := ⟨RX2, "allRoads", "()J"⟩
abbrev cX2_followersOf : ByteArray := prog_4_method_5_code
def yX2_followersOf : MethodName := ⟨RX2, "followersOf", "(I)J"⟩
abbrev cX2_forerunnersOf : ByteArray := prog_4_method_6_code
def yX2_forerunnersOf : MethodName := ⟨RX2, "forerunnersOf", "(I)J"⟩
abbrev cX2_penaltyOf : ByteArray := prog_4_method_7_code
def yX2_penaltyOf : MethodName := ⟨RX2, "penaltyOf", "(II)I"⟩
abbrev cX2_roadLength : ByteArray := prog_4_method_8_code
def yX2_roadLength : MethodName := ⟨RX2, "roadLength", "(I)I"⟩
abbrev cX2_stepLength : ByteArray := prog_4_method_9_code
def yX2_stepLength : MethodName := ⟨RX2, "stepLength", "(II)I"⟩
def RX3 : String := "RoadOracle"
def TX3 : u_T := fun k => match k with
  | 0 => ("RoadOracle", "network", "LRoadOracle$Network;", true)
  | 1 => ("RoadOracle", "hierarchy", "LRoadOracle$Hierarchy;", true)
  | 2 => ("RoadOracle", "levels", "LRoadOracle$Levels;", true)
  | 3 => ("RoadOracle", "places", "[Z", true)
  | 4 => ("RoadOracle", "lengths", "[I", true)
  | 5 => ("RoadOracle", "junctionLengths", "[I", true)
  | 6 => ("RoadOracle", "pathRoads", "[I", true)
  | 7 => ("RoadOracle", "pathLength", "I", false)
  | 8 => ("RoadOracle", "pathCost", "I", false)
  | 9 => ("RoadOracle", "reachedJunctions", "[I", true)
  | 10 => ("RoadOracle", "reachedCosts", "[I", true)
  | _ => ("RoadOracle", "reachedCount", "I", false)
def tyX3 : Nat → FieldType := fun k => match k with
  | 0 => .object "RoadOracle$Network"
  | 1 => .object "RoadOracle$Hierarchy"
  | 2 => .object "RoadOracle$Levels"
  | 3 => .array .boolean
  | 4 => .array .int
  | 5 => .array .int
  | 6 => .array .int
  | 7 => .int
  | 8 => .int
  | 9 => .array .int
  | 10 => .array .int
  | _ => .int
abbrev wsX30 : List Cond := u_ws RX3 TX3 12
theorem nmX3 : ∀ a, a < 12 → ∀ b, b < 12 → a ≠ b → (TX3 a).2.1 ≠ (TX3 b).2.1 := by decide +kernel
theorem tyX3_ok : ∀ k, k < 12 → parseFieldDescriptor (TX3 k).2.2.1 = some (tyX3 k) := by decide +kernel
abbrev cX3_init : ByteArray := prog_1_method_1_code
def yX3_init : MethodName := ⟨RX3, "<init>", "()V"⟩
abbrev cX3_addJunction : ByteArray := prog_1_method_2_code
def yX3_addJunction : MethodName := ⟨RX3, "addJunction", "()I"⟩
abbrev cX3_addRoad : ByteArray := prog_1_method_3_code
def yX3_addRoad : MethodName := ⟨RX3, "addRoad", "(III)I"⟩
abbrev cX3_setWeight : ByteArray := prog_1_method_4_code
def yX3_setWeight : MethodName := ⟨RX3, "setWeight", "(II)I"⟩
abbrev cX3_setOpen : ByteArray := prog_1_method_5_code
def yX3_setOpen : MethodName := ⟨RX3, "setOpen", "(IZ)I"⟩
abbrev cX3_setTurn : ByteArray := prog_1_method_6_code
def yX3_setTurn : MethodName := ⟨RX3, "setTurn", "(III)I"⟩
abbrev cX3_setUTurn : ByteArray := prog_1_method_7_code
def yX3_setUTurn : MethodName := ⟨RX3, "setUTurn", "(I)I"⟩
abbrev cX3_prepare : ByteArray := prog_1_method_13_code
def yX3_prepare : MethodName := ⟨RX3, "prepare", "()I"⟩
abbrev cX3_hasArc : ByteArray := prog_1_method_17_code
def yX3_hasArc : MethodName := ⟨RX3, "hasArc", "(II)Z"⟩
abbrev cX3_arcCost : ByteArray := prog_1_method_18_code
def yX3_arcCost : MethodName := ⟨RX3, "arcCost", "(II)I"⟩
abbrev cX3_distance : ByteArray := prog_1_method_19_code
def yX3_distance : MethodName := ⟨RX3, "distance", "(II)I"⟩
abbrev cX3_requireJunction : ByteArray := prog_1_method_33_code
def yX3_requireJunction : MethodName := ⟨RX3, "requireJunction", "(I)V"⟩
abbrev cX3_requireRoad : ByteArray := prog_1_method_34_code
def yX3_requireRoad : MethodName := ⟨RX3, "requireRoad", "(I)V"⟩
abbrev cX3_requireTurn : ByteArray := prog_1_method_35_code
def yX3_requireTurn : MethodName := ⟨RX3, "requireTurn", "(II)V"⟩
abbrev cX3_requireWeight : ByteArray := prog_1_method_37_code
def yX3_requireWeight : MethodName := ⟨RX3, "requireWeight", "(I)V"⟩
abbrev cX3_requireHierarchy : ByteArray := prog_1_method_38_code
def yX3_requireHierarchy : MethodName := ⟨RX3, "requireHierarchy", "()V"⟩
abbrev cX3_searchFrom : ByteArray := prog_1_method_39_code
def yX3_searchFrom : MethodName := ⟨RX3, "searchFrom", "(I)V"⟩
abbrev cX3_spreadToJunctions : ByteArray := prog_1_method_40_code
def yX3_spreadToJunctions : MethodName := ⟨RX3, "spreadToJunctions", "()V"⟩
abbrev cX3_foundCost : ByteArray := prog_1_method_42_code
def yX3_foundCost : MethodName := ⟨RX3, "foundCost", "(I)I"⟩
abbrev cX3_costBetween : ByteArray := prog_1_method_43_code
def yX3_costBetween : MethodName := ⟨RX3, "costBetween", "(II)I"⟩
abbrev cX3_costOf : ByteArray := prog_1_method_48_code
def yX3_costOf : MethodName := ⟨RX3, "costOf", "(I)I"⟩
abbrev cX3_pair : ByteArray := prog_1_method_49_code
def yX3_pair : MethodName := ⟨RX3, "pair", "(II)I"⟩
abbrev cX3_only : ByteArray := prog_1_method_51_code
def yX3_only : MethodName := ⟨RX3, "only", "(I)J"⟩
abbrev cX3_has : ByteArray := prog_1_method_52_code
def yX3_has : MethodName := ⟨RX3, "has", "(JI)Z"⟩
def RX4 : String := "RoadOracleModel"
def TX4 : u_T := fun k => match k with
  | _ => ("", "", "", false)
def tyX4 : Nat → FieldType := fun k => match k with
  | _ => .int
abbrev wsX40 : List Cond := u_ws RX4 TX4 0
theorem nmX4 : ∀ a, a < 0 → ∀ b, b < 0 → a ≠ b → (TX4 a).2.1 ≠ (TX4 b).2.1 := by decide +kernel
theorem tyX4_ok : ∀ k, k < 0 → parseFieldDescriptor (TX4 k).2.2.1 = some (tyX4 k) := by decide +kernel
def RJx145de : String := "java/io/Serializable"
def TJx145de : u_T := fun k => match k with
  | _ => ("", "", "", false)
def tyJx145de : Nat → FieldType := fun k => match k with
  | _ => .int
abbrev wsJx145de0 : List Cond := u_ws RJx145de TJx145de 0
theorem nmJx145de : ∀ a, a < 0 → ∀ b, b < 0 → a ≠ b → (TJx145de a).2.1 ≠ (TJx145de b).2.1 := by decide +kernel
theorem tyJx145de_ok : ∀ k, k < 0 → parseFieldDescriptor (TJx145de k).2.2.1 = some (tyJx145de k) := by decide +kernel
def RJ13 : String := "java/lang/Long"
def TJ13 : u_T := fun k => match k with
  | _ => ("", "", "", false)
def tyJ13 : Nat → FieldType := fun k => match k with
  | _ => .int
abbrev wsJ130 : List Cond := u_ws RJ13 TJ13 0
theorem nmJ13 : ∀ a, a < 0 → ∀ b, b < 0 → a ≠ b → (TJ13 a).2.1 ≠ (TJ13 b).2.1 := by decide +kernel
theorem tyJ13_ok : ∀ k, k < 0 → parseFieldDescriptor (TJ13 k).2.2.1 = some (tyJ13 k) := by decide +kernel
abbrev cJ13_bitCount_95d88 : ByteArray := prog_12_method_50_code
def yJ13_bitCount_95d88 : MethodName := ⟨RJ13, "bitCount", "(J)I"⟩
def RJ9 : String := "java/lang/Math"
def TJ9 : u_T := fun k => match k with
  | _ => ("", "", "", false)
def tyJ9 : Nat → FieldType := fun k => match k with
  | _ => .int
abbrev wsJ90 : List Cond := u_ws RJ9 TJ9 0
theorem nmJ9 : ∀ a, a < 0 → ∀ b, b < 0 → a ≠ b → (TJ9 a).2.1 ≠ (TJ9 b).2.1 := by decide +kernel
theorem tyJ9_ok : ∀ k, k < 0 → parseFieldDescriptor (TJ9 k).2.2.1 = some (tyJ9 k) := by decide +kernel
abbrev cJ9_min_7cf53 : ByteArray := prog_13_method_69_code
def yJ9_min_7cf53 : MethodName := ⟨RJ9, "min", "(II)I"⟩
def RJ0 : String := "java/lang/String"
def TJ0 : u_T := fun k => match k with
  | _ => ("", "", "", false)
def tyJ0 : Nat → FieldType := fun k => match k with
  | _ => .int
abbrev wsJ00 : List Cond := u_ws RJ0 TJ0 0
theorem nmJ0 : ∀ a, a < 0 → ∀ b, b < 0 → a ≠ b → (TJ0 a).2.1 ≠ (TJ0 b).2.1 := by decide +kernel
theorem tyJ0_ok : ∀ k, k < 0 → parseFieldDescriptor (TJ0 k).2.2.1 = some (tyJ0 k) := by decide +kernel
def RJ7 : String := "java/util/Arrays"
def TJ7 : u_T := fun k => match k with
  | _ => ("", "", "", false)
def tyJ7 : Nat → FieldType := fun k => match k with
  | _ => .int
abbrev wsJ70 : List Cond := u_ws RJ7 TJ7 0
theorem nmJ7 : ∀ a, a < 0 → ∀ b, b < 0 → a ≠ b → (TJ7 a).2.1 ≠ (TJ7 b).2.1 := by decide +kernel
theorem tyJ7_ok : ∀ k, k < 0 → parseFieldDescriptor (TJ7 k).2.2.1 = some (tyJ7 k) := by decide +kernel
abbrev cJ7_fill_53178 : ByteArray := prog_17_method_103_code
def yJ7_fill_53178 : MethodName := ⟨RJ7, "fill", "([II)V"⟩
def RL : String := "RoadOracleLaw"
abbrev cL_below : ByteArray := method_2_code
def yL_below : MethodName := ⟨RL, "below", "(II)I"⟩
abbrev cL_cell : ByteArray := method_3_code
def yL_cell : MethodName := ⟨RL, "cell", "([II)I"⟩
abbrev cL_build : ByteArray := method_4_code
def yL_build : MethodName := ⟨RL, "build", "(LRoadOracle;[I[I[I[I)Z"⟩
abbrev cL_penalty : ByteArray := method_5_code
def yL_penalty : MethodName := ⟨RL, "penalty", "([I[I[IIII)I"⟩
abbrev cL_find : ByteArray := method_6_code
def yL_find : MethodName := ⟨RL, "find", "([I[I[I[Z[III[I)V"⟩
abbrev cL_distance : ByteArray := method_7_code
def yL_distance : MethodName := ⟨RL, "distance", "([I[III)I"⟩
abbrev cL_change : ByteArray := method_8_code
def yL_change : MethodName := ⟨RL, "change", "(LRoadOracle;I[I[I[I[Z[I[I)I"⟩
abbrev cL_read : ByteArray := method_9_code
def yL_read : MethodName := ⟨RL, "read", "(LRoadOracle;[I)V"⟩
abbrev cL_unlike : ByteArray := method_10_code
def yL_unlike : MethodName := ⟨RL, "unlike", "([I[I)I"⟩
abbrev cL_law : ByteArray := code
def yL_law : MethodName := ⟨RL, "law", "([I)Z"⟩
abbrev vwCl : List vw_C := [(RX0, TX0, 13), (RX1, TX1, 6), (RX2, TX2, 10), (RX3, TX3, 12)]
end
section
theorem dX0_init_0 : decode cX0_init 0 = .ok (.aload_n 0, 1) := by decide +kernel
theorem dX0_init_1 : decode cX0_init 1 = .ok (.invokespecial 3, 3) := by decide +kernel
theorem dX0_init_4 : decode cX0_init 4 = .ok (.aload_n 0, 1) := by decide +kernel
theorem dX0_init_5 : decode cX0_init 5 = .ok (.aload_n 1, 1) := by decide +kernel
theorem dX0_init_6 : decode cX0_init 6 = .ok (.putfield 9, 3) := by decide +kernel
theorem dX0_init_9 : decode cX0_init 9 = .ok (.aload_n 0, 1) := by decide +kernel
theorem dX0_init_10 : decode cX0_init 10 = .ok (.bipush 64, 2) := by decide +kernel
theorem dX0_init_12 : decode cX0_init 12 = .ok (.newarray .int, 2) := by decide +kernel
theorem dX0_init_14 : decode cX0_init 14 = .ok (.putfield 15, 3) := by decide +kernel
theorem dX0_init_17 : decode cX0_init 17 = .ok (.aload_n 0, 1) := by decide +kernel
theorem dX0_init_18 : decode cX0_init 18 = .ok (.bipush 64, 2) := by decide +kernel
theorem dX0_init_20 : decode cX0_init 20 = .ok (.newarray .int, 2) := by decide +kernel
theorem dX0_init_22 : decode cX0_init 22 = .ok (.putfield 19, 3) := by decide +kernel
theorem dX0_init_25 : decode cX0_init 25 = .ok (.aload_n 0, 1) := by decide +kernel
theorem dX0_init_26 : decode cX0_init 26 = .ok (.bipush 64, 2) := by decide +kernel
theorem dX0_init_28 : decode cX0_init 28 = .ok (.newarray .long, 2) := by decide +kernel
theorem dX0_init_30 : decode cX0_init 30 = .ok (.putfield 22, 3) := by decide +kernel
theorem dX0_init_33 : decode cX0_init 33 = .ok (.aload_n 0, 1) := by decide +kernel
theorem dX0_init_34 : decode cX0_init 34 = .ok (.bipush 64, 2) := by decide +kernel
theorem dX0_init_36 : decode cX0_init 36 = .ok (.newarray .long, 2) := by decide +kernel
theorem dX0_init_38 : decode cX0_init 38 = .ok (.putfield 26, 3) := by decide +kernel
theorem dX0_init_41 : decode cX0_init 41 = .ok (.aload_n 0, 1) := by decide +kernel
theorem dX0_init_42 : decode cX0_init 42 = .ok (.sipush 4096, 3) := by decide +kernel
theorem dX0_init_45 : decode cX0_init 45 = .ok (.newarray .int, 2) := by decide +kernel
theorem dX0_init_47 : decode cX0_init 47 = .ok (.putfield 29, 3) := by decide +kernel
theorem dX0_init_50 : decode cX0_init 50 = .ok (.aload_n 0, 1) := by decide +kernel
theorem dX0_init_51 : decode cX0_init 51 = .ok (.sipush 4096, 3) := by decide +kernel
theorem dX0_init_54 : decode cX0_init 54 = .ok (.newarray .int, 2) := by decide +kernel
theorem dX0_init_56 : decode cX0_init 56 = .ok (.putfield 32, 3) := by decide +kernel
theorem dX0_init_59 : decode cX0_init 59 = .ok (.aload_n 0, 1) := by decide +kernel
theorem dX0_init_60 : decode cX0_init 60 = .ok (.bipush 64, 2) := by decide +kernel
theorem dX0_init_62 : decode cX0_init 62 = .ok (.newarray .long, 2) := by decide +kernel
theorem dX0_init_64 : decode cX0_init 64 = .ok (.putfield 35, 3) := by decide +kernel
theorem dX0_init_67 : decode cX0_init 67 = .ok (.aload_n 0, 1) := by decide +kernel
theorem dX0_init_68 : decode cX0_init 68 = .ok (.bipush 64, 2) := by decide +kernel
theorem dX0_init_70 : decode cX0_init 70 = .ok (.newarray .long, 2) := by decide +kernel
theorem dX0_init_72 : decode cX0_init 72 = .ok (.putfield 38, 3) := by decide +kernel
theorem dX0_init_75 : decode cX0_init 75 = .ok (.return_, 1) := by decide +kernel
theorem dX0_build_0 : decode cX0_build 0 = .ok (.aload_n 0, 1) := by decide +kernel
theorem dX0_build_1 : decode cX0_build 1 = .ok (.aload_n 0, 1) := by decide +kernel
theorem dX0_build_2 : decode cX0_build 2 = .ok (.getfield 9, 3) := by decide +kernel
theorem dX0_build_5 : decode cX0_build 5 = .ok (.getfield 41, 3) := by decide +kernel
theorem dX0_build_8 : decode cX0_build 8 = .ok (.putfield 47, 3) := by decide +kernel
theorem dX0_build_11 : decode cX0_build 11 = .ok (.aload_n 0, 1) := by decide +kernel
theorem dX0_build_12 : decode cX0_build 12 = .ok (.invokevirtual 48, 3) := by decide +kernel
theorem dX0_build_15 : decode cX0_build 15 = .ok (.istore_n 1, 1) := by decide +kernel
theorem dX0_build_16 : decode cX0_build 16 = .ok (.aload_n 0, 1) := by decide +kernel
theorem dX0_build_17 : decode cX0_build 17 = .ok (.getfield 9, 3) := by decide +kernel
theorem dX0_build_20 : decode cX0_build 20 = .ok (.invokevirtual 52, 3) := by decide +kernel
theorem dX0_build_23 : decode cX0_build 23 = .ok (.lstore_n 2, 1) := by decide +kernel
theorem dX0_build_24 : decode cX0_build 24 = .ok (.iconst 0, 1) := by decide +kernel
theorem dX0_build_25 : decode cX0_build 25 = .ok (.istore 4, 2) := by decide +kernel
theorem dX0_build_27 : decode cX0_build 27 = .ok (.iload 4, 2) := by decide +kernel
theorem dX0_build_29 : decode cX0_build 29 = .ok (.aload_n 0, 1) := by decide +kernel
theorem dX0_build_30 : decode cX0_build 30 = .ok (.getfield 47, 3) := by decide +kernel
theorem dX0_build_33 : decode cX0_build 33 = .ok (.if_icmp .ge 68, 3) := by decide +kernel
theorem dX0_build_36 : decode cX0_build 36 = .ok (.aload_n 0, 1) := by decide +kernel
theorem dX0_build_37 : decode cX0_build 37 = .ok (.lload_n 2, 1) := by decide +kernel
theorem dX0_build_38 : decode cX0_build 38 = .ok (.invokevirtual 56, 3) := by decide +kernel
theorem dX0_build_41 : decode cX0_build 41 = .ok (.istore 5, 2) := by decide +kernel
theorem dX0_build_43 : decode cX0_build 43 = .ok (.aload_n 0, 1) := by decide +kernel
theorem dX0_build_44 : decode cX0_build 44 = .ok (.getfield 15, 3) := by decide +kernel
theorem dX0_build_47 : decode cX0_build 47 = .ok (.iload 5, 2) := by decide +kernel
theorem dX0_build_49 : decode cX0_build 49 = .ok (.iload 4, 2) := by decide +kernel
theorem dX0_build_51 : decode cX0_build 51 = .ok (.iastore, 1) := by decide +kernel
theorem dX0_build_52 : decode cX0_build 52 = .ok (.aload_n 0, 1) := by decide +kernel
theorem dX0_build_53 : decode cX0_build 53 = .ok (.getfield 19, 3) := by decide +kernel
theorem dX0_build_56 : decode cX0_build 56 = .ok (.iload 4, 2) := by decide +kernel
theorem dX0_build_58 : decode cX0_build 58 = .ok (.iload 5, 2) := by decide +kernel
theorem dX0_build_60 : decode cX0_build 60 = .ok (.iastore, 1) := by decide +kernel
theorem dX0_build_61 : decode cX0_build 61 = .ok (.lload_n 2, 1) := by decide +kernel
theorem dX0_build_62 : decode cX0_build 62 = .ok (.iload 5, 2) := by decide +kernel
theorem dX0_build_64 : decode cX0_build 64 = .ok (.invokestatic 60, 3) := by decide +kernel
theorem dX0_build_67 : decode cX0_build 67 = .ok (.ldc2_w 64, 3) := by decide +kernel
theorem dX0_build_70 : decode cX0_build 70 = .ok (.lxor, 1) := by decide +kernel
theorem dX0_build_71 : decode cX0_build 71 = .ok (.land, 1) := by decide +kernel
theorem dX0_build_72 : decode cX0_build 72 = .ok (.lstore_n 2, 1) := by decide +kernel
theorem dX0_build_73 : decode cX0_build 73 = .ok (.aload_n 0, 1) := by decide +kernel
theorem dX0_build_74 : decode cX0_build 74 = .ok (.aload_n 0, 1) := by decide +kernel
theorem dX0_build_75 : decode cX0_build 75 = .ok (.getfield 26, 3) := by decide +kernel
theorem dX0_build_78 : decode cX0_build 78 = .ok (.iload 5, 2) := by decide +kernel
theorem dX0_build_80 : decode cX0_build 80 = .ok (.laload, 1) := by decide +kernel
theorem dX0_build_81 : decode cX0_build 81 = .ok (.lload_n 2, 1) := by decide +kernel
theorem dX0_build_82 : decode cX0_build 82 = .ok (.land, 1) := by decide +kernel
theorem dX0_build_83 : decode cX0_build 83 = .ok (.aload_n 0, 1) := by decide +kernel
theorem dX0_build_84 : decode cX0_build 84 = .ok (.getfield 22, 3) := by decide +kernel
theorem dX0_build_87 : decode cX0_build 87 = .ok (.iload 5, 2) := by decide +kernel
theorem dX0_build_89 : decode cX0_build 89 = .ok (.laload, 1) := by decide +kernel
theorem dX0_build_90 : decode cX0_build 90 = .ok (.lload_n 2, 1) := by decide +kernel
theorem dX0_build_91 : decode cX0_build 91 = .ok (.land, 1) := by decide +kernel
theorem dX0_build_92 : decode cX0_build 92 = .ok (.invokevirtual 66, 3) := by decide +kernel
theorem dX0_build_95 : decode cX0_build 95 = .ok (.iinc 4 1, 3) := by decide +kernel
theorem dX0_build_98 : decode cX0_build 98 = .ok (.goto (-71), 3) := by decide +kernel
theorem dX0_build_101 : decode cX0_build 101 = .ok (.aload_n 0, 1) := by decide +kernel
theorem dX0_build_102 : decode cX0_build 102 = .ok (.iconst 0, 1) := by decide +kernel
theorem dX0_build_103 : decode cX0_build 103 = .ok (.putfield 70, 3) := by decide +kernel
theorem dX0_build_106 : decode cX0_build 106 = .ok (.iconst 0, 1) := by decide +kernel
theorem dX0_build_107 : decode cX0_build 107 = .ok (.istore 4, 2) := by decide +kernel
theorem dX0_build_109 : decode cX0_build 109 = .ok (.iload 4, 2) := by decide +kernel
theorem dX0_build_111 : decode cX0_build 111 = .ok (.aload_n 0, 1) := by decide +kernel
theorem dX0_build_112 : decode cX0_build 112 = .ok (.getfield 47, 3) := by decide +kernel
theorem dX0_build_115 : decode cX0_build 115 = .ok (.if_icmp .ge 28, 3) := by decide +kernel
theorem dX0_build_118 : decode cX0_build 118 = .ok (.aload_n 0, 1) := by decide +kernel
theorem dX0_build_119 : decode cX0_build 119 = .ok (.dup, 1) := by decide +kernel
theorem dX0_build_120 : decode cX0_build 120 = .ok (.getfield 70, 3) := by decide +kernel
theorem dX0_build_123 : decode cX0_build 123 = .ok (.aload_n 0, 1) := by decide +kernel
theorem dX0_build_124 : decode cX0_build 124 = .ok (.getfield 22, 3) := by decide +kernel
theorem dX0_build_127 : decode cX0_build 127 = .ok (.iload 4, 2) := by decide +kernel
theorem dX0_build_129 : decode cX0_build 129 = .ok (.laload, 1) := by decide +kernel
theorem dX0_build_130 : decode cX0_build 130 = .ok (.invokestatic 73, 3) := by decide +kernel
theorem dX0_build_133 : decode cX0_build 133 = .ok (.iadd, 1) := by decide +kernel
theorem dX0_build_134 : decode cX0_build 134 = .ok (.putfield 70, 3) := by decide +kernel
theorem dX0_build_137 : decode cX0_build 137 = .ok (.iinc 4 1, 3) := by decide +kernel
theorem dX0_build_140 : decode cX0_build 140 = .ok (.goto (-31), 3) := by decide +kernel
theorem dX0_build_143 : decode cX0_build 143 = .ok (.aload_n 0, 1) := by decide +kernel
theorem dX0_build_144 : decode cX0_build 144 = .ok (.aload_n 0, 1) := by decide +kernel
theorem dX0_build_145 : decode cX0_build 145 = .ok (.getfield 70, 3) := by decide +kernel
theorem dX0_build_148 : decode cX0_build 148 = .ok (.iload_n 1, 1) := by decide +kernel
theorem dX0_build_149 : decode cX0_build 149 = .ok (.isub, 1) := by decide +kernel
theorem dX0_build_150 : decode cX0_build 150 = .ok (.putfield 78, 3) := by decide +kernel
theorem dX0_build_153 : decode cX0_build 153 = .ok (.aload_n 0, 1) := by decide +kernel
theorem dX0_build_154 : decode cX0_build 154 = .ok (.getfield 29, 3) := by decide +kernel
theorem dX0_build_157 : decode cX0_build 157 = .ok (.ldc 81, 2) := by decide +kernel
theorem dX0_build_159 : decode cX0_build 159 = .ok (.invokestatic 82, 3) := by decide +kernel
theorem dX0_build_162 : decode cX0_build 162 = .ok (.aload_n 0, 1) := by decide +kernel
theorem dX0_build_163 : decode cX0_build 163 = .ok (.getfield 32, 3) := by decide +kernel
theorem dX0_build_166 : decode cX0_build 166 = .ok (.ldc 81, 2) := by decide +kernel
theorem dX0_build_168 : decode cX0_build 168 = .ok (.invokestatic 82, 3) := by decide +kernel
theorem dX0_build_171 : decode cX0_build 171 = .ok (.aload_n 0, 1) := by decide +kernel
theorem dX0_build_172 : decode cX0_build 172 = .ok (.aload_n 0, 1) := by decide +kernel
theorem dX0_build_173 : decode cX0_build 173 = .ok (.getfield 9, 3) := by decide +kernel
theorem dX0_build_176 : decode cX0_build 176 = .ok (.invokevirtual 52, 3) := by decide +kernel
theorem dX0_build_179 : decode cX0_build 179 = .ok (.aload_n 0, 1) := by decide +kernel
theorem dX0_build_180 : decode cX0_build 180 = .ok (.getfield 9, 3) := by decide +kernel
theorem dX0_build_183 : decode cX0_build 183 = .ok (.invokevirtual 52, 3) := by decide +kernel
theorem dX0_build_186 : decode cX0_build 186 = .ok (.invokevirtual 88, 3) := by decide +kernel
theorem dX0_build_189 : decode cX0_build 189 = .ok (.aload_n 0, 1) := by decide +kernel
theorem dX0_build_190 : decode cX0_build 190 = .ok (.invokevirtual 91, 3) := by decide +kernel
theorem dX0_build_193 : decode cX0_build 193 = .ok (.pop, 1) := by decide +kernel
theorem dX0_build_194 : decode cX0_build 194 = .ok (.aload_n 0, 1) := by decide +kernel
theorem dX0_build_195 : decode cX0_build 195 = .ok (.iconst 1, 1) := by decide +kernel
theorem dX0_build_196 : decode cX0_build 196 = .ok (.putfield 94, 3) := by decide +kernel
theorem dX0_build_199 : decode cX0_build 199 = .ok (.return_, 1) := by decide +kernel
theorem dX0_linkTurns_0 : decode cX0_linkTurns 0 = .ok (.iconst 0, 1) := by decide +kernel
theorem dX0_linkTurns_1 : decode cX0_linkTurns 1 = .ok (.istore_n 1, 1) := by decide +kernel
theorem dX0_linkTurns_2 : decode cX0_linkTurns 2 = .ok (.iconst 0, 1) := by decide +kernel
theorem dX0_linkTurns_3 : decode cX0_linkTurns 3 = .ok (.istore_n 2, 1) := by decide +kernel
theorem dX0_linkTurns_4 : decode cX0_linkTurns 4 = .ok (.iload_n 2, 1) := by decide +kernel
theorem dX0_linkTurns_5 : decode cX0_linkTurns 5 = .ok (.aload_n 0, 1) := by decide +kernel
theorem dX0_linkTurns_6 : decode cX0_linkTurns 6 = .ok (.getfield 47, 3) := by decide +kernel
theorem dX0_linkTurns_9 : decode cX0_linkTurns 9 = .ok (.if_icmp .ge 49, 3) := by decide +kernel
theorem dX0_linkTurns_12 : decode cX0_linkTurns 12 = .ok (.aload_n 0, 1) := by decide +kernel
theorem dX0_linkTurns_13 : decode cX0_linkTurns 13 = .ok (.getfield 22, 3) := by decide +kernel
theorem dX0_linkTurns_16 : decode cX0_linkTurns 16 = .ok (.iload_n 2, 1) := by decide +kernel
theorem dX0_linkTurns_17 : decode cX0_linkTurns 17 = .ok (.aload_n 0, 1) := by decide +kernel
theorem dX0_linkTurns_18 : decode cX0_linkTurns 18 = .ok (.getfield 9, 3) := by decide +kernel
theorem dX0_linkTurns_21 : decode cX0_linkTurns 21 = .ok (.iload_n 2, 1) := by decide +kernel
theorem dX0_linkTurns_22 : decode cX0_linkTurns 22 = .ok (.invokevirtual 98, 3) := by decide +kernel
theorem dX0_linkTurns_25 : decode cX0_linkTurns 25 = .ok (.lastore, 1) := by decide +kernel
theorem dX0_linkTurns_26 : decode cX0_linkTurns 26 = .ok (.aload_n 0, 1) := by decide +kernel
theorem dX0_linkTurns_27 : decode cX0_linkTurns 27 = .ok (.getfield 26, 3) := by decide +kernel
theorem dX0_linkTurns_30 : decode cX0_linkTurns 30 = .ok (.iload_n 2, 1) := by decide +kernel
theorem dX0_linkTurns_31 : decode cX0_linkTurns 31 = .ok (.aload_n 0, 1) := by decide +kernel
theorem dX0_linkTurns_32 : decode cX0_linkTurns 32 = .ok (.getfield 9, 3) := by decide +kernel
theorem dX0_linkTurns_35 : decode cX0_linkTurns 35 = .ok (.iload_n 2, 1) := by decide +kernel
theorem dX0_linkTurns_36 : decode cX0_linkTurns 36 = .ok (.invokevirtual 101, 3) := by decide +kernel
theorem dX0_linkTurns_39 : decode cX0_linkTurns 39 = .ok (.lastore, 1) := by decide +kernel
theorem dX0_linkTurns_40 : decode cX0_linkTurns 40 = .ok (.iload_n 1, 1) := by decide +kernel
theorem dX0_linkTurns_41 : decode cX0_linkTurns 41 = .ok (.aload_n 0, 1) := by decide +kernel
theorem dX0_linkTurns_42 : decode cX0_linkTurns 42 = .ok (.getfield 22, 3) := by decide +kernel
theorem dX0_linkTurns_45 : decode cX0_linkTurns 45 = .ok (.iload_n 2, 1) := by decide +kernel
theorem dX0_linkTurns_46 : decode cX0_linkTurns 46 = .ok (.laload, 1) := by decide +kernel
theorem dX0_linkTurns_47 : decode cX0_linkTurns 47 = .ok (.invokestatic 73, 3) := by decide +kernel
theorem dX0_linkTurns_50 : decode cX0_linkTurns 50 = .ok (.iadd, 1) := by decide +kernel
theorem dX0_linkTurns_51 : decode cX0_linkTurns 51 = .ok (.istore_n 1, 1) := by decide +kernel
theorem dX0_linkTurns_52 : decode cX0_linkTurns 52 = .ok (.iinc 2 1, 3) := by decide +kernel
theorem dX0_linkTurns_55 : decode cX0_linkTurns 55 = .ok (.goto (-51), 3) := by decide +kernel
theorem dX0_linkTurns_58 : decode cX0_linkTurns 58 = .ok (.iload_n 1, 1) := by decide +kernel
theorem dX0_linkTurns_59 : decode cX0_linkTurns 59 = .ok (.ireturn, 1) := by decide +kernel
theorem dX0_cheapest_0 : decode cX0_cheapest 0 = .ok (.iconst 0, 1) := by decide +kernel
theorem dX0_cheapest_1 : decode cX0_cheapest 1 = .ok (.istore_n 3, 1) := by decide +kernel
theorem dX0_cheapest_2 : decode cX0_cheapest 2 = .ok (.ldc 81, 2) := by decide +kernel
theorem dX0_cheapest_4 : decode cX0_cheapest 4 = .ok (.istore 4, 2) := by decide +kernel
theorem dX0_cheapest_6 : decode cX0_cheapest 6 = .ok (.iconst 0, 1) := by decide +kernel
theorem dX0_cheapest_7 : decode cX0_cheapest 7 = .ok (.istore 5, 2) := by decide +kernel
theorem dX0_cheapest_9 : decode cX0_cheapest 9 = .ok (.iload 5, 2) := by decide +kernel
theorem dX0_cheapest_11 : decode cX0_cheapest 11 = .ok (.aload_n 0, 1) := by decide +kernel
theorem dX0_cheapest_12 : decode cX0_cheapest 12 = .ok (.getfield 47, 3) := by decide +kernel
theorem dX0_cheapest_15 : decode cX0_cheapest 15 = .ok (.if_icmp .ge 66, 3) := by decide +kernel
theorem dX0_cheapest_18 : decode cX0_cheapest 18 = .ok (.lload_n 1, 1) := by decide +kernel
theorem dX0_cheapest_19 : decode cX0_cheapest 19 = .ok (.iload 5, 2) := by decide +kernel
theorem dX0_cheapest_21 : decode cX0_cheapest 21 = .ok (.invokestatic 104, 3) := by decide +kernel
theorem dX0_cheapest_24 : decode cX0_cheapest 24 = .ok (.ifCond .eq 51, 3) := by decide +kernel
theorem dX0_cheapest_27 : decode cX0_cheapest 27 = .ok (.aload_n 0, 1) := by decide +kernel
theorem dX0_cheapest_28 : decode cX0_cheapest 28 = .ok (.getfield 26, 3) := by decide +kernel
theorem dX0_cheapest_31 : decode cX0_cheapest 31 = .ok (.iload 5, 2) := by decide +kernel
theorem dX0_cheapest_33 : decode cX0_cheapest 33 = .ok (.laload, 1) := by decide +kernel
theorem dX0_cheapest_34 : decode cX0_cheapest 34 = .ok (.lload_n 1, 1) := by decide +kernel
theorem dX0_cheapest_35 : decode cX0_cheapest 35 = .ok (.land, 1) := by decide +kernel
theorem dX0_cheapest_36 : decode cX0_cheapest 36 = .ok (.invokestatic 73, 3) := by decide +kernel
theorem dX0_cheapest_39 : decode cX0_cheapest 39 = .ok (.istore 6, 2) := by decide +kernel
theorem dX0_cheapest_41 : decode cX0_cheapest 41 = .ok (.aload_n 0, 1) := by decide +kernel
theorem dX0_cheapest_42 : decode cX0_cheapest 42 = .ok (.getfield 22, 3) := by decide +kernel
theorem dX0_cheapest_45 : decode cX0_cheapest 45 = .ok (.iload 5, 2) := by decide +kernel
theorem dX0_cheapest_47 : decode cX0_cheapest 47 = .ok (.laload, 1) := by decide +kernel
theorem dX0_cheapest_48 : decode cX0_cheapest 48 = .ok (.lload_n 1, 1) := by decide +kernel
theorem dX0_cheapest_49 : decode cX0_cheapest 49 = .ok (.land, 1) := by decide +kernel
theorem dX0_cheapest_50 : decode cX0_cheapest 50 = .ok (.invokestatic 73, 3) := by decide +kernel
theorem dX0_cheapest_53 : decode cX0_cheapest 53 = .ok (.istore 7, 2) := by decide +kernel
theorem dX0_cheapest_55 : decode cX0_cheapest 55 = .ok (.iload 6, 2) := by decide +kernel
theorem dX0_cheapest_57 : decode cX0_cheapest 57 = .ok (.iload 7, 2) := by decide +kernel
theorem dX0_cheapest_59 : decode cX0_cheapest 59 = .ok (.imul, 1) := by decide +kernel
theorem dX0_cheapest_60 : decode cX0_cheapest 60 = .ok (.iload 4, 2) := by decide +kernel
theorem dX0_cheapest_62 : decode cX0_cheapest 62 = .ok (.if_icmp .ge 13, 3) := by decide +kernel
theorem dX0_cheapest_65 : decode cX0_cheapest 65 = .ok (.iload 5, 2) := by decide +kernel
theorem dX0_cheapest_67 : decode cX0_cheapest 67 = .ok (.istore_n 3, 1) := by decide +kernel
theorem dX0_cheapest_68 : decode cX0_cheapest 68 = .ok (.iload 6, 2) := by decide +kernel
theorem dX0_cheapest_70 : decode cX0_cheapest 70 = .ok (.iload 7, 2) := by decide +kernel
theorem dX0_cheapest_72 : decode cX0_cheapest 72 = .ok (.imul, 1) := by decide +kernel
theorem dX0_cheapest_73 : decode cX0_cheapest 73 = .ok (.istore 4, 2) := by decide +kernel
theorem dX0_cheapest_75 : decode cX0_cheapest 75 = .ok (.iinc 5 1, 3) := by decide +kernel
theorem dX0_cheapest_78 : decode cX0_cheapest 78 = .ok (.goto (-69), 3) := by decide +kernel
theorem dX0_cheapest_81 : decode cX0_cheapest 81 = .ok (.iload_n 3, 1) := by decide +kernel
theorem dX0_cheapest_82 : decode cX0_cheapest 82 = .ok (.ireturn, 1) := by decide +kernel
theorem dX0_bridge_0 : decode cX0_bridge 0 = .ok (.iconst 0, 1) := by decide +kernel
theorem dX0_bridge_1 : decode cX0_bridge 1 = .ok (.istore 5, 2) := by decide +kernel
theorem dX0_bridge_3 : decode cX0_bridge 3 = .ok (.iload 5, 2) := by decide +kernel
theorem dX0_bridge_5 : decode cX0_bridge 5 = .ok (.aload_n 0, 1) := by decide +kernel
theorem dX0_bridge_6 : decode cX0_bridge 6 = .ok (.getfield 47, 3) := by decide +kernel
theorem dX0_bridge_9 : decode cX0_bridge 9 = .ok (.if_icmp .ge 69, 3) := by decide +kernel
theorem dX0_bridge_12 : decode cX0_bridge 12 = .ok (.lload_n 1, 1) := by decide +kernel
theorem dX0_bridge_13 : decode cX0_bridge 13 = .ok (.iload 5, 2) := by decide +kernel
theorem dX0_bridge_15 : decode cX0_bridge 15 = .ok (.invokestatic 104, 3) := by decide +kernel
theorem dX0_bridge_18 : decode cX0_bridge 18 = .ok (.ifCond .eq 24, 3) := by decide +kernel
theorem dX0_bridge_21 : decode cX0_bridge 21 = .ok (.aload_n 0, 1) := by decide +kernel
theorem dX0_bridge_22 : decode cX0_bridge 22 = .ok (.getfield 22, 3) := by decide +kernel
theorem dX0_bridge_25 : decode cX0_bridge 25 = .ok (.iload 5, 2) := by decide +kernel
theorem dX0_bridge_27 : decode cX0_bridge 27 = .ok (.dup2, 1) := by decide +kernel
theorem dX0_bridge_28 : decode cX0_bridge 28 = .ok (.laload, 1) := by decide +kernel
theorem dX0_bridge_29 : decode cX0_bridge 29 = .ok (.lload_n 3, 1) := by decide +kernel
theorem dX0_bridge_30 : decode cX0_bridge 30 = .ok (.iload 5, 2) := by decide +kernel
theorem dX0_bridge_32 : decode cX0_bridge 32 = .ok (.invokestatic 60, 3) := by decide +kernel
theorem dX0_bridge_35 : decode cX0_bridge 35 = .ok (.ldc2_w 64, 3) := by decide +kernel
theorem dX0_bridge_38 : decode cX0_bridge 38 = .ok (.lxor, 1) := by decide +kernel
theorem dX0_bridge_39 : decode cX0_bridge 39 = .ok (.land, 1) := by decide +kernel
theorem dX0_bridge_40 : decode cX0_bridge 40 = .ok (.lor, 1) := by decide +kernel
theorem dX0_bridge_41 : decode cX0_bridge 41 = .ok (.lastore, 1) := by decide +kernel
theorem dX0_bridge_42 : decode cX0_bridge 42 = .ok (.lload_n 3, 1) := by decide +kernel
theorem dX0_bridge_43 : decode cX0_bridge 43 = .ok (.iload 5, 2) := by decide +kernel
theorem dX0_bridge_45 : decode cX0_bridge 45 = .ok (.invokestatic 104, 3) := by decide +kernel
theorem dX0_bridge_48 : decode cX0_bridge 48 = .ok (.ifCond .eq 24, 3) := by decide +kernel
theorem dX0_bridge_51 : decode cX0_bridge 51 = .ok (.aload_n 0, 1) := by decide +kernel
theorem dX0_bridge_52 : decode cX0_bridge 52 = .ok (.getfield 26, 3) := by decide +kernel
theorem dX0_bridge_55 : decode cX0_bridge 55 = .ok (.iload 5, 2) := by decide +kernel
theorem dX0_bridge_57 : decode cX0_bridge 57 = .ok (.dup2, 1) := by decide +kernel
theorem dX0_bridge_58 : decode cX0_bridge 58 = .ok (.laload, 1) := by decide +kernel
theorem dX0_bridge_59 : decode cX0_bridge 59 = .ok (.lload_n 1, 1) := by decide +kernel
theorem dX0_bridge_60 : decode cX0_bridge 60 = .ok (.iload 5, 2) := by decide +kernel
theorem dX0_bridge_62 : decode cX0_bridge 62 = .ok (.invokestatic 60, 3) := by decide +kernel
theorem dX0_bridge_65 : decode cX0_bridge 65 = .ok (.ldc2_w 64, 3) := by decide +kernel
theorem dX0_bridge_68 : decode cX0_bridge 68 = .ok (.lxor, 1) := by decide +kernel
theorem dX0_bridge_69 : decode cX0_bridge 69 = .ok (.land, 1) := by decide +kernel
theorem dX0_bridge_70 : decode cX0_bridge 70 = .ok (.lor, 1) := by decide +kernel
theorem dX0_bridge_71 : decode cX0_bridge 71 = .ok (.lastore, 1) := by decide +kernel
theorem dX0_bridge_72 : decode cX0_bridge 72 = .ok (.iinc 5 1, 3) := by decide +kernel
theorem dX0_bridge_75 : decode cX0_bridge 75 = .ok (.goto (-72), 3) := by decide +kernel
theorem dX0_bridge_78 : decode cX0_bridge 78 = .ok (.return_, 1) := by decide +kernel
theorem dX0_renewRoad_0 : decode cX0_renewRoad 0 = .ok (.aload_n 0, 1) := by decide +kernel
theorem dX0_renewRoad_1 : decode cX0_renewRoad 1 = .ok (.getfield 94, 3) := by decide +kernel
theorem dX0_renewRoad_4 : decode cX0_renewRoad 4 = .ok (.ifCond .ne 5, 3) := by decide +kernel
theorem dX0_renewRoad_7 : decode cX0_renewRoad 7 = .ok (.iconst 0, 1) := by decide +kernel
theorem dX0_renewRoad_8 : decode cX0_renewRoad 8 = .ok (.ireturn, 1) := by decide +kernel
theorem dX0_renewRoad_9 : decode cX0_renewRoad 9 = .ok (.aload_n 0, 1) := by decide +kernel
theorem dX0_renewRoad_10 : decode cX0_renewRoad 10 = .ok (.aload_n 0, 1) := by decide +kernel
theorem dX0_renewRoad_11 : decode cX0_renewRoad 11 = .ok (.getfield 9, 3) := by decide +kernel
theorem dX0_renewRoad_14 : decode cX0_renewRoad 14 = .ok (.iload_n 1, 1) := by decide +kernel
theorem dX0_renewRoad_15 : decode cX0_renewRoad 15 = .ok (.invokevirtual 101, 3) := by decide +kernel
theorem dX0_renewRoad_18 : decode cX0_renewRoad 18 = .ok (.iload_n 1, 1) := by decide +kernel
theorem dX0_renewRoad_19 : decode cX0_renewRoad 19 = .ok (.invokestatic 60, 3) := by decide +kernel
theorem dX0_renewRoad_22 : decode cX0_renewRoad 22 = .ok (.invokevirtual 88, 3) := by decide +kernel
theorem dX0_renewRoad_25 : decode cX0_renewRoad 25 = .ok (.aload_n 0, 1) := by decide +kernel
theorem dX0_renewRoad_26 : decode cX0_renewRoad 26 = .ok (.iload_n 1, 1) := by decide +kernel
theorem dX0_renewRoad_27 : decode cX0_renewRoad 27 = .ok (.invokestatic 60, 3) := by decide +kernel
theorem dX0_renewRoad_30 : decode cX0_renewRoad 30 = .ok (.aload_n 0, 1) := by decide +kernel
theorem dX0_renewRoad_31 : decode cX0_renewRoad 31 = .ok (.getfield 9, 3) := by decide +kernel
theorem dX0_renewRoad_34 : decode cX0_renewRoad 34 = .ok (.iload_n 1, 1) := by decide +kernel
theorem dX0_renewRoad_35 : decode cX0_renewRoad 35 = .ok (.invokevirtual 98, 3) := by decide +kernel
theorem dX0_renewRoad_38 : decode cX0_renewRoad 38 = .ok (.invokevirtual 88, 3) := by decide +kernel
theorem dX0_renewRoad_41 : decode cX0_renewRoad 41 = .ok (.aload_n 0, 1) := by decide +kernel
theorem dX0_renewRoad_42 : decode cX0_renewRoad 42 = .ok (.invokevirtual 91, 3) := by decide +kernel
theorem dX0_renewRoad_45 : decode cX0_renewRoad 45 = .ok (.ireturn, 1) := by decide +kernel
theorem dX0_renewTurn_0 : decode cX0_renewTurn 0 = .ok (.aload_n 0, 1) := by decide +kernel
theorem dX0_renewTurn_1 : decode cX0_renewTurn 1 = .ok (.getfield 94, 3) := by decide +kernel
theorem dX0_renewTurn_4 : decode cX0_renewTurn 4 = .ok (.ifCond .ne 5, 3) := by decide +kernel
theorem dX0_renewTurn_7 : decode cX0_renewTurn 7 = .ok (.iconst 0, 1) := by decide +kernel
theorem dX0_renewTurn_8 : decode cX0_renewTurn 8 = .ok (.ireturn, 1) := by decide +kernel
theorem dX0_renewTurn_9 : decode cX0_renewTurn 9 = .ok (.aload_n 0, 1) := by decide +kernel
theorem dX0_renewTurn_10 : decode cX0_renewTurn 10 = .ok (.iload_n 1, 1) := by decide +kernel
theorem dX0_renewTurn_11 : decode cX0_renewTurn 11 = .ok (.invokestatic 60, 3) := by decide +kernel
theorem dX0_renewTurn_14 : decode cX0_renewTurn 14 = .ok (.iload_n 2, 1) := by decide +kernel
theorem dX0_renewTurn_15 : decode cX0_renewTurn 15 = .ok (.invokestatic 60, 3) := by decide +kernel
theorem dX0_renewTurn_18 : decode cX0_renewTurn 18 = .ok (.invokevirtual 88, 3) := by decide +kernel
theorem dX0_renewTurn_21 : decode cX0_renewTurn 21 = .ok (.aload_n 0, 1) := by decide +kernel
theorem dX0_renewTurn_22 : decode cX0_renewTurn 22 = .ok (.invokevirtual 91, 3) := by decide +kernel
theorem dX0_renewTurn_25 : decode cX0_renewTurn 25 = .ok (.ireturn, 1) := by decide +kernel
theorem dX0_renewAll_0 : decode cX0_renewAll 0 = .ok (.aload_n 0, 1) := by decide +kernel
theorem dX0_renewAll_1 : decode cX0_renewAll 1 = .ok (.getfield 94, 3) := by decide +kernel
theorem dX0_renewAll_4 : decode cX0_renewAll 4 = .ok (.ifCond .ne 5, 3) := by decide +kernel
theorem dX0_renewAll_7 : decode cX0_renewAll 7 = .ok (.iconst 0, 1) := by decide +kernel
theorem dX0_renewAll_8 : decode cX0_renewAll 8 = .ok (.ireturn, 1) := by decide +kernel
theorem dX0_renewAll_9 : decode cX0_renewAll 9 = .ok (.aload_n 0, 1) := by decide +kernel
theorem dX0_renewAll_10 : decode cX0_renewAll 10 = .ok (.aload_n 0, 1) := by decide +kernel
theorem dX0_renewAll_11 : decode cX0_renewAll 11 = .ok (.getfield 9, 3) := by decide +kernel
theorem dX0_renewAll_14 : decode cX0_renewAll 14 = .ok (.invokevirtual 52, 3) := by decide +kernel
theorem dX0_renewAll_17 : decode cX0_renewAll 17 = .ok (.aload_n 0, 1) := by decide +kernel
theorem dX0_renewAll_18 : decode cX0_renewAll 18 = .ok (.getfield 9, 3) := by decide +kernel
theorem dX0_renewAll_21 : decode cX0_renewAll 21 = .ok (.invokevirtual 52, 3) := by decide +kernel
theorem dX0_renewAll_24 : decode cX0_renewAll 24 = .ok (.invokevirtual 88, 3) := by decide +kernel
theorem dX0_renewAll_27 : decode cX0_renewAll 27 = .ok (.aload_n 0, 1) := by decide +kernel
theorem dX0_renewAll_28 : decode cX0_renewAll 28 = .ok (.invokevirtual 91, 3) := by decide +kernel
theorem dX0_renewAll_31 : decode cX0_renewAll 31 = .ok (.ireturn, 1) := by decide +kernel
theorem dX0_renewSteps_0 : decode cX0_renewSteps 0 = .ok (.iconst 0, 1) := by decide +kernel
theorem dX0_renewSteps_1 : decode cX0_renewSteps 1 = .ok (.istore 5, 2) := by decide +kernel
theorem dX0_renewSteps_3 : decode cX0_renewSteps 3 = .ok (.iload 5, 2) := by decide +kernel
theorem dX0_renewSteps_5 : decode cX0_renewSteps 5 = .ok (.aload_n 0, 1) := by decide +kernel
theorem dX0_renewSteps_6 : decode cX0_renewSteps 6 = .ok (.getfield 47, 3) := by decide +kernel
theorem dX0_renewSteps_9 : decode cX0_renewSteps 9 = .ok (.if_icmp .ge 35, 3) := by decide +kernel
theorem dX0_renewSteps_12 : decode cX0_renewSteps 12 = .ok (.lload_n 1, 1) := by decide +kernel
theorem dX0_renewSteps_13 : decode cX0_renewSteps 13 = .ok (.iload 5, 2) := by decide +kernel
theorem dX0_renewSteps_15 : decode cX0_renewSteps 15 = .ok (.invokestatic 104, 3) := by decide +kernel
theorem dX0_renewSteps_18 : decode cX0_renewSteps 18 = .ok (.ifCond .eq 20, 3) := by decide +kernel
theorem dX0_renewSteps_21 : decode cX0_renewSteps 21 = .ok (.aload_n 0, 1) := by decide +kernel
theorem dX0_renewSteps_22 : decode cX0_renewSteps 22 = .ok (.iload 5, 2) := by decide +kernel
theorem dX0_renewSteps_24 : decode cX0_renewSteps 24 = .ok (.aload_n 0, 1) := by decide +kernel
theorem dX0_renewSteps_25 : decode cX0_renewSteps 25 = .ok (.getfield 9, 3) := by decide +kernel
theorem dX0_renewSteps_28 : decode cX0_renewSteps 28 = .ok (.iload 5, 2) := by decide +kernel
theorem dX0_renewSteps_30 : decode cX0_renewSteps 30 = .ok (.invokevirtual 98, 3) := by decide +kernel
theorem dX0_renewSteps_33 : decode cX0_renewSteps 33 = .ok (.lload_n 3, 1) := by decide +kernel
theorem dX0_renewSteps_34 : decode cX0_renewSteps 34 = .ok (.land, 1) := by decide +kernel
theorem dX0_renewSteps_35 : decode cX0_renewSteps 35 = .ok (.invokevirtual 108, 3) := by decide +kernel
theorem dX0_renewSteps_38 : decode cX0_renewSteps 38 = .ok (.iinc 5 1, 3) := by decide +kernel
theorem dX0_renewSteps_41 : decode cX0_renewSteps 41 = .ok (.goto (-38), 3) := by decide +kernel
theorem dX0_renewSteps_44 : decode cX0_renewSteps 44 = .ok (.return_, 1) := by decide +kernel
theorem dX0_renewStepsFrom_0 : decode cX0_renewStepsFrom 0 = .ok (.iconst 0, 1) := by decide +kernel
theorem dX0_renewStepsFrom_1 : decode cX0_renewStepsFrom 1 = .ok (.istore 4, 2) := by decide +kernel
theorem dX0_renewStepsFrom_3 : decode cX0_renewStepsFrom 3 = .ok (.iload 4, 2) := by decide +kernel
theorem dX0_renewStepsFrom_5 : decode cX0_renewStepsFrom 5 = .ok (.aload_n 0, 1) := by decide +kernel
theorem dX0_renewStepsFrom_6 : decode cX0_renewStepsFrom 6 = .ok (.getfield 47, 3) := by decide +kernel
theorem dX0_renewStepsFrom_9 : decode cX0_renewStepsFrom 9 = .ok (.if_icmp .ge 66, 3) := by decide +kernel
theorem dX0_renewStepsFrom_12 : decode cX0_renewStepsFrom 12 = .ok (.lload_n 2, 1) := by decide +kernel
theorem dX0_renewStepsFrom_13 : decode cX0_renewStepsFrom 13 = .ok (.iload 4, 2) := by decide +kernel
theorem dX0_renewStepsFrom_15 : decode cX0_renewStepsFrom 15 = .ok (.invokestatic 104, 3) := by decide +kernel
theorem dX0_renewStepsFrom_18 : decode cX0_renewStepsFrom 18 = .ok (.ifCond .eq 51, 3) := by decide +kernel
theorem dX0_renewStepsFrom_21 : decode cX0_renewStepsFrom 21 = .ok (.aload_n 0, 1) := by decide +kernel
theorem dX0_renewStepsFrom_22 : decode cX0_renewStepsFrom 22 = .ok (.getfield 9, 3) := by decide +kernel
theorem dX0_renewStepsFrom_25 : decode cX0_renewStepsFrom 25 = .ok (.iload_n 1, 1) := by decide +kernel
theorem dX0_renewStepsFrom_26 : decode cX0_renewStepsFrom 26 = .ok (.iload 4, 2) := by decide +kernel
theorem dX0_renewStepsFrom_28 : decode cX0_renewStepsFrom 28 = .ok (.invokevirtual 112, 3) := by decide +kernel
theorem dX0_renewStepsFrom_31 : decode cX0_renewStepsFrom 31 = .ok (.istore 5, 2) := by decide +kernel
theorem dX0_renewStepsFrom_33 : decode cX0_renewStepsFrom 33 = .ok (.iload 5, 2) := by decide +kernel
theorem dX0_renewStepsFrom_35 : decode cX0_renewStepsFrom 35 = .ok (.aload_n 0, 1) := by decide +kernel
theorem dX0_renewStepsFrom_36 : decode cX0_renewStepsFrom 36 = .ok (.getfield 32, 3) := by decide +kernel
theorem dX0_renewStepsFrom_39 : decode cX0_renewStepsFrom 39 = .ok (.iload_n 1, 1) := by decide +kernel
theorem dX0_renewStepsFrom_40 : decode cX0_renewStepsFrom 40 = .ok (.iload 4, 2) := by decide +kernel
theorem dX0_renewStepsFrom_42 : decode cX0_renewStepsFrom 42 = .ok (.invokestatic 116, 3) := by decide +kernel
theorem dX0_renewStepsFrom_45 : decode cX0_renewStepsFrom 45 = .ok (.iaload, 1) := by decide +kernel
theorem dX0_renewStepsFrom_46 : decode cX0_renewStepsFrom 46 = .ok (.if_icmp .eq 23, 3) := by decide +kernel
theorem dX0_renewStepsFrom_49 : decode cX0_renewStepsFrom 49 = .ok (.aload_n 0, 1) := by decide +kernel
theorem dX0_renewStepsFrom_50 : decode cX0_renewStepsFrom 50 = .ok (.getfield 32, 3) := by decide +kernel
theorem dX0_renewStepsFrom_53 : decode cX0_renewStepsFrom 53 = .ok (.iload_n 1, 1) := by decide +kernel
theorem dX0_renewStepsFrom_54 : decode cX0_renewStepsFrom 54 = .ok (.iload 4, 2) := by decide +kernel
theorem dX0_renewStepsFrom_56 : decode cX0_renewStepsFrom 56 = .ok (.invokestatic 116, 3) := by decide +kernel
theorem dX0_renewStepsFrom_59 : decode cX0_renewStepsFrom 59 = .ok (.iload 5, 2) := by decide +kernel
theorem dX0_renewStepsFrom_61 : decode cX0_renewStepsFrom 61 = .ok (.iastore, 1) := by decide +kernel
theorem dX0_renewStepsFrom_62 : decode cX0_renewStepsFrom 62 = .ok (.aload_n 0, 1) := by decide +kernel
theorem dX0_renewStepsFrom_63 : decode cX0_renewStepsFrom 63 = .ok (.iload_n 1, 1) := by decide +kernel
theorem dX0_renewStepsFrom_64 : decode cX0_renewStepsFrom 64 = .ok (.iload 4, 2) := by decide +kernel
theorem dX0_renewStepsFrom_66 : decode cX0_renewStepsFrom 66 = .ok (.invokevirtual 119, 3) := by decide +kernel
theorem dX0_renewStepsFrom_69 : decode cX0_renewStepsFrom 69 = .ok (.iinc 4 1, 3) := by decide +kernel
theorem dX0_renewStepsFrom_72 : decode cX0_renewStepsFrom 72 = .ok (.goto (-69), 3) := by decide +kernel
theorem dX0_renewStepsFrom_75 : decode cX0_renewStepsFrom 75 = .ok (.return_, 1) := by decide +kernel
theorem dX0_markArc_0 : decode cX0_markArc 0 = .ok (.aload_n 0, 1) := by decide +kernel
theorem dX0_markArc_1 : decode cX0_markArc 1 = .ok (.getfield 15, 3) := by decide +kernel
theorem dX0_markArc_4 : decode cX0_markArc 4 = .ok (.iload_n 1, 1) := by decide +kernel
theorem dX0_markArc_5 : decode cX0_markArc 5 = .ok (.iaload, 1) := by decide +kernel
theorem dX0_markArc_6 : decode cX0_markArc 6 = .ok (.aload_n 0, 1) := by decide +kernel
theorem dX0_markArc_7 : decode cX0_markArc 7 = .ok (.getfield 15, 3) := by decide +kernel
theorem dX0_markArc_10 : decode cX0_markArc 10 = .ok (.iload_n 2, 1) := by decide +kernel
theorem dX0_markArc_11 : decode cX0_markArc 11 = .ok (.iaload, 1) := by decide +kernel
theorem dX0_markArc_12 : decode cX0_markArc 12 = .ok (.if_icmp .ge 19, 3) := by decide +kernel
theorem dX0_markArc_15 : decode cX0_markArc 15 = .ok (.aload_n 0, 1) := by decide +kernel
theorem dX0_markArc_16 : decode cX0_markArc 16 = .ok (.getfield 35, 3) := by decide +kernel
theorem dX0_markArc_19 : decode cX0_markArc 19 = .ok (.iload_n 1, 1) := by decide +kernel
theorem dX0_markArc_20 : decode cX0_markArc 20 = .ok (.dup2, 1) := by decide +kernel
theorem dX0_markArc_21 : decode cX0_markArc 21 = .ok (.laload, 1) := by decide +kernel
theorem dX0_markArc_22 : decode cX0_markArc 22 = .ok (.iload_n 2, 1) := by decide +kernel
theorem dX0_markArc_23 : decode cX0_markArc 23 = .ok (.invokestatic 60, 3) := by decide +kernel
theorem dX0_markArc_26 : decode cX0_markArc 26 = .ok (.lor, 1) := by decide +kernel
theorem dX0_markArc_27 : decode cX0_markArc 27 = .ok (.lastore, 1) := by decide +kernel
theorem dX0_markArc_28 : decode cX0_markArc 28 = .ok (.goto 16, 3) := by decide +kernel
theorem dX0_markArc_31 : decode cX0_markArc 31 = .ok (.aload_n 0, 1) := by decide +kernel
theorem dX0_markArc_32 : decode cX0_markArc 32 = .ok (.getfield 38, 3) := by decide +kernel
theorem dX0_markArc_35 : decode cX0_markArc 35 = .ok (.iload_n 2, 1) := by decide +kernel
theorem dX0_markArc_36 : decode cX0_markArc 36 = .ok (.dup2, 1) := by decide +kernel
theorem dX0_markArc_37 : decode cX0_markArc 37 = .ok (.laload, 1) := by decide +kernel
theorem dX0_markArc_38 : decode cX0_markArc 38 = .ok (.iload_n 1, 1) := by decide +kernel
theorem dX0_markArc_39 : decode cX0_markArc 39 = .ok (.invokestatic 60, 3) := by decide +kernel
theorem dX0_markArc_42 : decode cX0_markArc 42 = .ok (.lor, 1) := by decide +kernel
theorem dX0_markArc_43 : decode cX0_markArc 43 = .ok (.lastore, 1) := by decide +kernel
theorem dX0_markArc_44 : decode cX0_markArc 44 = .ok (.return_, 1) := by decide +kernel
theorem dX0_settle_0 : decode cX0_settle 0 = .ok (.iconst 0, 1) := by decide +kernel
theorem dX0_settle_1 : decode cX0_settle 1 = .ok (.istore_n 1, 1) := by decide +kernel
theorem dX0_settle_2 : decode cX0_settle 2 = .ok (.iconst 0, 1) := by decide +kernel
theorem dX0_settle_3 : decode cX0_settle 3 = .ok (.istore_n 2, 1) := by decide +kernel
theorem dX0_settle_4 : decode cX0_settle 4 = .ok (.iload_n 2, 1) := by decide +kernel
theorem dX0_settle_5 : decode cX0_settle 5 = .ok (.aload_n 0, 1) := by decide +kernel
theorem dX0_settle_6 : decode cX0_settle 6 = .ok (.getfield 47, 3) := by decide +kernel
theorem dX0_settle_9 : decode cX0_settle 9 = .ok (.if_icmp .ge 132, 3) := by decide +kernel
theorem dX0_settle_12 : decode cX0_settle 12 = .ok (.aload_n 0, 1) := by decide +kernel
theorem dX0_settle_13 : decode cX0_settle 13 = .ok (.getfield 19, 3) := by decide +kernel
theorem dX0_settle_16 : decode cX0_settle 16 = .ok (.iload_n 2, 1) := by decide +kernel
theorem dX0_settle_17 : decode cX0_settle 17 = .ok (.iaload, 1) := by decide +kernel
theorem dX0_settle_18 : decode cX0_settle 18 = .ok (.istore_n 3, 1) := by decide +kernel
theorem dX0_settle_19 : decode cX0_settle 19 = .ok (.aload_n 0, 1) := by decide +kernel
theorem dX0_settle_20 : decode cX0_settle 20 = .ok (.getfield 35, 3) := by decide +kernel
theorem dX0_settle_23 : decode cX0_settle 23 = .ok (.iload_n 3, 1) := by decide +kernel
theorem dX0_settle_24 : decode cX0_settle 24 = .ok (.laload, 1) := by decide +kernel
theorem dX0_settle_25 : decode cX0_settle 25 = .ok (.lconst 0, 1) := by decide +kernel
theorem dX0_settle_26 : decode cX0_settle 26 = .ok (.lcmp, 1) := by decide +kernel
theorem dX0_settle_27 : decode cX0_settle 27 = .ok (.ifCond .ne 17, 3) := by decide +kernel
theorem dX0_settle_30 : decode cX0_settle 30 = .ok (.aload_n 0, 1) := by decide +kernel
theorem dX0_settle_31 : decode cX0_settle 31 = .ok (.getfield 38, 3) := by decide +kernel
theorem dX0_settle_34 : decode cX0_settle 34 = .ok (.iload_n 3, 1) := by decide +kernel
theorem dX0_settle_35 : decode cX0_settle 35 = .ok (.laload, 1) := by decide +kernel
theorem dX0_settle_36 : decode cX0_settle 36 = .ok (.lconst 0, 1) := by decide +kernel
theorem dX0_settle_37 : decode cX0_settle 37 = .ok (.lcmp, 1) := by decide +kernel
theorem dX0_settle_38 : decode cX0_settle 38 = .ok (.ifCond .ne 6, 3) := by decide +kernel
theorem dX0_settle_41 : decode cX0_settle 41 = .ok (.goto 94, 3) := by decide +kernel
theorem dX0_settle_44 : decode cX0_settle 44 = .ok (.iload_n 2, 1) := by decide +kernel
theorem dX0_settle_45 : decode cX0_settle 45 = .ok (.iconst 1, 1) := by decide +kernel
theorem dX0_settle_46 : decode cX0_settle 46 = .ok (.iadd, 1) := by decide +kernel
theorem dX0_settle_47 : decode cX0_settle 47 = .ok (.istore 4, 2) := by decide +kernel
theorem dX0_settle_49 : decode cX0_settle 49 = .ok (.iload 4, 2) := by decide +kernel
theorem dX0_settle_51 : decode cX0_settle 51 = .ok (.aload_n 0, 1) := by decide +kernel
theorem dX0_settle_52 : decode cX0_settle 52 = .ok (.getfield 47, 3) := by decide +kernel
theorem dX0_settle_55 : decode cX0_settle 55 = .ok (.if_icmp .ge 66, 3) := by decide +kernel
theorem dX0_settle_58 : decode cX0_settle 58 = .ok (.aload_n 0, 1) := by decide +kernel
theorem dX0_settle_59 : decode cX0_settle 59 = .ok (.getfield 19, 3) := by decide +kernel
theorem dX0_settle_62 : decode cX0_settle 62 = .ok (.iload 4, 2) := by decide +kernel
theorem dX0_settle_64 : decode cX0_settle 64 = .ok (.iaload, 1) := by decide +kernel
theorem dX0_settle_65 : decode cX0_settle 65 = .ok (.istore 5, 2) := by decide +kernel
theorem dX0_settle_67 : decode cX0_settle 67 = .ok (.aload_n 0, 1) := by decide +kernel
theorem dX0_settle_68 : decode cX0_settle 68 = .ok (.getfield 35, 3) := by decide +kernel
theorem dX0_settle_71 : decode cX0_settle 71 = .ok (.iload_n 3, 1) := by decide +kernel
theorem dX0_settle_72 : decode cX0_settle 72 = .ok (.laload, 1) := by decide +kernel
theorem dX0_settle_73 : decode cX0_settle 73 = .ok (.iload 5, 2) := by decide +kernel
theorem dX0_settle_75 : decode cX0_settle 75 = .ok (.invokestatic 104, 3) := by decide +kernel
theorem dX0_settle_78 : decode cX0_settle 78 = .ok (.ifCond .eq 13, 3) := by decide +kernel
theorem dX0_settle_81 : decode cX0_settle 81 = .ok (.iload_n 1, 1) := by decide +kernel
theorem dX0_settle_82 : decode cX0_settle 82 = .ok (.aload_n 0, 1) := by decide +kernel
theorem dX0_settle_83 : decode cX0_settle 83 = .ok (.iload_n 3, 1) := by decide +kernel
theorem dX0_settle_84 : decode cX0_settle 84 = .ok (.iload 5, 2) := by decide +kernel
theorem dX0_settle_86 : decode cX0_settle 86 = .ok (.invokevirtual 123, 3) := by decide +kernel
theorem dX0_settle_89 : decode cX0_settle 89 = .ok (.iadd, 1) := by decide +kernel
theorem dX0_settle_90 : decode cX0_settle 90 = .ok (.istore_n 1, 1) := by decide +kernel
theorem dX0_settle_91 : decode cX0_settle 91 = .ok (.aload_n 0, 1) := by decide +kernel
theorem dX0_settle_92 : decode cX0_settle 92 = .ok (.getfield 38, 3) := by decide +kernel
theorem dX0_settle_95 : decode cX0_settle 95 = .ok (.iload_n 3, 1) := by decide +kernel
theorem dX0_settle_96 : decode cX0_settle 96 = .ok (.laload, 1) := by decide +kernel
theorem dX0_settle_97 : decode cX0_settle 97 = .ok (.iload 5, 2) := by decide +kernel
theorem dX0_settle_99 : decode cX0_settle 99 = .ok (.invokestatic 104, 3) := by decide +kernel
theorem dX0_settle_102 : decode cX0_settle 102 = .ok (.ifCond .eq 13, 3) := by decide +kernel
theorem dX0_settle_105 : decode cX0_settle 105 = .ok (.iload_n 1, 1) := by decide +kernel
theorem dX0_settle_106 : decode cX0_settle 106 = .ok (.aload_n 0, 1) := by decide +kernel
theorem dX0_settle_107 : decode cX0_settle 107 = .ok (.iload 5, 2) := by decide +kernel
theorem dX0_settle_109 : decode cX0_settle 109 = .ok (.iload_n 3, 1) := by decide +kernel
theorem dX0_settle_110 : decode cX0_settle 110 = .ok (.invokevirtual 123, 3) := by decide +kernel
theorem dX0_settle_113 : decode cX0_settle 113 = .ok (.iadd, 1) := by decide +kernel
theorem dX0_settle_114 : decode cX0_settle 114 = .ok (.istore_n 1, 1) := by decide +kernel
theorem dX0_settle_115 : decode cX0_settle 115 = .ok (.iinc 4 1, 3) := by decide +kernel
theorem dX0_settle_118 : decode cX0_settle 118 = .ok (.goto (-69), 3) := by decide +kernel
theorem dX0_settle_121 : decode cX0_settle 121 = .ok (.aload_n 0, 1) := by decide +kernel
theorem dX0_settle_122 : decode cX0_settle 122 = .ok (.getfield 35, 3) := by decide +kernel
theorem dX0_settle_125 : decode cX0_settle 125 = .ok (.iload_n 3, 1) := by decide +kernel
theorem dX0_settle_126 : decode cX0_settle 126 = .ok (.lconst 0, 1) := by decide +kernel
theorem dX0_settle_127 : decode cX0_settle 127 = .ok (.lastore, 1) := by decide +kernel
theorem dX0_settle_128 : decode cX0_settle 128 = .ok (.aload_n 0, 1) := by decide +kernel
theorem dX0_settle_129 : decode cX0_settle 129 = .ok (.getfield 38, 3) := by decide +kernel
theorem dX0_settle_132 : decode cX0_settle 132 = .ok (.iload_n 3, 1) := by decide +kernel
theorem dX0_settle_133 : decode cX0_settle 133 = .ok (.lconst 0, 1) := by decide +kernel
theorem dX0_settle_134 : decode cX0_settle 134 = .ok (.lastore, 1) := by decide +kernel
theorem dX0_settle_135 : decode cX0_settle 135 = .ok (.iinc 2 1, 3) := by decide +kernel
theorem dX0_settle_138 : decode cX0_settle 138 = .ok (.goto (-134), 3) := by decide +kernel
theorem dX0_settle_141 : decode cX0_settle 141 = .ok (.iload_n 1, 1) := by decide +kernel
theorem dX0_settle_142 : decode cX0_settle 142 = .ok (.ireturn, 1) := by decide +kernel
theorem dX0_settleArc_0 : decode cX0_settleArc 0 = .ok (.aload_n 0, 1) := by decide +kernel
theorem dX0_settleArc_1 : decode cX0_settleArc 1 = .ok (.getfield 29, 3) := by decide +kernel
theorem dX0_settleArc_4 : decode cX0_settleArc 4 = .ok (.iload_n 1, 1) := by decide +kernel
theorem dX0_settleArc_5 : decode cX0_settleArc 5 = .ok (.iload_n 2, 1) := by decide +kernel
theorem dX0_settleArc_6 : decode cX0_settleArc 6 = .ok (.invokestatic 116, 3) := by decide +kernel
theorem dX0_settleArc_9 : decode cX0_settleArc 9 = .ok (.iaload, 1) := by decide +kernel
theorem dX0_settleArc_10 : decode cX0_settleArc 10 = .ok (.istore_n 3, 1) := by decide +kernel
theorem dX0_settleArc_11 : decode cX0_settleArc 11 = .ok (.aload_n 0, 1) := by decide +kernel
theorem dX0_settleArc_12 : decode cX0_settleArc 12 = .ok (.iload_n 1, 1) := by decide +kernel
theorem dX0_settleArc_13 : decode cX0_settleArc 13 = .ok (.iload_n 2, 1) := by decide +kernel
theorem dX0_settleArc_14 : decode cX0_settleArc 14 = .ok (.invokevirtual 126, 3) := by decide +kernel
theorem dX0_settleArc_17 : decode cX0_settleArc 17 = .ok (.istore 4, 2) := by decide +kernel
theorem dX0_settleArc_19 : decode cX0_settleArc 19 = .ok (.iload 4, 2) := by decide +kernel
theorem dX0_settleArc_21 : decode cX0_settleArc 21 = .ok (.iload_n 3, 1) := by decide +kernel
theorem dX0_settleArc_22 : decode cX0_settleArc 22 = .ok (.if_icmp .eq 21, 3) := by decide +kernel
theorem dX0_settleArc_25 : decode cX0_settleArc 25 = .ok (.aload_n 0, 1) := by decide +kernel
theorem dX0_settleArc_26 : decode cX0_settleArc 26 = .ok (.getfield 29, 3) := by decide +kernel
theorem dX0_settleArc_29 : decode cX0_settleArc 29 = .ok (.iload_n 1, 1) := by decide +kernel
theorem dX0_settleArc_30 : decode cX0_settleArc 30 = .ok (.iload_n 2, 1) := by decide +kernel
theorem dX0_settleArc_31 : decode cX0_settleArc 31 = .ok (.invokestatic 116, 3) := by decide +kernel
theorem dX0_settleArc_34 : decode cX0_settleArc 34 = .ok (.iload 4, 2) := by decide +kernel
theorem dX0_settleArc_36 : decode cX0_settleArc 36 = .ok (.iastore, 1) := by decide +kernel
theorem dX0_settleArc_37 : decode cX0_settleArc 37 = .ok (.aload_n 0, 1) := by decide +kernel
theorem dX0_settleArc_38 : decode cX0_settleArc 38 = .ok (.iload_n 1, 1) := by decide +kernel
theorem dX0_settleArc_39 : decode cX0_settleArc 39 = .ok (.iload_n 2, 1) := by decide +kernel
theorem dX0_settleArc_40 : decode cX0_settleArc 40 = .ok (.invokevirtual 129, 3) := by decide +kernel
theorem dX0_settleArc_43 : decode cX0_settleArc 43 = .ok (.iload 4, 2) := by decide +kernel
theorem dX0_settleArc_45 : decode cX0_settleArc 45 = .ok (.invokestatic 132, 3) := by decide +kernel
theorem dX0_settleArc_48 : decode cX0_settleArc 48 = .ok (.iload_n 3, 1) := by decide +kernel
theorem dX0_settleArc_49 : decode cX0_settleArc 49 = .ok (.invokestatic 132, 3) := by decide +kernel
theorem dX0_settleArc_52 : decode cX0_settleArc 52 = .ok (.if_icmp .ne 7, 3) := by decide +kernel
theorem dX0_settleArc_55 : decode cX0_settleArc 55 = .ok (.iconst 0, 1) := by decide +kernel
theorem dX0_settleArc_56 : decode cX0_settleArc 56 = .ok (.goto 4, 3) := by decide +kernel
theorem dX0_settleArc_59 : decode cX0_settleArc 59 = .ok (.iconst 1, 1) := by decide +kernel
theorem dX0_settleArc_60 : decode cX0_settleArc 60 = .ok (.ireturn, 1) := by decide +kernel
theorem dX0_computeArc_0 : decode cX0_computeArc 0 = .ok (.aload_n 0, 1) := by decide +kernel
theorem dX0_computeArc_1 : decode cX0_computeArc 1 = .ok (.getfield 32, 3) := by decide +kernel
theorem dX0_computeArc_4 : decode cX0_computeArc 4 = .ok (.iload_n 1, 1) := by decide +kernel
theorem dX0_computeArc_5 : decode cX0_computeArc 5 = .ok (.iload_n 2, 1) := by decide +kernel
theorem dX0_computeArc_6 : decode cX0_computeArc 6 = .ok (.invokestatic 116, 3) := by decide +kernel
theorem dX0_computeArc_9 : decode cX0_computeArc 9 = .ok (.iaload, 1) := by decide +kernel
theorem dX0_computeArc_10 : decode cX0_computeArc 10 = .ok (.istore_n 3, 1) := by decide +kernel
theorem dX0_computeArc_11 : decode cX0_computeArc 11 = .ok (.aload_n 0, 1) := by decide +kernel
theorem dX0_computeArc_12 : decode cX0_computeArc 12 = .ok (.getfield 22, 3) := by decide +kernel
theorem dX0_computeArc_15 : decode cX0_computeArc 15 = .ok (.iload_n 1, 1) := by decide +kernel
theorem dX0_computeArc_16 : decode cX0_computeArc 16 = .ok (.laload, 1) := by decide +kernel
theorem dX0_computeArc_17 : decode cX0_computeArc 17 = .ok (.aload_n 0, 1) := by decide +kernel
theorem dX0_computeArc_18 : decode cX0_computeArc 18 = .ok (.getfield 26, 3) := by decide +kernel
theorem dX0_computeArc_21 : decode cX0_computeArc 21 = .ok (.iload_n 2, 1) := by decide +kernel
theorem dX0_computeArc_22 : decode cX0_computeArc 22 = .ok (.laload, 1) := by decide +kernel
theorem dX0_computeArc_23 : decode cX0_computeArc 23 = .ok (.land, 1) := by decide +kernel
theorem dX0_computeArc_24 : decode cX0_computeArc 24 = .ok (.lstore 4, 2) := by decide +kernel
theorem dX0_computeArc_26 : decode cX0_computeArc 26 = .ok (.aload_n 0, 1) := by decide +kernel
theorem dX0_computeArc_27 : decode cX0_computeArc 27 = .ok (.getfield 15, 3) := by decide +kernel
theorem dX0_computeArc_30 : decode cX0_computeArc 30 = .ok (.iload_n 1, 1) := by decide +kernel
theorem dX0_computeArc_31 : decode cX0_computeArc 31 = .ok (.iaload, 1) := by decide +kernel
theorem dX0_computeArc_32 : decode cX0_computeArc 32 = .ok (.aload_n 0, 1) := by decide +kernel
theorem dX0_computeArc_33 : decode cX0_computeArc 33 = .ok (.getfield 15, 3) := by decide +kernel
theorem dX0_computeArc_36 : decode cX0_computeArc 36 = .ok (.iload_n 2, 1) := by decide +kernel
theorem dX0_computeArc_37 : decode cX0_computeArc 37 = .ok (.iaload, 1) := by decide +kernel
theorem dX0_computeArc_38 : decode cX0_computeArc 38 = .ok (.invokestatic 136, 3) := by decide +kernel
theorem dX0_computeArc_41 : decode cX0_computeArc 41 = .ok (.istore 6, 2) := by decide +kernel
theorem dX0_computeArc_43 : decode cX0_computeArc 43 = .ok (.iconst 0, 1) := by decide +kernel
theorem dX0_computeArc_44 : decode cX0_computeArc 44 = .ok (.istore 7, 2) := by decide +kernel
theorem dX0_computeArc_46 : decode cX0_computeArc 46 = .ok (.iload 7, 2) := by decide +kernel
theorem dX0_computeArc_48 : decode cX0_computeArc 48 = .ok (.iload 6, 2) := by decide +kernel
theorem dX0_computeArc_50 : decode cX0_computeArc 50 = .ok (.if_icmp .ge 60, 3) := by decide +kernel
theorem dX0_computeArc_53 : decode cX0_computeArc 53 = .ok (.aload_n 0, 1) := by decide +kernel
theorem dX0_computeArc_54 : decode cX0_computeArc 54 = .ok (.getfield 19, 3) := by decide +kernel
theorem dX0_computeArc_57 : decode cX0_computeArc 57 = .ok (.iload 7, 2) := by decide +kernel
theorem dX0_computeArc_59 : decode cX0_computeArc 59 = .ok (.iaload, 1) := by decide +kernel
theorem dX0_computeArc_60 : decode cX0_computeArc 60 = .ok (.istore 8, 2) := by decide +kernel
theorem dX0_computeArc_62 : decode cX0_computeArc 62 = .ok (.lload 4, 2) := by decide +kernel
theorem dX0_computeArc_64 : decode cX0_computeArc 64 = .ok (.iload 8, 2) := by decide +kernel
theorem dX0_computeArc_66 : decode cX0_computeArc 66 = .ok (.invokestatic 104, 3) := by decide +kernel
theorem dX0_computeArc_69 : decode cX0_computeArc 69 = .ok (.ifCond .eq 35, 3) := by decide +kernel
theorem dX0_computeArc_72 : decode cX0_computeArc 72 = .ok (.aload_n 0, 1) := by decide +kernel
theorem dX0_computeArc_73 : decode cX0_computeArc 73 = .ok (.getfield 29, 3) := by decide +kernel
theorem dX0_computeArc_76 : decode cX0_computeArc 76 = .ok (.iload_n 1, 1) := by decide +kernel
theorem dX0_computeArc_77 : decode cX0_computeArc 77 = .ok (.iload 8, 2) := by decide +kernel
theorem dX0_computeArc_79 : decode cX0_computeArc 79 = .ok (.invokestatic 116, 3) := by decide +kernel
theorem dX0_computeArc_82 : decode cX0_computeArc 82 = .ok (.iaload, 1) := by decide +kernel
theorem dX0_computeArc_83 : decode cX0_computeArc 83 = .ok (.aload_n 0, 1) := by decide +kernel
theorem dX0_computeArc_84 : decode cX0_computeArc 84 = .ok (.getfield 29, 3) := by decide +kernel
theorem dX0_computeArc_87 : decode cX0_computeArc 87 = .ok (.iload 8, 2) := by decide +kernel
theorem dX0_computeArc_89 : decode cX0_computeArc 89 = .ok (.iload_n 2, 1) := by decide +kernel
theorem dX0_computeArc_90 : decode cX0_computeArc 90 = .ok (.invokestatic 116, 3) := by decide +kernel
theorem dX0_computeArc_93 : decode cX0_computeArc 93 = .ok (.iaload, 1) := by decide +kernel
theorem dX0_computeArc_94 : decode cX0_computeArc 94 = .ok (.iadd, 1) := by decide +kernel
theorem dX0_computeArc_95 : decode cX0_computeArc 95 = .ok (.istore 9, 2) := by decide +kernel
theorem dX0_computeArc_97 : decode cX0_computeArc 97 = .ok (.iload_n 3, 1) := by decide +kernel
theorem dX0_computeArc_98 : decode cX0_computeArc 98 = .ok (.iload 9, 2) := by decide +kernel
theorem dX0_computeArc_100 : decode cX0_computeArc 100 = .ok (.invokestatic 136, 3) := by decide +kernel
theorem dX0_computeArc_103 : decode cX0_computeArc 103 = .ok (.istore_n 3, 1) := by decide +kernel
theorem dX0_computeArc_104 : decode cX0_computeArc 104 = .ok (.iinc 7 1, 3) := by decide +kernel
theorem dX0_computeArc_107 : decode cX0_computeArc 107 = .ok (.goto (-61), 3) := by decide +kernel
theorem dX0_computeArc_110 : decode cX0_computeArc 110 = .ok (.iload_n 3, 1) := by decide +kernel
theorem dX0_computeArc_111 : decode cX0_computeArc 111 = .ok (.ireturn, 1) := by decide +kernel
theorem dX0_markAbove_0 : decode cX0_markAbove 0 = .ok (.aload_n 0, 1) := by decide +kernel
theorem dX0_markAbove_1 : decode cX0_markAbove 1 = .ok (.getfield 15, 3) := by decide +kernel
theorem dX0_markAbove_4 : decode cX0_markAbove 4 = .ok (.iload_n 1, 1) := by decide +kernel
theorem dX0_markAbove_5 : decode cX0_markAbove 5 = .ok (.iaload, 1) := by decide +kernel
theorem dX0_markAbove_6 : decode cX0_markAbove 6 = .ok (.aload_n 0, 1) := by decide +kernel
theorem dX0_markAbove_7 : decode cX0_markAbove 7 = .ok (.getfield 15, 3) := by decide +kernel
theorem dX0_markAbove_10 : decode cX0_markAbove 10 = .ok (.iload_n 2, 1) := by decide +kernel
theorem dX0_markAbove_11 : decode cX0_markAbove 11 = .ok (.iaload, 1) := by decide +kernel
theorem dX0_markAbove_12 : decode cX0_markAbove 12 = .ok (.if_icmp .ge 64, 3) := by decide +kernel
theorem dX0_markAbove_15 : decode cX0_markAbove 15 = .ok (.aload_n 0, 1) := by decide +kernel
theorem dX0_markAbove_16 : decode cX0_markAbove 16 = .ok (.getfield 15, 3) := by decide +kernel
theorem dX0_markAbove_19 : decode cX0_markAbove 19 = .ok (.iload_n 1, 1) := by decide +kernel
theorem dX0_markAbove_20 : decode cX0_markAbove 20 = .ok (.iaload, 1) := by decide +kernel
theorem dX0_markAbove_21 : decode cX0_markAbove 21 = .ok (.iconst 1, 1) := by decide +kernel
theorem dX0_markAbove_22 : decode cX0_markAbove 22 = .ok (.iadd, 1) := by decide +kernel
theorem dX0_markAbove_23 : decode cX0_markAbove 23 = .ok (.istore_n 3, 1) := by decide +kernel
theorem dX0_markAbove_24 : decode cX0_markAbove 24 = .ok (.iload_n 3, 1) := by decide +kernel
theorem dX0_markAbove_25 : decode cX0_markAbove 25 = .ok (.aload_n 0, 1) := by decide +kernel
theorem dX0_markAbove_26 : decode cX0_markAbove 26 = .ok (.getfield 47, 3) := by decide +kernel
theorem dX0_markAbove_29 : decode cX0_markAbove 29 = .ok (.if_icmp .ge 44, 3) := by decide +kernel
theorem dX0_markAbove_32 : decode cX0_markAbove 32 = .ok (.aload_n 0, 1) := by decide +kernel
theorem dX0_markAbove_33 : decode cX0_markAbove 33 = .ok (.getfield 19, 3) := by decide +kernel
theorem dX0_markAbove_36 : decode cX0_markAbove 36 = .ok (.iload_n 3, 1) := by decide +kernel
theorem dX0_markAbove_37 : decode cX0_markAbove 37 = .ok (.iaload, 1) := by decide +kernel
theorem dX0_markAbove_38 : decode cX0_markAbove 38 = .ok (.istore 4, 2) := by decide +kernel
theorem dX0_markAbove_40 : decode cX0_markAbove 40 = .ok (.iload 4, 2) := by decide +kernel
theorem dX0_markAbove_42 : decode cX0_markAbove 42 = .ok (.iload_n 2, 1) := by decide +kernel
theorem dX0_markAbove_43 : decode cX0_markAbove 43 = .ok (.if_icmp .eq 24, 3) := by decide +kernel
theorem dX0_markAbove_46 : decode cX0_markAbove 46 = .ok (.aload_n 0, 1) := by decide +kernel
theorem dX0_markAbove_47 : decode cX0_markAbove 47 = .ok (.getfield 26, 3) := by decide +kernel
theorem dX0_markAbove_50 : decode cX0_markAbove 50 = .ok (.iload_n 1, 1) := by decide +kernel
theorem dX0_markAbove_51 : decode cX0_markAbove 51 = .ok (.laload, 1) := by decide +kernel
theorem dX0_markAbove_52 : decode cX0_markAbove 52 = .ok (.iload 4, 2) := by decide +kernel
theorem dX0_markAbove_54 : decode cX0_markAbove 54 = .ok (.invokestatic 104, 3) := by decide +kernel
theorem dX0_markAbove_57 : decode cX0_markAbove 57 = .ok (.ifCond .eq 10, 3) := by decide +kernel
theorem dX0_markAbove_60 : decode cX0_markAbove 60 = .ok (.aload_n 0, 1) := by decide +kernel
theorem dX0_markAbove_61 : decode cX0_markAbove 61 = .ok (.iload 4, 2) := by decide +kernel
theorem dX0_markAbove_63 : decode cX0_markAbove 63 = .ok (.iload_n 2, 1) := by decide +kernel
theorem dX0_markAbove_64 : decode cX0_markAbove 64 = .ok (.invokevirtual 119, 3) := by decide +kernel
theorem dX0_markAbove_67 : decode cX0_markAbove 67 = .ok (.iinc 3 1, 3) := by decide +kernel
theorem dX0_markAbove_70 : decode cX0_markAbove 70 = .ok (.goto (-46), 3) := by decide +kernel
theorem dX0_markAbove_73 : decode cX0_markAbove 73 = .ok (.goto 61, 3) := by decide +kernel
theorem dX0_markAbove_76 : decode cX0_markAbove 76 = .ok (.aload_n 0, 1) := by decide +kernel
theorem dX0_markAbove_77 : decode cX0_markAbove 77 = .ok (.getfield 15, 3) := by decide +kernel
theorem dX0_markAbove_80 : decode cX0_markAbove 80 = .ok (.iload_n 2, 1) := by decide +kernel
theorem dX0_markAbove_81 : decode cX0_markAbove 81 = .ok (.iaload, 1) := by decide +kernel
theorem dX0_markAbove_82 : decode cX0_markAbove 82 = .ok (.iconst 1, 1) := by decide +kernel
theorem dX0_markAbove_83 : decode cX0_markAbove 83 = .ok (.iadd, 1) := by decide +kernel
theorem dX0_markAbove_84 : decode cX0_markAbove 84 = .ok (.istore_n 3, 1) := by decide +kernel
theorem dX0_markAbove_85 : decode cX0_markAbove 85 = .ok (.iload_n 3, 1) := by decide +kernel
theorem dX0_markAbove_86 : decode cX0_markAbove 86 = .ok (.aload_n 0, 1) := by decide +kernel
theorem dX0_markAbove_87 : decode cX0_markAbove 87 = .ok (.getfield 47, 3) := by decide +kernel
theorem dX0_markAbove_90 : decode cX0_markAbove 90 = .ok (.if_icmp .ge 44, 3) := by decide +kernel
theorem dX0_markAbove_93 : decode cX0_markAbove 93 = .ok (.aload_n 0, 1) := by decide +kernel
theorem dX0_markAbove_94 : decode cX0_markAbove 94 = .ok (.getfield 19, 3) := by decide +kernel
theorem dX0_markAbove_97 : decode cX0_markAbove 97 = .ok (.iload_n 3, 1) := by decide +kernel
theorem dX0_markAbove_98 : decode cX0_markAbove 98 = .ok (.iaload, 1) := by decide +kernel
theorem dX0_markAbove_99 : decode cX0_markAbove 99 = .ok (.istore 4, 2) := by decide +kernel
theorem dX0_markAbove_101 : decode cX0_markAbove 101 = .ok (.iload 4, 2) := by decide +kernel
theorem dX0_markAbove_103 : decode cX0_markAbove 103 = .ok (.iload_n 1, 1) := by decide +kernel
theorem dX0_markAbove_104 : decode cX0_markAbove 104 = .ok (.if_icmp .eq 24, 3) := by decide +kernel
theorem dX0_markAbove_107 : decode cX0_markAbove 107 = .ok (.aload_n 0, 1) := by decide +kernel
theorem dX0_markAbove_108 : decode cX0_markAbove 108 = .ok (.getfield 22, 3) := by decide +kernel
theorem dX0_markAbove_111 : decode cX0_markAbove 111 = .ok (.iload_n 2, 1) := by decide +kernel
theorem dX0_markAbove_112 : decode cX0_markAbove 112 = .ok (.laload, 1) := by decide +kernel
theorem dX0_markAbove_113 : decode cX0_markAbove 113 = .ok (.iload 4, 2) := by decide +kernel
theorem dX0_markAbove_115 : decode cX0_markAbove 115 = .ok (.invokestatic 104, 3) := by decide +kernel
theorem dX0_markAbove_118 : decode cX0_markAbove 118 = .ok (.ifCond .eq 10, 3) := by decide +kernel
theorem dX0_markAbove_121 : decode cX0_markAbove 121 = .ok (.aload_n 0, 1) := by decide +kernel
theorem dX0_markAbove_122 : decode cX0_markAbove 122 = .ok (.iload_n 1, 1) := by decide +kernel
theorem dX0_markAbove_123 : decode cX0_markAbove 123 = .ok (.iload 4, 2) := by decide +kernel
theorem dX0_markAbove_125 : decode cX0_markAbove 125 = .ok (.invokevirtual 119, 3) := by decide +kernel
theorem dX0_markAbove_128 : decode cX0_markAbove 128 = .ok (.iinc 3 1, 3) := by decide +kernel
theorem dX0_markAbove_131 : decode cX0_markAbove 131 = .ok (.goto (-46), 3) := by decide +kernel
theorem dX0_markAbove_134 : decode cX0_markAbove 134 = .ok (.return_, 1) := by decide +kernel
theorem dX0_spreadForward_0 : decode cX0_spreadForward 0 = .ok (.iconst 0, 1) := by decide +kernel
theorem dX0_spreadForward_1 : decode cX0_spreadForward 1 = .ok (.istore_n 2, 1) := by decide +kernel
theorem dX0_spreadForward_2 : decode cX0_spreadForward 2 = .ok (.iload_n 2, 1) := by decide +kernel
theorem dX0_spreadForward_3 : decode cX0_spreadForward 3 = .ok (.aload_n 0, 1) := by decide +kernel
theorem dX0_spreadForward_4 : decode cX0_spreadForward 4 = .ok (.getfield 47, 3) := by decide +kernel
theorem dX0_spreadForward_7 : decode cX0_spreadForward 7 = .ok (.if_icmp .ge 27, 3) := by decide +kernel
theorem dX0_spreadForward_10 : decode cX0_spreadForward 10 = .ok (.aload_n 0, 1) := by decide +kernel
theorem dX0_spreadForward_11 : decode cX0_spreadForward 11 = .ok (.aload_n 1, 1) := by decide +kernel
theorem dX0_spreadForward_12 : decode cX0_spreadForward 12 = .ok (.aload_n 0, 1) := by decide +kernel
theorem dX0_spreadForward_13 : decode cX0_spreadForward 13 = .ok (.getfield 19, 3) := by decide +kernel
theorem dX0_spreadForward_16 : decode cX0_spreadForward 16 = .ok (.iload_n 2, 1) := by decide +kernel
theorem dX0_spreadForward_17 : decode cX0_spreadForward 17 = .ok (.iaload, 1) := by decide +kernel
theorem dX0_spreadForward_18 : decode cX0_spreadForward 18 = .ok (.iload_n 2, 1) := by decide +kernel
theorem dX0_spreadForward_19 : decode cX0_spreadForward 19 = .ok (.iconst 1, 1) := by decide +kernel
theorem dX0_spreadForward_20 : decode cX0_spreadForward 20 = .ok (.iadd, 1) := by decide +kernel
theorem dX0_spreadForward_21 : decode cX0_spreadForward 21 = .ok (.aload_n 0, 1) := by decide +kernel
theorem dX0_spreadForward_22 : decode cX0_spreadForward 22 = .ok (.getfield 47, 3) := by decide +kernel
theorem dX0_spreadForward_25 : decode cX0_spreadForward 25 = .ok (.invokevirtual 141, 3) := by decide +kernel
theorem dX0_spreadForward_28 : decode cX0_spreadForward 28 = .ok (.iinc 2 1, 3) := by decide +kernel
theorem dX0_spreadForward_31 : decode cX0_spreadForward 31 = .ok (.goto (-29), 3) := by decide +kernel
theorem dX0_spreadForward_34 : decode cX0_spreadForward 34 = .ok (.aload_n 0, 1) := by decide +kernel
theorem dX0_spreadForward_35 : decode cX0_spreadForward 35 = .ok (.getfield 47, 3) := by decide +kernel
theorem dX0_spreadForward_38 : decode cX0_spreadForward 38 = .ok (.iconst 1, 1) := by decide +kernel
theorem dX0_spreadForward_39 : decode cX0_spreadForward 39 = .ok (.isub, 1) := by decide +kernel
theorem dX0_spreadForward_40 : decode cX0_spreadForward 40 = .ok (.istore_n 2, 1) := by decide +kernel
theorem dX0_spreadForward_41 : decode cX0_spreadForward 41 = .ok (.iload_n 2, 1) := by decide +kernel
theorem dX0_spreadForward_42 : decode cX0_spreadForward 42 = .ok (.ifCond .lt 22, 3) := by decide +kernel
theorem dX0_spreadForward_45 : decode cX0_spreadForward 45 = .ok (.aload_n 0, 1) := by decide +kernel
theorem dX0_spreadForward_46 : decode cX0_spreadForward 46 = .ok (.aload_n 1, 1) := by decide +kernel
theorem dX0_spreadForward_47 : decode cX0_spreadForward 47 = .ok (.aload_n 0, 1) := by decide +kernel
theorem dX0_spreadForward_48 : decode cX0_spreadForward 48 = .ok (.getfield 19, 3) := by decide +kernel
theorem dX0_spreadForward_51 : decode cX0_spreadForward 51 = .ok (.iload_n 2, 1) := by decide +kernel
theorem dX0_spreadForward_52 : decode cX0_spreadForward 52 = .ok (.iaload, 1) := by decide +kernel
theorem dX0_spreadForward_53 : decode cX0_spreadForward 53 = .ok (.iconst 0, 1) := by decide +kernel
theorem dX0_spreadForward_54 : decode cX0_spreadForward 54 = .ok (.iload_n 2, 1) := by decide +kernel
theorem dX0_spreadForward_55 : decode cX0_spreadForward 55 = .ok (.invokevirtual 141, 3) := by decide +kernel
theorem dX0_spreadForward_58 : decode cX0_spreadForward 58 = .ok (.iinc 2 (-1), 3) := by decide +kernel
theorem dX0_spreadForward_61 : decode cX0_spreadForward 61 = .ok (.goto (-20), 3) := by decide +kernel
theorem dX0_spreadForward_64 : decode cX0_spreadForward 64 = .ok (.return_, 1) := by decide +kernel
theorem dX0_passOn_0 : decode cX0_passOn 0 = .ok (.aload_n 1, 1) := by decide +kernel
theorem dX0_passOn_1 : decode cX0_passOn 1 = .ok (.iload_n 2, 1) := by decide +kernel
theorem dX0_passOn_2 : decode cX0_passOn 2 = .ok (.iaload, 1) := by decide +kernel
theorem dX0_passOn_3 : decode cX0_passOn 3 = .ok (.ldc 81, 2) := by decide +kernel
theorem dX0_passOn_5 : decode cX0_passOn 5 = .ok (.if_icmp .lt 4, 3) := by decide +kernel
theorem dX0_passOn_8 : decode cX0_passOn 8 = .ok (.return_, 1) := by decide +kernel
theorem dX0_passOn_9 : decode cX0_passOn 9 = .ok (.iload_n 3, 1) := by decide +kernel
theorem dX0_passOn_10 : decode cX0_passOn 10 = .ok (.istore 5, 2) := by decide +kernel
theorem dX0_passOn_12 : decode cX0_passOn 12 = .ok (.iload 5, 2) := by decide +kernel
theorem dX0_passOn_14 : decode cX0_passOn 14 = .ok (.iload 4, 2) := by decide +kernel
theorem dX0_passOn_16 : decode cX0_passOn 16 = .ok (.if_icmp .ge 58, 3) := by decide +kernel
theorem dX0_passOn_19 : decode cX0_passOn 19 = .ok (.aload_n 0, 1) := by decide +kernel
theorem dX0_passOn_20 : decode cX0_passOn 20 = .ok (.getfield 19, 3) := by decide +kernel
theorem dX0_passOn_23 : decode cX0_passOn 23 = .ok (.iload 5, 2) := by decide +kernel
theorem dX0_passOn_25 : decode cX0_passOn 25 = .ok (.iaload, 1) := by decide +kernel
theorem dX0_passOn_26 : decode cX0_passOn 26 = .ok (.istore 6, 2) := by decide +kernel
theorem dX0_passOn_28 : decode cX0_passOn 28 = .ok (.aload_n 0, 1) := by decide +kernel
theorem dX0_passOn_29 : decode cX0_passOn 29 = .ok (.getfield 22, 3) := by decide +kernel
theorem dX0_passOn_32 : decode cX0_passOn 32 = .ok (.iload_n 2, 1) := by decide +kernel
theorem dX0_passOn_33 : decode cX0_passOn 33 = .ok (.laload, 1) := by decide +kernel
theorem dX0_passOn_34 : decode cX0_passOn 34 = .ok (.iload 6, 2) := by decide +kernel
theorem dX0_passOn_36 : decode cX0_passOn 36 = .ok (.invokestatic 104, 3) := by decide +kernel
theorem dX0_passOn_39 : decode cX0_passOn 39 = .ok (.ifCond .eq 29, 3) := by decide +kernel
theorem dX0_passOn_42 : decode cX0_passOn 42 = .ok (.aload_n 1, 1) := by decide +kernel
theorem dX0_passOn_43 : decode cX0_passOn 43 = .ok (.iload 6, 2) := by decide +kernel
theorem dX0_passOn_45 : decode cX0_passOn 45 = .ok (.aload_n 1, 1) := by decide +kernel
theorem dX0_passOn_46 : decode cX0_passOn 46 = .ok (.iload 6, 2) := by decide +kernel
theorem dX0_passOn_48 : decode cX0_passOn 48 = .ok (.iaload, 1) := by decide +kernel
theorem dX0_passOn_49 : decode cX0_passOn 49 = .ok (.aload_n 1, 1) := by decide +kernel
theorem dX0_passOn_50 : decode cX0_passOn 50 = .ok (.iload_n 2, 1) := by decide +kernel
theorem dX0_passOn_51 : decode cX0_passOn 51 = .ok (.iaload, 1) := by decide +kernel
theorem dX0_passOn_52 : decode cX0_passOn 52 = .ok (.aload_n 0, 1) := by decide +kernel
theorem dX0_passOn_53 : decode cX0_passOn 53 = .ok (.getfield 29, 3) := by decide +kernel
theorem dX0_passOn_56 : decode cX0_passOn 56 = .ok (.iload_n 2, 1) := by decide +kernel
theorem dX0_passOn_57 : decode cX0_passOn 57 = .ok (.iload 6, 2) := by decide +kernel
theorem dX0_passOn_59 : decode cX0_passOn 59 = .ok (.invokestatic 116, 3) := by decide +kernel
theorem dX0_passOn_62 : decode cX0_passOn 62 = .ok (.iaload, 1) := by decide +kernel
theorem dX0_passOn_63 : decode cX0_passOn 63 = .ok (.iadd, 1) := by decide +kernel
theorem dX0_passOn_64 : decode cX0_passOn 64 = .ok (.invokestatic 136, 3) := by decide +kernel
theorem dX0_passOn_67 : decode cX0_passOn 67 = .ok (.iastore, 1) := by decide +kernel
theorem dX0_passOn_68 : decode cX0_passOn 68 = .ok (.iinc 5 1, 3) := by decide +kernel
theorem dX0_passOn_71 : decode cX0_passOn 71 = .ok (.goto (-59), 3) := by decide +kernel
theorem dX0_passOn_74 : decode cX0_passOn 74 = .ok (.return_, 1) := by decide +kernel
theorem dX1_init_0 : decode cX1_init 0 = .ok (.aload_n 0, 1) := by decide +kernel
theorem dX1_init_1 : decode cX1_init 1 = .ok (.invokespecial 3, 3) := by decide +kernel
theorem dX1_init_4 : decode cX1_init 4 = .ok (.aload_n 0, 1) := by decide +kernel
theorem dX1_init_5 : decode cX1_init 5 = .ok (.bipush 8, 2) := by decide +kernel
theorem dX1_init_7 : decode cX1_init 7 = .ok (.newarray .int, 2) := by decide +kernel
theorem dX1_init_9 : decode cX1_init 9 = .ok (.putfield 9, 3) := by decide +kernel
theorem dX1_init_12 : decode cX1_init 12 = .ok (.aload_n 0, 1) := by decide +kernel
theorem dX1_init_13 : decode cX1_init 13 = .ok (.sipush 512, 3) := by decide +kernel
theorem dX1_init_16 : decode cX1_init 16 = .ok (.newarray .int, 2) := by decide +kernel
theorem dX1_init_18 : decode cX1_init 18 = .ok (.putfield 15, 3) := by decide +kernel
theorem dX1_init_21 : decode cX1_init 21 = .ok (.aload_n 0, 1) := by decide +kernel
theorem dX1_init_22 : decode cX1_init 22 = .ok (.ldc 18, 2) := by decide +kernel
theorem dX1_init_24 : decode cX1_init 24 = .ok (.newarray .int, 2) := by decide +kernel
theorem dX1_init_26 : decode cX1_init 26 = .ok (.putfield 19, 3) := by decide +kernel
theorem dX1_init_29 : decode cX1_init 29 = .ok (.aload_n 0, 1) := by decide +kernel
theorem dX1_init_30 : decode cX1_init 30 = .ok (.bipush 8, 2) := by decide +kernel
theorem dX1_init_32 : decode cX1_init 32 = .ok (.newarray .long, 2) := by decide +kernel
theorem dX1_init_34 : decode cX1_init 34 = .ok (.putfield 22, 3) := by decide +kernel
theorem dX1_init_37 : decode cX1_init 37 = .ok (.aload_n 0, 1) := by decide +kernel
theorem dX1_init_38 : decode cX1_init 38 = .ok (.bipush 8, 2) := by decide +kernel
theorem dX1_init_40 : decode cX1_init 40 = .ok (.newarray .int, 2) := by decide +kernel
theorem dX1_init_42 : decode cX1_init 42 = .ok (.putfield 26, 3) := by decide +kernel
theorem dX1_init_45 : decode cX1_init 45 = .ok (.return_, 1) := by decide +kernel
theorem dX2_init_0 : decode cX2_init 0 = .ok (.aload_n 0, 1) := by decide +kernel
theorem dX2_init_1 : decode cX2_init 1 = .ok (.invokespecial 3, 3) := by decide +kernel
theorem dX2_init_4 : decode cX2_init 4 = .ok (.aload_n 0, 1) := by decide +kernel
theorem dX2_init_5 : decode cX2_init 5 = .ok (.bipush 64, 2) := by decide +kernel
theorem dX2_init_7 : decode cX2_init 7 = .ok (.newarray .int, 2) := by decide +kernel
theorem dX2_init_9 : decode cX2_init 9 = .ok (.putfield 9, 3) := by decide +kernel
theorem dX2_init_12 : decode cX2_init 12 = .ok (.aload_n 0, 1) := by decide +kernel
theorem dX2_init_13 : decode cX2_init 13 = .ok (.bipush 64, 2) := by decide +kernel
theorem dX2_init_15 : decode cX2_init 15 = .ok (.newarray .int, 2) := by decide +kernel
theorem dX2_init_17 : decode cX2_init 17 = .ok (.putfield 15, 3) := by decide +kernel
theorem dX2_init_20 : decode cX2_init 20 = .ok (.aload_n 0, 1) := by decide +kernel
theorem dX2_init_21 : decode cX2_init 21 = .ok (.bipush 64, 2) := by decide +kernel
theorem dX2_init_23 : decode cX2_init 23 = .ok (.newarray .int, 2) := by decide +kernel
theorem dX2_init_25 : decode cX2_init 25 = .ok (.putfield 18, 3) := by decide +kernel
theorem dX2_init_28 : decode cX2_init 28 = .ok (.aload_n 0, 1) := by decide +kernel
theorem dX2_init_29 : decode cX2_init 29 = .ok (.sipush 4096, 3) := by decide +kernel
theorem dX2_init_32 : decode cX2_init 32 = .ok (.newarray .int, 2) := by decide +kernel
theorem dX2_init_34 : decode cX2_init 34 = .ok (.putfield 21, 3) := by decide +kernel
theorem dX2_init_37 : decode cX2_init 37 = .ok (.aload_n 0, 1) := by decide +kernel
theorem dX2_init_38 : decode cX2_init 38 = .ok (.getfield 21, 3) := by decide +kernel
theorem dX2_init_41 : decode cX2_init 41 = .ok (.bipush (-2), 2) := by decide +kernel
theorem dX2_init_43 : decode cX2_init 43 = .ok (.invokestatic 24, 3) := by decide +kernel
theorem dX2_init_46 : decode cX2_init 46 = .ok (.aload_n 0, 1) := by decide +kernel
theorem dX2_init_47 : decode cX2_init 47 = .ok (.bipush 32, 2) := by decide +kernel
theorem dX2_init_49 : decode cX2_init 49 = .ok (.newarray .long, 2) := by decide +kernel
theorem dX2_init_51 : decode cX2_init 51 = .ok (.putfield 30, 3) := by decide +kernel
theorem dX2_init_54 : decode cX2_init 54 = .ok (.aload_n 0, 1) := by decide +kernel
theorem dX2_init_55 : decode cX2_init 55 = .ok (.bipush 32, 2) := by decide +kernel
theorem dX2_init_57 : decode cX2_init 57 = .ok (.newarray .long, 2) := by decide +kernel
theorem dX2_init_59 : decode cX2_init 59 = .ok (.putfield 34, 3) := by decide +kernel
theorem dX2_init_62 : decode cX2_init 62 = .ok (.aload_n 0, 1) := by decide +kernel
theorem dX2_init_63 : decode cX2_init 63 = .ok (.bipush 100, 2) := by decide +kernel
theorem dX2_init_65 : decode cX2_init 65 = .ok (.putfield 37, 3) := by decide +kernel
theorem dX2_init_68 : decode cX2_init 68 = .ok (.return_, 1) := by decide +kernel
theorem dX2_append_0 : decode cX2_append 0 = .ok (.aload_n 0, 1) := by decide +kernel
theorem dX2_append_1 : decode cX2_append 1 = .ok (.getfield 41, 3) := by decide +kernel
theorem dX2_append_4 : decode cX2_append 4 = .ok (.istore 4, 2) := by decide +kernel
theorem dX2_append_6 : decode cX2_append 6 = .ok (.aload_n 0, 1) := by decide +kernel
theorem dX2_append_7 : decode cX2_append 7 = .ok (.getfield 9, 3) := by decide +kernel
theorem dX2_append_10 : decode cX2_append 10 = .ok (.iload 4, 2) := by decide +kernel
theorem dX2_append_12 : decode cX2_append 12 = .ok (.iload_n 1, 1) := by decide +kernel
theorem dX2_append_13 : decode cX2_append 13 = .ok (.iastore, 1) := by decide +kernel
theorem dX2_append_14 : decode cX2_append 14 = .ok (.aload_n 0, 1) := by decide +kernel
theorem dX2_append_15 : decode cX2_append 15 = .ok (.getfield 15, 3) := by decide +kernel
theorem dX2_append_18 : decode cX2_append 18 = .ok (.iload 4, 2) := by decide +kernel
theorem dX2_append_20 : decode cX2_append 20 = .ok (.iload_n 2, 1) := by decide +kernel
theorem dX2_append_21 : decode cX2_append 21 = .ok (.iastore, 1) := by decide +kernel
theorem dX2_append_22 : decode cX2_append 22 = .ok (.aload_n 0, 1) := by decide +kernel
theorem dX2_append_23 : decode cX2_append 23 = .ok (.getfield 18, 3) := by decide +kernel
theorem dX2_append_26 : decode cX2_append 26 = .ok (.iload 4, 2) := by decide +kernel
theorem dX2_append_28 : decode cX2_append 28 = .ok (.iload_n 3, 1) := by decide +kernel
theorem dX2_append_29 : decode cX2_append 29 = .ok (.iastore, 1) := by decide +kernel
theorem dX2_append_30 : decode cX2_append 30 = .ok (.aload_n 0, 1) := by decide +kernel
theorem dX2_append_31 : decode cX2_append 31 = .ok (.getfield 30, 3) := by decide +kernel
theorem dX2_append_34 : decode cX2_append 34 = .ok (.iload_n 1, 1) := by decide +kernel
theorem dX2_append_35 : decode cX2_append 35 = .ok (.dup2, 1) := by decide +kernel
theorem dX2_append_36 : decode cX2_append 36 = .ok (.laload, 1) := by decide +kernel
theorem dX2_append_37 : decode cX2_append 37 = .ok (.iload 4, 2) := by decide +kernel
theorem dX2_append_39 : decode cX2_append 39 = .ok (.invokestatic 44, 3) := by decide +kernel
theorem dX2_append_42 : decode cX2_append 42 = .ok (.lor, 1) := by decide +kernel
theorem dX2_append_43 : decode cX2_append 43 = .ok (.lastore, 1) := by decide +kernel
theorem dX2_append_44 : decode cX2_append 44 = .ok (.aload_n 0, 1) := by decide +kernel
theorem dX2_append_45 : decode cX2_append 45 = .ok (.getfield 34, 3) := by decide +kernel
theorem dX2_append_48 : decode cX2_append 48 = .ok (.iload_n 2, 1) := by decide +kernel
theorem dX2_append_49 : decode cX2_append 49 = .ok (.dup2, 1) := by decide +kernel
theorem dX2_append_50 : decode cX2_append 50 = .ok (.laload, 1) := by decide +kernel
theorem dX2_append_51 : decode cX2_append 51 = .ok (.iload 4, 2) := by decide +kernel
theorem dX2_append_53 : decode cX2_append 53 = .ok (.invokestatic 44, 3) := by decide +kernel
theorem dX2_append_56 : decode cX2_append 56 = .ok (.lor, 1) := by decide +kernel
theorem dX2_append_57 : decode cX2_append 57 = .ok (.lastore, 1) := by decide +kernel
theorem dX2_append_58 : decode cX2_append 58 = .ok (.aload_n 0, 1) := by decide +kernel
theorem dX2_append_59 : decode cX2_append 59 = .ok (.dup, 1) := by decide +kernel
theorem dX2_append_60 : decode cX2_append 60 = .ok (.getfield 48, 3) := by decide +kernel
theorem dX2_append_63 : decode cX2_append 63 = .ok (.iload 4, 2) := by decide +kernel
theorem dX2_append_65 : decode cX2_append 65 = .ok (.invokestatic 44, 3) := by decide +kernel
theorem dX2_append_68 : decode cX2_append 68 = .ok (.lor, 1) := by decide +kernel
theorem dX2_append_69 : decode cX2_append 69 = .ok (.putfield 48, 3) := by decide +kernel
theorem dX2_append_72 : decode cX2_append 72 = .ok (.aload_n 0, 1) := by decide +kernel
theorem dX2_append_73 : decode cX2_append 73 = .ok (.dup, 1) := by decide +kernel
theorem dX2_append_74 : decode cX2_append 74 = .ok (.getfield 41, 3) := by decide +kernel
theorem dX2_append_77 : decode cX2_append 77 = .ok (.iconst 1, 1) := by decide +kernel
theorem dX2_append_78 : decode cX2_append 78 = .ok (.iadd, 1) := by decide +kernel
theorem dX2_append_79 : decode cX2_append 79 = .ok (.putfield 41, 3) := by decide +kernel
theorem dX2_append_82 : decode cX2_append 82 = .ok (.iload 4, 2) := by decide +kernel
theorem dX2_append_84 : decode cX2_append 84 = .ok (.ireturn, 1) := by decide +kernel
theorem dX2_openOrClose_0 : decode cX2_openOrClose 0 = .ok (.aload_n 0, 1) := by decide +kernel
theorem dX2_openOrClose_1 : decode cX2_openOrClose 1 = .ok (.getfield 48, 3) := by decide +kernel
theorem dX2_openOrClose_4 : decode cX2_openOrClose 4 = .ok (.iload_n 1, 1) := by decide +kernel
theorem dX2_openOrClose_5 : decode cX2_openOrClose 5 = .ok (.invokestatic 44, 3) := by decide +kernel
theorem dX2_openOrClose_8 : decode cX2_openOrClose 8 = .ok (.ldc2_w 52, 3) := by decide +kernel
theorem dX2_openOrClose_11 : decode cX2_openOrClose 11 = .ok (.lxor, 1) := by decide +kernel
theorem dX2_openOrClose_12 : decode cX2_openOrClose 12 = .ok (.land, 1) := by decide +kernel
theorem dX2_openOrClose_13 : decode cX2_openOrClose 13 = .ok (.lstore_n 3, 1) := by decide +kernel
theorem dX2_openOrClose_14 : decode cX2_openOrClose 14 = .ok (.aload_n 0, 1) := by decide +kernel
theorem dX2_openOrClose_15 : decode cX2_openOrClose 15 = .ok (.iload_n 2, 1) := by decide +kernel
theorem dX2_openOrClose_16 : decode cX2_openOrClose 16 = .ok (.ifCond .eq 12, 3) := by decide +kernel
theorem dX2_openOrClose_19 : decode cX2_openOrClose 19 = .ok (.lload_n 3, 1) := by decide +kernel
theorem dX2_openOrClose_20 : decode cX2_openOrClose 20 = .ok (.iload_n 1, 1) := by decide +kernel
theorem dX2_openOrClose_21 : decode cX2_openOrClose 21 = .ok (.invokestatic 44, 3) := by decide +kernel
theorem dX2_openOrClose_24 : decode cX2_openOrClose 24 = .ok (.lor, 1) := by decide +kernel
theorem dX2_openOrClose_25 : decode cX2_openOrClose 25 = .ok (.goto 4, 3) := by decide +kernel
theorem dX2_openOrClose_28 : decode cX2_openOrClose 28 = .ok (.lload_n 3, 1) := by decide +kernel
theorem dX2_openOrClose_29 : decode cX2_openOrClose 29 = .ok (.putfield 48, 3) := by decide +kernel
theorem dX2_openOrClose_32 : decode cX2_openOrClose 32 = .ok (.return_, 1) := by decide +kernel
theorem dX2_allRoads_0 : decode cX2_allRoads 0 = .ok (.aload_n 0, 1) := by decide +kernel
theorem dX2_allRoads_1 : decode cX2_allRoads 1 = .ok (.getfield 41, 3) := by decide +kernel
theorem dX2_allRoads_4 : decode cX2_allRoads 4 = .ok (.bipush 64, 2) := by decide +kernel
theorem dX2_allRoads_6 : decode cX2_allRoads 6 = .ok (.if_icmp .lt 9, 3) := by decide +kernel
theorem dX2_allRoads_9 : decode cX2_allRoads 9 = .ok (.ldc2_w 52, 3) := by decide +kernel
theorem dX2_allRoads_12 : decode cX2_allRoads 12 = .ok (.goto 12, 3) := by decide +kernel
theorem dX2_allRoads_15 : decode cX2_allRoads 15 = .ok (.aload_n 0, 1) := by decide +kernel
theorem dX2_allRoads_16 : decode cX2_allRoads 16 = .ok (.getfield 41, 3) := by decide +kernel
theorem dX2_allRoads_19 : decode cX2_allRoads 19 = .ok (.invokestatic 44, 3) := by decide +kernel
theorem dX2_allRoads_22 : decode cX2_allRoads 22 = .ok (.lconst 1, 1) := by decide +kernel
theorem dX2_allRoads_23 : decode cX2_allRoads 23 = .ok (.lsub, 1) := by decide +kernel
theorem dX2_allRoads_24 : decode cX2_allRoads 24 = .ok (.lreturn, 1) := by decide +kernel
theorem dX2_followersOf_0 : decode cX2_followersOf 0 = .ok (.aload_n 0, 1) := by decide +kernel
theorem dX2_followersOf_1 : decode cX2_followersOf 1 = .ok (.getfield 30, 3) := by decide +kernel
theorem dX2_followersOf_4 : decode cX2_followersOf 4 = .ok (.aload_n 0, 1) := by decide +kernel
theorem dX2_followersOf_5 : decode cX2_followersOf 5 = .ok (.getfield 15, 3) := by decide +kernel
theorem dX2_followersOf_8 : decode cX2_followersOf 8 = .ok (.iload_n 1, 1) := by decide +kernel
theorem dX2_followersOf_9 : decode cX2_followersOf 9 = .ok (.iaload, 1) := by decide +kernel
theorem dX2_followersOf_10 : decode cX2_followersOf 10 = .ok (.laload, 1) := by decide +kernel
theorem dX2_followersOf_11 : decode cX2_followersOf 11 = .ok (.lreturn, 1) := by decide +kernel
theorem dX2_forerunnersOf_0 : decode cX2_forerunnersOf 0 = .ok (.aload_n 0, 1) := by decide +kernel
theorem dX2_forerunnersOf_1 : decode cX2_forerunnersOf 1 = .ok (.getfield 34, 3) := by decide +kernel
theorem dX2_forerunnersOf_4 : decode cX2_forerunnersOf 4 = .ok (.aload_n 0, 1) := by decide +kernel
theorem dX2_forerunnersOf_5 : decode cX2_forerunnersOf 5 = .ok (.getfield 9, 3) := by decide +kernel
theorem dX2_forerunnersOf_8 : decode cX2_forerunnersOf 8 = .ok (.iload_n 1, 1) := by decide +kernel
theorem dX2_forerunnersOf_9 : decode cX2_forerunnersOf 9 = .ok (.iaload, 1) := by decide +kernel
theorem dX2_forerunnersOf_10 : decode cX2_forerunnersOf 10 = .ok (.laload, 1) := by decide +kernel
theorem dX2_forerunnersOf_11 : decode cX2_forerunnersOf 11 = .ok (.lreturn, 1) := by decide +kernel
theorem dX2_penaltyOf_0 : decode cX2_penaltyOf 0 = .ok (.aload_n 0, 1) := by decide +kernel
theorem dX2_penaltyOf_1 : decode cX2_penaltyOf 1 = .ok (.getfield 21, 3) := by decide +kernel
theorem dX2_penaltyOf_4 : decode cX2_penaltyOf 4 = .ok (.iload_n 1, 1) := by decide +kernel
theorem dX2_penaltyOf_5 : decode cX2_penaltyOf 5 = .ok (.iload_n 2, 1) := by decide +kernel
theorem dX2_penaltyOf_6 : decode cX2_penaltyOf 6 = .ok (.invokestatic 54, 3) := by decide +kernel
theorem dX2_penaltyOf_9 : decode cX2_penaltyOf 9 = .ok (.iaload, 1) := by decide +kernel
theorem dX2_penaltyOf_10 : decode cX2_penaltyOf 10 = .ok (.istore_n 3, 1) := by decide +kernel
theorem dX2_penaltyOf_11 : decode cX2_penaltyOf 11 = .ok (.iload_n 3, 1) := by decide +kernel
theorem dX2_penaltyOf_12 : decode cX2_penaltyOf 12 = .ok (.bipush (-2), 2) := by decide +kernel
theorem dX2_penaltyOf_14 : decode cX2_penaltyOf 14 = .ok (.if_icmp .eq 5, 3) := by decide +kernel
theorem dX2_penaltyOf_17 : decode cX2_penaltyOf 17 = .ok (.iload_n 3, 1) := by decide +kernel
theorem dX2_penaltyOf_18 : decode cX2_penaltyOf 18 = .ok (.ireturn, 1) := by decide +kernel
theorem dX2_penaltyOf_19 : decode cX2_penaltyOf 19 = .ok (.aload_n 0, 1) := by decide +kernel
theorem dX2_penaltyOf_20 : decode cX2_penaltyOf 20 = .ok (.getfield 15, 3) := by decide +kernel
theorem dX2_penaltyOf_23 : decode cX2_penaltyOf 23 = .ok (.iload_n 2, 1) := by decide +kernel
theorem dX2_penaltyOf_24 : decode cX2_penaltyOf 24 = .ok (.iaload, 1) := by decide +kernel
theorem dX2_penaltyOf_25 : decode cX2_penaltyOf 25 = .ok (.aload_n 0, 1) := by decide +kernel
theorem dX2_penaltyOf_26 : decode cX2_penaltyOf 26 = .ok (.getfield 9, 3) := by decide +kernel
theorem dX2_penaltyOf_29 : decode cX2_penaltyOf 29 = .ok (.iload_n 1, 1) := by decide +kernel
theorem dX2_penaltyOf_30 : decode cX2_penaltyOf 30 = .ok (.iaload, 1) := by decide +kernel
theorem dX2_penaltyOf_31 : decode cX2_penaltyOf 31 = .ok (.if_icmp .ne 10, 3) := by decide +kernel
theorem dX2_penaltyOf_34 : decode cX2_penaltyOf 34 = .ok (.aload_n 0, 1) := by decide +kernel
theorem dX2_penaltyOf_35 : decode cX2_penaltyOf 35 = .ok (.getfield 37, 3) := by decide +kernel
theorem dX2_penaltyOf_38 : decode cX2_penaltyOf 38 = .ok (.goto 4, 3) := by decide +kernel
theorem dX2_penaltyOf_41 : decode cX2_penaltyOf 41 = .ok (.iconst 0, 1) := by decide +kernel
theorem dX2_penaltyOf_42 : decode cX2_penaltyOf 42 = .ok (.ireturn, 1) := by decide +kernel
theorem dX2_roadLength_0 : decode cX2_roadLength 0 = .ok (.aload_n 0, 1) := by decide +kernel
theorem dX2_roadLength_1 : decode cX2_roadLength 1 = .ok (.getfield 18, 3) := by decide +kernel
theorem dX2_roadLength_4 : decode cX2_roadLength 4 = .ok (.iload_n 1, 1) := by decide +kernel
theorem dX2_roadLength_5 : decode cX2_roadLength 5 = .ok (.iaload, 1) := by decide +kernel
theorem dX2_roadLength_6 : decode cX2_roadLength 6 = .ok (.bipush 7, 2) := by decide +kernel
theorem dX2_roadLength_8 : decode cX2_roadLength 8 = .ok (.ishl, 1) := by decide +kernel
theorem dX2_roadLength_9 : decode cX2_roadLength 9 = .ok (.iconst 1, 1) := by decide +kernel
theorem dX2_roadLength_10 : decode cX2_roadLength 10 = .ok (.iadd, 1) := by decide +kernel
theorem dX2_roadLength_11 : decode cX2_roadLength 11 = .ok (.ireturn, 1) := by decide +kernel
theorem dX2_stepLength_0 : decode cX2_stepLength 0 = .ok (.aload_n 0, 1) := by decide +kernel
theorem dX2_stepLength_1 : decode cX2_stepLength 1 = .ok (.iload_n 1, 1) := by decide +kernel
theorem dX2_stepLength_2 : decode cX2_stepLength 2 = .ok (.iload_n 2, 1) := by decide +kernel
theorem dX2_stepLength_3 : decode cX2_stepLength 3 = .ok (.invokevirtual 58, 3) := by decide +kernel
theorem dX2_stepLength_6 : decode cX2_stepLength 6 = .ok (.istore_n 3, 1) := by decide +kernel
theorem dX2_stepLength_7 : decode cX2_stepLength 7 = .ok (.iload_n 3, 1) := by decide +kernel
theorem dX2_stepLength_8 : decode cX2_stepLength 8 = .ok (.iconst (-1), 1) := by decide +kernel
theorem dX2_stepLength_9 : decode cX2_stepLength 9 = .ok (.if_icmp .eq 25, 3) := by decide +kernel
theorem dX2_stepLength_12 : decode cX2_stepLength 12 = .ok (.aload_n 0, 1) := by decide +kernel
theorem dX2_stepLength_13 : decode cX2_stepLength 13 = .ok (.getfield 48, 3) := by decide +kernel
theorem dX2_stepLength_16 : decode cX2_stepLength 16 = .ok (.iload_n 1, 1) := by decide +kernel
theorem dX2_stepLength_17 : decode cX2_stepLength 17 = .ok (.invokestatic 61, 3) := by decide +kernel
theorem dX2_stepLength_20 : decode cX2_stepLength 20 = .ok (.ifCond .eq 14, 3) := by decide +kernel
theorem dX2_stepLength_23 : decode cX2_stepLength 23 = .ok (.aload_n 0, 1) := by decide +kernel
theorem dX2_stepLength_24 : decode cX2_stepLength 24 = .ok (.getfield 48, 3) := by decide +kernel
theorem dX2_stepLength_27 : decode cX2_stepLength 27 = .ok (.iload_n 2, 1) := by decide +kernel
theorem dX2_stepLength_28 : decode cX2_stepLength 28 = .ok (.invokestatic 61, 3) := by decide +kernel
theorem dX2_stepLength_31 : decode cX2_stepLength 31 = .ok (.ifCond .ne 6, 3) := by decide +kernel
theorem dX2_stepLength_34 : decode cX2_stepLength 34 = .ok (.ldc 65, 2) := by decide +kernel
theorem dX2_stepLength_36 : decode cX2_stepLength 36 = .ok (.ireturn, 1) := by decide +kernel
theorem dX2_stepLength_37 : decode cX2_stepLength 37 = .ok (.iload_n 3, 1) := by decide +kernel
theorem dX2_stepLength_38 : decode cX2_stepLength 38 = .ok (.bipush 7, 2) := by decide +kernel
theorem dX2_stepLength_40 : decode cX2_stepLength 40 = .ok (.ishl, 1) := by decide +kernel
theorem dX2_stepLength_41 : decode cX2_stepLength 41 = .ok (.aload_n 0, 1) := by decide +kernel
theorem dX2_stepLength_42 : decode cX2_stepLength 42 = .ok (.iload_n 2, 1) := by decide +kernel
theorem dX2_stepLength_43 : decode cX2_stepLength 43 = .ok (.invokevirtual 66, 3) := by decide +kernel
theorem dX2_stepLength_46 : decode cX2_stepLength 46 = .ok (.iadd, 1) := by decide +kernel
theorem dX2_stepLength_47 : decode cX2_stepLength 47 = .ok (.ireturn, 1) := by decide +kernel
theorem dX3_init_0 : decode cX3_init 0 = .ok (.aload_n 0, 1) := by decide +kernel
theorem dX3_init_1 : decode cX3_init 1 = .ok (.invokespecial 3, 3) := by decide +kernel
theorem dX3_init_4 : decode cX3_init 4 = .ok (.aload_n 0, 1) := by decide +kernel
theorem dX3_init_5 : decode cX3_init 5 = .ok (.new 9, 3) := by decide +kernel
theorem dX3_init_8 : decode cX3_init 8 = .ok (.dup, 1) := by decide +kernel
theorem dX3_init_9 : decode cX3_init 9 = .ok (.invokespecial 11, 3) := by decide +kernel
theorem dX3_init_12 : decode cX3_init 12 = .ok (.putfield 12, 3) := by decide +kernel
theorem dX3_init_15 : decode cX3_init 15 = .ok (.aload_n 0, 1) := by decide +kernel
theorem dX3_init_16 : decode cX3_init 16 = .ok (.new 16, 3) := by decide +kernel
theorem dX3_init_19 : decode cX3_init 19 = .ok (.dup, 1) := by decide +kernel
theorem dX3_init_20 : decode cX3_init 20 = .ok (.aload_n 0, 1) := by decide +kernel
theorem dX3_init_21 : decode cX3_init 21 = .ok (.getfield 12, 3) := by decide +kernel
theorem dX3_init_24 : decode cX3_init 24 = .ok (.invokespecial 18, 3) := by decide +kernel
theorem dX3_init_27 : decode cX3_init 27 = .ok (.putfield 21, 3) := by decide +kernel
theorem dX3_init_30 : decode cX3_init 30 = .ok (.aload_n 0, 1) := by decide +kernel
theorem dX3_init_31 : decode cX3_init 31 = .ok (.new 25, 3) := by decide +kernel
theorem dX3_init_34 : decode cX3_init 34 = .ok (.dup, 1) := by decide +kernel
theorem dX3_init_35 : decode cX3_init 35 = .ok (.invokespecial 27, 3) := by decide +kernel
theorem dX3_init_38 : decode cX3_init 38 = .ok (.putfield 28, 3) := by decide +kernel
theorem dX3_init_41 : decode cX3_init 41 = .ok (.aload_n 0, 1) := by decide +kernel
theorem dX3_init_42 : decode cX3_init 42 = .ok (.sipush 128, 3) := by decide +kernel
theorem dX3_init_45 : decode cX3_init 45 = .ok (.newarray .boolean, 2) := by decide +kernel
theorem dX3_init_47 : decode cX3_init 47 = .ok (.putfield 32, 3) := by decide +kernel
theorem dX3_init_50 : decode cX3_init 50 = .ok (.aload_n 0, 1) := by decide +kernel
theorem dX3_init_51 : decode cX3_init 51 = .ok (.bipush 64, 2) := by decide +kernel
theorem dX3_init_53 : decode cX3_init 53 = .ok (.newarray .int, 2) := by decide +kernel
theorem dX3_init_55 : decode cX3_init 55 = .ok (.putfield 36, 3) := by decide +kernel
theorem dX3_init_58 : decode cX3_init 58 = .ok (.aload_n 0, 1) := by decide +kernel
theorem dX3_init_59 : decode cX3_init 59 = .ok (.bipush 32, 2) := by decide +kernel
theorem dX3_init_61 : decode cX3_init 61 = .ok (.newarray .int, 2) := by decide +kernel
theorem dX3_init_63 : decode cX3_init 63 = .ok (.putfield 40, 3) := by decide +kernel
theorem dX3_init_66 : decode cX3_init 66 = .ok (.aload_n 0, 1) := by decide +kernel
theorem dX3_init_67 : decode cX3_init 67 = .ok (.bipush 64, 2) := by decide +kernel
theorem dX3_init_69 : decode cX3_init 69 = .ok (.newarray .int, 2) := by decide +kernel
theorem dX3_init_71 : decode cX3_init 71 = .ok (.putfield 43, 3) := by decide +kernel
theorem dX3_init_74 : decode cX3_init 74 = .ok (.aload_n 0, 1) := by decide +kernel
theorem dX3_init_75 : decode cX3_init 75 = .ok (.bipush 32, 2) := by decide +kernel
theorem dX3_init_77 : decode cX3_init 77 = .ok (.newarray .int, 2) := by decide +kernel
theorem dX3_init_79 : decode cX3_init 79 = .ok (.putfield 46, 3) := by decide +kernel
theorem dX3_init_82 : decode cX3_init 82 = .ok (.aload_n 0, 1) := by decide +kernel
theorem dX3_init_83 : decode cX3_init 83 = .ok (.bipush 32, 2) := by decide +kernel
theorem dX3_init_85 : decode cX3_init 85 = .ok (.newarray .int, 2) := by decide +kernel
theorem dX3_init_87 : decode cX3_init 87 = .ok (.putfield 49, 3) := by decide +kernel
theorem dX3_init_90 : decode cX3_init 90 = .ok (.return_, 1) := by decide +kernel
theorem dX3_addJunction_0 : decode cX3_addJunction 0 = .ok (.aload_n 0, 1) := by decide +kernel
theorem dX3_addJunction_1 : decode cX3_addJunction 1 = .ok (.getfield 12, 3) := by decide +kernel
theorem dX3_addJunction_4 : decode cX3_addJunction 4 = .ok (.getfield 52, 3) := by decide +kernel
theorem dX3_addJunction_7 : decode cX3_addJunction 7 = .ok (.bipush 32, 2) := by decide +kernel
theorem dX3_addJunction_9 : decode cX3_addJunction 9 = .ok (.if_icmp .lt 13, 3) := by decide +kernel
theorem dX3_addJunction_12 : decode cX3_addJunction 12 = .ok (.new 56, 3) := by decide +kernel
theorem dX3_addJunction_15 : decode cX3_addJunction 15 = .ok (.dup, 1) := by decide +kernel
theorem dX3_addJunction_16 : decode cX3_addJunction 16 = .ok (.ldc 58, 2) := by decide +kernel
theorem dX3_addJunction_18 : decode cX3_addJunction 18 = .ok (.invokespecial 60, 3) := by decide +kernel
theorem dX3_addJunction_21 : decode cX3_addJunction 21 = .ok (.athrow, 1) := by decide +kernel
theorem dX3_addJunction_22 : decode cX3_addJunction 22 = .ok (.aload_n 0, 1) := by decide +kernel
theorem dX3_addJunction_23 : decode cX3_addJunction 23 = .ok (.getfield 12, 3) := by decide +kernel
theorem dX3_addJunction_26 : decode cX3_addJunction 26 = .ok (.dup, 1) := by decide +kernel
theorem dX3_addJunction_27 : decode cX3_addJunction 27 = .ok (.getfield 52, 3) := by decide +kernel
theorem dX3_addJunction_30 : decode cX3_addJunction 30 = .ok (.iconst 1, 1) := by decide +kernel
theorem dX3_addJunction_31 : decode cX3_addJunction 31 = .ok (.iadd, 1) := by decide +kernel
theorem dX3_addJunction_32 : decode cX3_addJunction 32 = .ok (.putfield 52, 3) := by decide +kernel
theorem dX3_addJunction_35 : decode cX3_addJunction 35 = .ok (.aload_n 0, 1) := by decide +kernel
theorem dX3_addJunction_36 : decode cX3_addJunction 36 = .ok (.getfield 12, 3) := by decide +kernel
theorem dX3_addJunction_39 : decode cX3_addJunction 39 = .ok (.getfield 52, 3) := by decide +kernel
theorem dX3_addJunction_42 : decode cX3_addJunction 42 = .ok (.iconst 1, 1) := by decide +kernel
theorem dX3_addJunction_43 : decode cX3_addJunction 43 = .ok (.isub, 1) := by decide +kernel
theorem dX3_addJunction_44 : decode cX3_addJunction 44 = .ok (.ireturn, 1) := by decide +kernel
theorem dX3_addRoad_0 : decode cX3_addRoad 0 = .ok (.aload_n 0, 1) := by decide +kernel
theorem dX3_addRoad_1 : decode cX3_addRoad 1 = .ok (.iload_n 1, 1) := by decide +kernel
theorem dX3_addRoad_2 : decode cX3_addRoad 2 = .ok (.invokevirtual 63, 3) := by decide +kernel
theorem dX3_addRoad_5 : decode cX3_addRoad 5 = .ok (.aload_n 0, 1) := by decide +kernel
theorem dX3_addRoad_6 : decode cX3_addRoad 6 = .ok (.iload_n 2, 1) := by decide +kernel
theorem dX3_addRoad_7 : decode cX3_addRoad 7 = .ok (.invokevirtual 63, 3) := by decide +kernel
theorem dX3_addRoad_10 : decode cX3_addRoad 10 = .ok (.iload_n 1, 1) := by decide +kernel
theorem dX3_addRoad_11 : decode cX3_addRoad 11 = .ok (.iload_n 2, 1) := by decide +kernel
theorem dX3_addRoad_12 : decode cX3_addRoad 12 = .ok (.if_icmp .ne 13, 3) := by decide +kernel
theorem dX3_addRoad_15 : decode cX3_addRoad 15 = .ok (.new 67, 3) := by decide +kernel
theorem dX3_addRoad_18 : decode cX3_addRoad 18 = .ok (.dup, 1) := by decide +kernel
theorem dX3_addRoad_19 : decode cX3_addRoad 19 = .ok (.ldc 69, 2) := by decide +kernel
theorem dX3_addRoad_21 : decode cX3_addRoad 21 = .ok (.invokespecial 71, 3) := by decide +kernel
theorem dX3_addRoad_24 : decode cX3_addRoad 24 = .ok (.athrow, 1) := by decide +kernel
theorem dX3_addRoad_25 : decode cX3_addRoad 25 = .ok (.aload_n 0, 1) := by decide +kernel
theorem dX3_addRoad_26 : decode cX3_addRoad 26 = .ok (.iload_n 3, 1) := by decide +kernel
theorem dX3_addRoad_27 : decode cX3_addRoad 27 = .ok (.invokevirtual 72, 3) := by decide +kernel
theorem dX3_addRoad_30 : decode cX3_addRoad 30 = .ok (.aload_n 0, 1) := by decide +kernel
theorem dX3_addRoad_31 : decode cX3_addRoad 31 = .ok (.getfield 12, 3) := by decide +kernel
theorem dX3_addRoad_34 : decode cX3_addRoad 34 = .ok (.getfield 75, 3) := by decide +kernel
theorem dX3_addRoad_37 : decode cX3_addRoad 37 = .ok (.bipush 64, 2) := by decide +kernel
theorem dX3_addRoad_39 : decode cX3_addRoad 39 = .ok (.if_icmp .lt 13, 3) := by decide +kernel
theorem dX3_addRoad_42 : decode cX3_addRoad 42 = .ok (.new 56, 3) := by decide +kernel
theorem dX3_addRoad_45 : decode cX3_addRoad 45 = .ok (.dup, 1) := by decide +kernel
theorem dX3_addRoad_46 : decode cX3_addRoad 46 = .ok (.ldc 78, 2) := by decide +kernel
theorem dX3_addRoad_48 : decode cX3_addRoad 48 = .ok (.invokespecial 60, 3) := by decide +kernel
theorem dX3_addRoad_51 : decode cX3_addRoad 51 = .ok (.athrow, 1) := by decide +kernel
theorem dX3_addRoad_52 : decode cX3_addRoad 52 = .ok (.aload_n 0, 1) := by decide +kernel
theorem dX3_addRoad_53 : decode cX3_addRoad 53 = .ok (.getfield 21, 3) := by decide +kernel
theorem dX3_addRoad_56 : decode cX3_addRoad 56 = .ok (.iconst 0, 1) := by decide +kernel
theorem dX3_addRoad_57 : decode cX3_addRoad 57 = .ok (.putfield 80, 3) := by decide +kernel
theorem dX3_addRoad_60 : decode cX3_addRoad 60 = .ok (.aload_n 0, 1) := by decide +kernel
theorem dX3_addRoad_61 : decode cX3_addRoad 61 = .ok (.getfield 12, 3) := by decide +kernel
theorem dX3_addRoad_64 : decode cX3_addRoad 64 = .ok (.iload_n 1, 1) := by decide +kernel
theorem dX3_addRoad_65 : decode cX3_addRoad 65 = .ok (.iload_n 2, 1) := by decide +kernel
theorem dX3_addRoad_66 : decode cX3_addRoad 66 = .ok (.iload_n 3, 1) := by decide +kernel
theorem dX3_addRoad_67 : decode cX3_addRoad 67 = .ok (.invokevirtual 84, 3) := by decide +kernel
theorem dX3_addRoad_70 : decode cX3_addRoad 70 = .ok (.ireturn, 1) := by decide +kernel
theorem dX3_setWeight_0 : decode cX3_setWeight 0 = .ok (.aload_n 0, 1) := by decide +kernel
theorem dX3_setWeight_1 : decode cX3_setWeight 1 = .ok (.iload_n 1, 1) := by decide +kernel
theorem dX3_setWeight_2 : decode cX3_setWeight 2 = .ok (.invokevirtual 88, 3) := by decide +kernel
theorem dX3_setWeight_5 : decode cX3_setWeight 5 = .ok (.aload_n 0, 1) := by decide +kernel
theorem dX3_setWeight_6 : decode cX3_setWeight 6 = .ok (.iload_n 2, 1) := by decide +kernel
theorem dX3_setWeight_7 : decode cX3_setWeight 7 = .ok (.invokevirtual 72, 3) := by decide +kernel
theorem dX3_setWeight_10 : decode cX3_setWeight 10 = .ok (.aload_n 0, 1) := by decide +kernel
theorem dX3_setWeight_11 : decode cX3_setWeight 11 = .ok (.getfield 12, 3) := by decide +kernel
theorem dX3_setWeight_14 : decode cX3_setWeight 14 = .ok (.getfield 91, 3) := by decide +kernel
theorem dX3_setWeight_17 : decode cX3_setWeight 17 = .ok (.iload_n 1, 1) := by decide +kernel
theorem dX3_setWeight_18 : decode cX3_setWeight 18 = .ok (.iload_n 2, 1) := by decide +kernel
theorem dX3_setWeight_19 : decode cX3_setWeight 19 = .ok (.iastore, 1) := by decide +kernel
theorem dX3_setWeight_20 : decode cX3_setWeight 20 = .ok (.aload_n 0, 1) := by decide +kernel
theorem dX3_setWeight_21 : decode cX3_setWeight 21 = .ok (.getfield 21, 3) := by decide +kernel
theorem dX3_setWeight_24 : decode cX3_setWeight 24 = .ok (.iload_n 1, 1) := by decide +kernel
theorem dX3_setWeight_25 : decode cX3_setWeight 25 = .ok (.invokevirtual 94, 3) := by decide +kernel
theorem dX3_setWeight_28 : decode cX3_setWeight 28 = .ok (.ireturn, 1) := by decide +kernel
theorem dX3_setOpen_0 : decode cX3_setOpen 0 = .ok (.aload_n 0, 1) := by decide +kernel
theorem dX3_setOpen_1 : decode cX3_setOpen 1 = .ok (.iload_n 1, 1) := by decide +kernel
theorem dX3_setOpen_2 : decode cX3_setOpen 2 = .ok (.invokevirtual 88, 3) := by decide +kernel
theorem dX3_setOpen_5 : decode cX3_setOpen 5 = .ok (.aload_n 0, 1) := by decide +kernel
theorem dX3_setOpen_6 : decode cX3_setOpen 6 = .ok (.getfield 12, 3) := by decide +kernel
theorem dX3_setOpen_9 : decode cX3_setOpen 9 = .ok (.iload_n 1, 1) := by decide +kernel
theorem dX3_setOpen_10 : decode cX3_setOpen 10 = .ok (.iload_n 2, 1) := by decide +kernel
theorem dX3_setOpen_11 : decode cX3_setOpen 11 = .ok (.invokevirtual 98, 3) := by decide +kernel
theorem dX3_setOpen_14 : decode cX3_setOpen 14 = .ok (.aload_n 0, 1) := by decide +kernel
theorem dX3_setOpen_15 : decode cX3_setOpen 15 = .ok (.getfield 21, 3) := by decide +kernel
theorem dX3_setOpen_18 : decode cX3_setOpen 18 = .ok (.iload_n 1, 1) := by decide +kernel
theorem dX3_setOpen_19 : decode cX3_setOpen 19 = .ok (.invokevirtual 94, 3) := by decide +kernel
theorem dX3_setOpen_22 : decode cX3_setOpen 22 = .ok (.ireturn, 1) := by decide +kernel
theorem dX3_setTurn_0 : decode cX3_setTurn 0 = .ok (.aload_n 0, 1) := by decide +kernel
theorem dX3_setTurn_1 : decode cX3_setTurn 1 = .ok (.iload_n 1, 1) := by decide +kernel
theorem dX3_setTurn_2 : decode cX3_setTurn 2 = .ok (.iload_n 2, 1) := by decide +kernel
theorem dX3_setTurn_3 : decode cX3_setTurn 3 = .ok (.invokevirtual 102, 3) := by decide +kernel
theorem dX3_setTurn_6 : decode cX3_setTurn 6 = .ok (.iload_n 3, 1) := by decide +kernel
theorem dX3_setTurn_7 : decode cX3_setTurn 7 = .ok (.bipush (-2), 2) := by decide +kernel
theorem dX3_setTurn_9 : decode cX3_setTurn 9 = .ok (.if_icmp .lt 10, 3) := by decide +kernel
theorem dX3_setTurn_12 : decode cX3_setTurn 12 = .ok (.iload_n 3, 1) := by decide +kernel
theorem dX3_setTurn_13 : decode cX3_setTurn 13 = .ok (.sipush 1000, 3) := by decide +kernel
theorem dX3_setTurn_16 : decode cX3_setTurn 16 = .ok (.if_icmp .le 13, 3) := by decide +kernel
theorem dX3_setTurn_19 : decode cX3_setTurn 19 = .ok (.new 67, 3) := by decide +kernel
theorem dX3_setTurn_22 : decode cX3_setTurn 22 = .ok (.dup, 1) := by decide +kernel
theorem dX3_setTurn_23 : decode cX3_setTurn 23 = .ok (.ldc 106, 2) := by decide +kernel
theorem dX3_setTurn_25 : decode cX3_setTurn 25 = .ok (.invokespecial 71, 3) := by decide +kernel
theorem dX3_setTurn_28 : decode cX3_setTurn 28 = .ok (.athrow, 1) := by decide +kernel
theorem dX3_setTurn_29 : decode cX3_setTurn 29 = .ok (.aload_n 0, 1) := by decide +kernel
theorem dX3_setTurn_30 : decode cX3_setTurn 30 = .ok (.getfield 12, 3) := by decide +kernel
theorem dX3_setTurn_33 : decode cX3_setTurn 33 = .ok (.getfield 108, 3) := by decide +kernel
theorem dX3_setTurn_36 : decode cX3_setTurn 36 = .ok (.iload_n 1, 1) := by decide +kernel
theorem dX3_setTurn_37 : decode cX3_setTurn 37 = .ok (.iload_n 2, 1) := by decide +kernel
theorem dX3_setTurn_38 : decode cX3_setTurn 38 = .ok (.invokestatic 111, 3) := by decide +kernel
theorem dX3_setTurn_41 : decode cX3_setTurn 41 = .ok (.iload_n 3, 1) := by decide +kernel
theorem dX3_setTurn_42 : decode cX3_setTurn 42 = .ok (.iastore, 1) := by decide +kernel
theorem dX3_setTurn_43 : decode cX3_setTurn 43 = .ok (.aload_n 0, 1) := by decide +kernel
theorem dX3_setTurn_44 : decode cX3_setTurn 44 = .ok (.getfield 21, 3) := by decide +kernel
theorem dX3_setTurn_47 : decode cX3_setTurn 47 = .ok (.iload_n 1, 1) := by decide +kernel
theorem dX3_setTurn_48 : decode cX3_setTurn 48 = .ok (.iload_n 2, 1) := by decide +kernel
theorem dX3_setTurn_49 : decode cX3_setTurn 49 = .ok (.invokevirtual 115, 3) := by decide +kernel
theorem dX3_setTurn_52 : decode cX3_setTurn 52 = .ok (.ireturn, 1) := by decide +kernel
theorem dX3_setUTurn_0 : decode cX3_setUTurn 0 = .ok (.iload_n 1, 1) := by decide +kernel
theorem dX3_setUTurn_1 : decode cX3_setUTurn 1 = .ok (.iconst (-1), 1) := by decide +kernel
theorem dX3_setUTurn_2 : decode cX3_setUTurn 2 = .ok (.if_icmp .lt 10, 3) := by decide +kernel
theorem dX3_setUTurn_5 : decode cX3_setUTurn 5 = .ok (.iload_n 1, 1) := by decide +kernel
theorem dX3_setUTurn_6 : decode cX3_setUTurn 6 = .ok (.sipush 1000, 3) := by decide +kernel
theorem dX3_setUTurn_9 : decode cX3_setUTurn 9 = .ok (.if_icmp .le 13, 3) := by decide +kernel
theorem dX3_setUTurn_12 : decode cX3_setUTurn 12 = .ok (.new 67, 3) := by decide +kernel
theorem dX3_setUTurn_15 : decode cX3_setUTurn 15 = .ok (.dup, 1) := by decide +kernel
theorem dX3_setUTurn_16 : decode cX3_setUTurn 16 = .ok (.ldc 118, 2) := by decide +kernel
theorem dX3_setUTurn_18 : decode cX3_setUTurn 18 = .ok (.invokespecial 71, 3) := by decide +kernel
theorem dX3_setUTurn_21 : decode cX3_setUTurn 21 = .ok (.athrow, 1) := by decide +kernel
theorem dX3_setUTurn_22 : decode cX3_setUTurn 22 = .ok (.aload_n 0, 1) := by decide +kernel
theorem dX3_setUTurn_23 : decode cX3_setUTurn 23 = .ok (.getfield 12, 3) := by decide +kernel
theorem dX3_setUTurn_26 : decode cX3_setUTurn 26 = .ok (.iload_n 1, 1) := by decide +kernel
theorem dX3_setUTurn_27 : decode cX3_setUTurn 27 = .ok (.putfield 120, 3) := by decide +kernel
theorem dX3_setUTurn_30 : decode cX3_setUTurn 30 = .ok (.aload_n 0, 1) := by decide +kernel
theorem dX3_setUTurn_31 : decode cX3_setUTurn 31 = .ok (.getfield 21, 3) := by decide +kernel
theorem dX3_setUTurn_34 : decode cX3_setUTurn 34 = .ok (.invokevirtual 123, 3) := by decide +kernel
theorem dX3_setUTurn_37 : decode cX3_setUTurn 37 = .ok (.ireturn, 1) := by decide +kernel
theorem dX3_prepare_0 : decode cX3_prepare 0 = .ok (.aload_n 0, 1) := by decide +kernel
theorem dX3_prepare_1 : decode cX3_prepare 1 = .ok (.getfield 12, 3) := by decide +kernel
theorem dX3_prepare_4 : decode cX3_prepare 4 = .ok (.getfield 75, 3) := by decide +kernel
theorem dX3_prepare_7 : decode cX3_prepare 7 = .ok (.ifCond .ne 13, 3) := by decide +kernel
theorem dX3_prepare_10 : decode cX3_prepare 10 = .ok (.new 56, 3) := by decide +kernel
theorem dX3_prepare_13 : decode cX3_prepare 13 = .ok (.dup, 1) := by decide +kernel
theorem dX3_prepare_14 : decode cX3_prepare 14 = .ok (.ldc 138, 2) := by decide +kernel
theorem dX3_prepare_16 : decode cX3_prepare 16 = .ok (.invokespecial 60, 3) := by decide +kernel
theorem dX3_prepare_19 : decode cX3_prepare 19 = .ok (.athrow, 1) := by decide +kernel
theorem dX3_prepare_20 : decode cX3_prepare 20 = .ok (.aload_n 0, 1) := by decide +kernel
theorem dX3_prepare_21 : decode cX3_prepare 21 = .ok (.getfield 21, 3) := by decide +kernel
theorem dX3_prepare_24 : decode cX3_prepare 24 = .ok (.getfield 80, 3) := by decide +kernel
theorem dX3_prepare_27 : decode cX3_prepare 27 = .ok (.ifCond .ne 10, 3) := by decide +kernel
theorem dX3_prepare_30 : decode cX3_prepare 30 = .ok (.aload_n 0, 1) := by decide +kernel
theorem dX3_prepare_31 : decode cX3_prepare 31 = .ok (.getfield 21, 3) := by decide +kernel
theorem dX3_prepare_34 : decode cX3_prepare 34 = .ok (.invokevirtual 140, 3) := by decide +kernel
theorem dX3_prepare_37 : decode cX3_prepare 37 = .ok (.aload_n 0, 1) := by decide +kernel
theorem dX3_prepare_38 : decode cX3_prepare 38 = .ok (.getfield 21, 3) := by decide +kernel
theorem dX3_prepare_41 : decode cX3_prepare 41 = .ok (.getfield 143, 3) := by decide +kernel
theorem dX3_prepare_44 : decode cX3_prepare 44 = .ok (.ireturn, 1) := by decide +kernel
theorem dX3_hasArc_0 : decode cX3_hasArc 0 = .ok (.aload_n 0, 1) := by decide +kernel
theorem dX3_hasArc_1 : decode cX3_hasArc 1 = .ok (.invokevirtual 146, 3) := by decide +kernel
theorem dX3_hasArc_4 : decode cX3_hasArc 4 = .ok (.aload_n 0, 1) := by decide +kernel
theorem dX3_hasArc_5 : decode cX3_hasArc 5 = .ok (.iload_n 1, 1) := by decide +kernel
theorem dX3_hasArc_6 : decode cX3_hasArc 6 = .ok (.invokevirtual 88, 3) := by decide +kernel
theorem dX3_hasArc_9 : decode cX3_hasArc 9 = .ok (.aload_n 0, 1) := by decide +kernel
theorem dX3_hasArc_10 : decode cX3_hasArc 10 = .ok (.iload_n 2, 1) := by decide +kernel
theorem dX3_hasArc_11 : decode cX3_hasArc 11 = .ok (.invokevirtual 88, 3) := by decide +kernel
theorem dX3_hasArc_14 : decode cX3_hasArc 14 = .ok (.aload_n 0, 1) := by decide +kernel
theorem dX3_hasArc_15 : decode cX3_hasArc 15 = .ok (.getfield 21, 3) := by decide +kernel
theorem dX3_hasArc_18 : decode cX3_hasArc 18 = .ok (.getfield 155, 3) := by decide +kernel
theorem dX3_hasArc_21 : decode cX3_hasArc 21 = .ok (.iload_n 1, 1) := by decide +kernel
theorem dX3_hasArc_22 : decode cX3_hasArc 22 = .ok (.laload, 1) := by decide +kernel
theorem dX3_hasArc_23 : decode cX3_hasArc 23 = .ok (.iload_n 2, 1) := by decide +kernel
theorem dX3_hasArc_24 : decode cX3_hasArc 24 = .ok (.invokestatic 131, 3) := by decide +kernel
theorem dX3_hasArc_27 : decode cX3_hasArc 27 = .ok (.ireturn, 1) := by decide +kernel
theorem dX3_arcCost_0 : decode cX3_arcCost 0 = .ok (.aload_n 0, 1) := by decide +kernel
theorem dX3_arcCost_1 : decode cX3_arcCost 1 = .ok (.invokevirtual 146, 3) := by decide +kernel
theorem dX3_arcCost_4 : decode cX3_arcCost 4 = .ok (.aload_n 0, 1) := by decide +kernel
theorem dX3_arcCost_5 : decode cX3_arcCost 5 = .ok (.iload_n 1, 1) := by decide +kernel
theorem dX3_arcCost_6 : decode cX3_arcCost 6 = .ok (.invokevirtual 88, 3) := by decide +kernel
theorem dX3_arcCost_9 : decode cX3_arcCost 9 = .ok (.aload_n 0, 1) := by decide +kernel
theorem dX3_arcCost_10 : decode cX3_arcCost 10 = .ok (.iload_n 2, 1) := by decide +kernel
theorem dX3_arcCost_11 : decode cX3_arcCost 11 = .ok (.invokevirtual 88, 3) := by decide +kernel
theorem dX3_arcCost_14 : decode cX3_arcCost 14 = .ok (.aload_n 0, 1) := by decide +kernel
theorem dX3_arcCost_15 : decode cX3_arcCost 15 = .ok (.getfield 21, 3) := by decide +kernel
theorem dX3_arcCost_18 : decode cX3_arcCost 18 = .ok (.getfield 155, 3) := by decide +kernel
theorem dX3_arcCost_21 : decode cX3_arcCost 21 = .ok (.iload_n 1, 1) := by decide +kernel
theorem dX3_arcCost_22 : decode cX3_arcCost 22 = .ok (.laload, 1) := by decide +kernel
theorem dX3_arcCost_23 : decode cX3_arcCost 23 = .ok (.iload_n 2, 1) := by decide +kernel
theorem dX3_arcCost_24 : decode cX3_arcCost 24 = .ok (.invokestatic 131, 3) := by decide +kernel
theorem dX3_arcCost_27 : decode cX3_arcCost 27 = .ok (.ifCond .ne 13, 3) := by decide +kernel
theorem dX3_arcCost_30 : decode cX3_arcCost 30 = .ok (.new 159, 3) := by decide +kernel
theorem dX3_arcCost_33 : decode cX3_arcCost 33 = .ok (.dup, 1) := by decide +kernel
theorem dX3_arcCost_34 : decode cX3_arcCost 34 = .ok (.ldc 161, 2) := by decide +kernel
theorem dX3_arcCost_36 : decode cX3_arcCost 36 = .ok (.invokespecial 163, 3) := by decide +kernel
theorem dX3_arcCost_39 : decode cX3_arcCost 39 = .ok (.athrow, 1) := by decide +kernel
theorem dX3_arcCost_40 : decode cX3_arcCost 40 = .ok (.aload_n 0, 1) := by decide +kernel
theorem dX3_arcCost_41 : decode cX3_arcCost 41 = .ok (.getfield 21, 3) := by decide +kernel
theorem dX3_arcCost_44 : decode cX3_arcCost 44 = .ok (.getfield 164, 3) := by decide +kernel
theorem dX3_arcCost_47 : decode cX3_arcCost 47 = .ok (.iload_n 1, 1) := by decide +kernel
theorem dX3_arcCost_48 : decode cX3_arcCost 48 = .ok (.iload_n 2, 1) := by decide +kernel
theorem dX3_arcCost_49 : decode cX3_arcCost 49 = .ok (.invokestatic 111, 3) := by decide +kernel
theorem dX3_arcCost_52 : decode cX3_arcCost 52 = .ok (.iaload, 1) := by decide +kernel
theorem dX3_arcCost_53 : decode cX3_arcCost 53 = .ok (.invokestatic 165, 3) := by decide +kernel
theorem dX3_arcCost_56 : decode cX3_arcCost 56 = .ok (.ireturn, 1) := by decide +kernel
theorem dX3_distance_0 : decode cX3_distance 0 = .ok (.aload_n 0, 1) := by decide +kernel
theorem dX3_distance_1 : decode cX3_distance 1 = .ok (.invokevirtual 146, 3) := by decide +kernel
theorem dX3_distance_4 : decode cX3_distance 4 = .ok (.aload_n 0, 1) := by decide +kernel
theorem dX3_distance_5 : decode cX3_distance 5 = .ok (.iload_n 1, 1) := by decide +kernel
theorem dX3_distance_6 : decode cX3_distance 6 = .ok (.invokevirtual 63, 3) := by decide +kernel
theorem dX3_distance_9 : decode cX3_distance 9 = .ok (.aload_n 0, 1) := by decide +kernel
theorem dX3_distance_10 : decode cX3_distance 10 = .ok (.iload_n 2, 1) := by decide +kernel
theorem dX3_distance_11 : decode cX3_distance 11 = .ok (.invokevirtual 63, 3) := by decide +kernel
theorem dX3_distance_14 : decode cX3_distance 14 = .ok (.aload_n 0, 1) := by decide +kernel
theorem dX3_distance_15 : decode cX3_distance 15 = .ok (.iload_n 1, 1) := by decide +kernel
theorem dX3_distance_16 : decode cX3_distance 16 = .ok (.iload_n 2, 1) := by decide +kernel
theorem dX3_distance_17 : decode cX3_distance 17 = .ok (.invokevirtual 168, 3) := by decide +kernel
theorem dX3_distance_20 : decode cX3_distance 20 = .ok (.ireturn, 1) := by decide +kernel
theorem dX3_requireJunction_0 : decode cX3_requireJunction 0 = .ok (.iload_n 1, 1) := by decide +kernel
theorem dX3_requireJunction_1 : decode cX3_requireJunction 1 = .ok (.ifCond .lt 14, 3) := by decide +kernel
theorem dX3_requireJunction_4 : decode cX3_requireJunction 4 = .ok (.iload_n 1, 1) := by decide +kernel
theorem dX3_requireJunction_5 : decode cX3_requireJunction 5 = .ok (.aload_n 0, 1) := by decide +kernel
theorem dX3_requireJunction_6 : decode cX3_requireJunction 6 = .ok (.getfield 12, 3) := by decide +kernel
theorem dX3_requireJunction_9 : decode cX3_requireJunction 9 = .ok (.getfield 52, 3) := by decide +kernel
theorem dX3_requireJunction_12 : decode cX3_requireJunction 12 = .ok (.if_icmp .lt 13, 3) := by decide +kernel
theorem dX3_requireJunction_15 : decode cX3_requireJunction 15 = .ok (.new 204, 3) := by decide +kernel
theorem dX3_requireJunction_18 : decode cX3_requireJunction 18 = .ok (.dup, 1) := by decide +kernel
theorem dX3_requireJunction_19 : decode cX3_requireJunction 19 = .ok (.ldc 251, 2) := by decide +kernel
theorem dX3_requireJunction_21 : decode cX3_requireJunction 21 = .ok (.invokespecial 208, 3) := by decide +kernel
theorem dX3_requireJunction_24 : decode cX3_requireJunction 24 = .ok (.athrow, 1) := by decide +kernel
theorem dX3_requireJunction_25 : decode cX3_requireJunction 25 = .ok (.return_, 1) := by decide +kernel
theorem dX3_requireRoad_0 : decode cX3_requireRoad 0 = .ok (.iload_n 1, 1) := by decide +kernel
theorem dX3_requireRoad_1 : decode cX3_requireRoad 1 = .ok (.ifCond .lt 14, 3) := by decide +kernel
theorem dX3_requireRoad_4 : decode cX3_requireRoad 4 = .ok (.iload_n 1, 1) := by decide +kernel
theorem dX3_requireRoad_5 : decode cX3_requireRoad 5 = .ok (.aload_n 0, 1) := by decide +kernel
theorem dX3_requireRoad_6 : decode cX3_requireRoad 6 = .ok (.getfield 12, 3) := by decide +kernel
theorem dX3_requireRoad_9 : decode cX3_requireRoad 9 = .ok (.getfield 75, 3) := by decide +kernel
theorem dX3_requireRoad_12 : decode cX3_requireRoad 12 = .ok (.if_icmp .lt 13, 3) := by decide +kernel
theorem dX3_requireRoad_15 : decode cX3_requireRoad 15 = .ok (.new 204, 3) := by decide +kernel
theorem dX3_requireRoad_18 : decode cX3_requireRoad 18 = .ok (.dup, 1) := by decide +kernel
theorem dX3_requireRoad_19 : decode cX3_requireRoad 19 = .ok (.ldc 253, 2) := by decide +kernel
theorem dX3_requireRoad_21 : decode cX3_requireRoad 21 = .ok (.invokespecial 208, 3) := by decide +kernel
theorem dX3_requireRoad_24 : decode cX3_requireRoad 24 = .ok (.athrow, 1) := by decide +kernel
theorem dX3_requireRoad_25 : decode cX3_requireRoad 25 = .ok (.return_, 1) := by decide +kernel
theorem dX3_requireTurn_0 : decode cX3_requireTurn 0 = .ok (.aload_n 0, 1) := by decide +kernel
theorem dX3_requireTurn_1 : decode cX3_requireTurn 1 = .ok (.iload_n 1, 1) := by decide +kernel
theorem dX3_requireTurn_2 : decode cX3_requireTurn 2 = .ok (.invokevirtual 88, 3) := by decide +kernel
theorem dX3_requireTurn_5 : decode cX3_requireTurn 5 = .ok (.aload_n 0, 1) := by decide +kernel
theorem dX3_requireTurn_6 : decode cX3_requireTurn 6 = .ok (.iload_n 2, 1) := by decide +kernel
theorem dX3_requireTurn_7 : decode cX3_requireTurn 7 = .ok (.invokevirtual 88, 3) := by decide +kernel
theorem dX3_requireTurn_10 : decode cX3_requireTurn 10 = .ok (.aload_n 0, 1) := by decide +kernel
theorem dX3_requireTurn_11 : decode cX3_requireTurn 11 = .ok (.getfield 12, 3) := by decide +kernel
theorem dX3_requireTurn_14 : decode cX3_requireTurn 14 = .ok (.getfield 255, 3) := by decide +kernel
theorem dX3_requireTurn_17 : decode cX3_requireTurn 17 = .ok (.iload_n 1, 1) := by decide +kernel
theorem dX3_requireTurn_18 : decode cX3_requireTurn 18 = .ok (.iaload, 1) := by decide +kernel
theorem dX3_requireTurn_19 : decode cX3_requireTurn 19 = .ok (.aload_n 0, 1) := by decide +kernel
theorem dX3_requireTurn_20 : decode cX3_requireTurn 20 = .ok (.getfield 12, 3) := by decide +kernel
theorem dX3_requireTurn_23 : decode cX3_requireTurn 23 = .ok (.getfield 258, 3) := by decide +kernel
theorem dX3_requireTurn_26 : decode cX3_requireTurn 26 = .ok (.iload_n 2, 1) := by decide +kernel
theorem dX3_requireTurn_27 : decode cX3_requireTurn 27 = .ok (.iaload, 1) := by decide +kernel
theorem dX3_requireTurn_28 : decode cX3_requireTurn 28 = .ok (.if_icmp .eq 14, 3) := by decide +kernel
theorem dX3_requireTurn_31 : decode cX3_requireTurn 31 = .ok (.new 67, 3) := by decide +kernel
theorem dX3_requireTurn_34 : decode cX3_requireTurn 34 = .ok (.dup, 1) := by decide +kernel
theorem dX3_requireTurn_35 : decode cX3_requireTurn 35 = .ok (.ldc_w 261, 3) := by decide +kernel
theorem dX3_requireTurn_38 : decode cX3_requireTurn 38 = .ok (.invokespecial 71, 3) := by decide +kernel
theorem dX3_requireTurn_41 : decode cX3_requireTurn 41 = .ok (.athrow, 1) := by decide +kernel
theorem dX3_requireTurn_42 : decode cX3_requireTurn 42 = .ok (.return_, 1) := by decide +kernel
theorem dX3_requireWeight_0 : decode cX3_requireWeight 0 = .ok (.iload_n 1, 1) := by decide +kernel
theorem dX3_requireWeight_1 : decode cX3_requireWeight 1 = .ok (.iconst 1, 1) := by decide +kernel
theorem dX3_requireWeight_2 : decode cX3_requireWeight 2 = .ok (.if_icmp .lt 10, 3) := by decide +kernel
theorem dX3_requireWeight_5 : decode cX3_requireWeight 5 = .ok (.iload_n 1, 1) := by decide +kernel
theorem dX3_requireWeight_6 : decode cX3_requireWeight 6 = .ok (.sipush 10000, 3) := by decide +kernel
theorem dX3_requireWeight_9 : decode cX3_requireWeight 9 = .ok (.if_icmp .le 14, 3) := by decide +kernel
theorem dX3_requireWeight_12 : decode cX3_requireWeight 12 = .ok (.new 67, 3) := by decide +kernel
theorem dX3_requireWeight_15 : decode cX3_requireWeight 15 = .ok (.dup, 1) := by decide +kernel
theorem dX3_requireWeight_16 : decode cX3_requireWeight 16 = .ok (.ldc_w 265, 3) := by decide +kernel
theorem dX3_requireWeight_19 : decode cX3_requireWeight 19 = .ok (.invokespecial 71, 3) := by decide +kernel
theorem dX3_requireWeight_22 : decode cX3_requireWeight 22 = .ok (.athrow, 1) := by decide +kernel
theorem dX3_requireWeight_23 : decode cX3_requireWeight 23 = .ok (.return_, 1) := by decide +kernel
theorem dX3_requireHierarchy_0 : decode cX3_requireHierarchy 0 = .ok (.aload_n 0, 1) := by decide +kernel
theorem dX3_requireHierarchy_1 : decode cX3_requireHierarchy 1 = .ok (.getfield 21, 3) := by decide +kernel
theorem dX3_requireHierarchy_4 : decode cX3_requireHierarchy 4 = .ok (.getfield 80, 3) := by decide +kernel
theorem dX3_requireHierarchy_7 : decode cX3_requireHierarchy 7 = .ok (.ifCond .ne 14, 3) := by decide +kernel
theorem dX3_requireHierarchy_10 : decode cX3_requireHierarchy 10 = .ok (.new 56, 3) := by decide +kernel
theorem dX3_requireHierarchy_13 : decode cX3_requireHierarchy 13 = .ok (.dup, 1) := by decide +kernel
theorem dX3_requireHierarchy_14 : decode cX3_requireHierarchy 14 = .ok (.ldc_w 267, 3) := by decide +kernel
theorem dX3_requireHierarchy_17 : decode cX3_requireHierarchy 17 = .ok (.invokespecial 60, 3) := by decide +kernel
theorem dX3_requireHierarchy_20 : decode cX3_requireHierarchy 20 = .ok (.athrow, 1) := by decide +kernel
theorem dX3_requireHierarchy_21 : decode cX3_requireHierarchy 21 = .ok (.return_, 1) := by decide +kernel
theorem dX3_searchFrom_0 : decode cX3_searchFrom 0 = .ok (.aload_n 0, 1) := by decide +kernel
theorem dX3_searchFrom_1 : decode cX3_searchFrom 1 = .ok (.getfield 36, 3) := by decide +kernel
theorem dX3_searchFrom_4 : decode cX3_searchFrom 4 = .ok (.ldc 171, 2) := by decide +kernel
theorem dX3_searchFrom_6 : decode cX3_searchFrom 6 = .ok (.invokestatic 172, 3) := by decide +kernel
theorem dX3_searchFrom_9 : decode cX3_searchFrom 9 = .ok (.aload_n 0, 1) := by decide +kernel
theorem dX3_searchFrom_10 : decode cX3_searchFrom 10 = .ok (.getfield 12, 3) := by decide +kernel
theorem dX3_searchFrom_13 : decode cX3_searchFrom 13 = .ok (.getfield 269, 3) := by decide +kernel
theorem dX3_searchFrom_16 : decode cX3_searchFrom 16 = .ok (.iload_n 1, 1) := by decide +kernel
theorem dX3_searchFrom_17 : decode cX3_searchFrom 17 = .ok (.laload, 1) := by decide +kernel
theorem dX3_searchFrom_18 : decode cX3_searchFrom 18 = .ok (.aload_n 0, 1) := by decide +kernel
theorem dX3_searchFrom_19 : decode cX3_searchFrom 19 = .ok (.getfield 12, 3) := by decide +kernel
theorem dX3_searchFrom_22 : decode cX3_searchFrom 22 = .ok (.getfield 127, 3) := by decide +kernel
theorem dX3_searchFrom_25 : decode cX3_searchFrom 25 = .ok (.land, 1) := by decide +kernel
theorem dX3_searchFrom_26 : decode cX3_searchFrom 26 = .ok (.lstore_n 2, 1) := by decide +kernel
theorem dX3_searchFrom_27 : decode cX3_searchFrom 27 = .ok (.iconst 0, 1) := by decide +kernel
theorem dX3_searchFrom_28 : decode cX3_searchFrom 28 = .ok (.istore 4, 2) := by decide +kernel
theorem dX3_searchFrom_30 : decode cX3_searchFrom 30 = .ok (.iload 4, 2) := by decide +kernel
theorem dX3_searchFrom_32 : decode cX3_searchFrom 32 = .ok (.aload_n 0, 1) := by decide +kernel
theorem dX3_searchFrom_33 : decode cX3_searchFrom 33 = .ok (.getfield 12, 3) := by decide +kernel
theorem dX3_searchFrom_36 : decode cX3_searchFrom 36 = .ok (.getfield 75, 3) := by decide +kernel
theorem dX3_searchFrom_39 : decode cX3_searchFrom 39 = .ok (.if_icmp .ge 34, 3) := by decide +kernel
theorem dX3_searchFrom_42 : decode cX3_searchFrom 42 = .ok (.lload_n 2, 1) := by decide +kernel
theorem dX3_searchFrom_43 : decode cX3_searchFrom 43 = .ok (.iload 4, 2) := by decide +kernel
theorem dX3_searchFrom_45 : decode cX3_searchFrom 45 = .ok (.invokestatic 131, 3) := by decide +kernel
theorem dX3_searchFrom_48 : decode cX3_searchFrom 48 = .ok (.ifCond .eq 19, 3) := by decide +kernel
theorem dX3_searchFrom_51 : decode cX3_searchFrom 51 = .ok (.aload_n 0, 1) := by decide +kernel
theorem dX3_searchFrom_52 : decode cX3_searchFrom 52 = .ok (.getfield 36, 3) := by decide +kernel
theorem dX3_searchFrom_55 : decode cX3_searchFrom 55 = .ok (.iload 4, 2) := by decide +kernel
theorem dX3_searchFrom_57 : decode cX3_searchFrom 57 = .ok (.aload_n 0, 1) := by decide +kernel
theorem dX3_searchFrom_58 : decode cX3_searchFrom 58 = .ok (.getfield 12, 3) := by decide +kernel
theorem dX3_searchFrom_61 : decode cX3_searchFrom 61 = .ok (.iload 4, 2) := by decide +kernel
theorem dX3_searchFrom_63 : decode cX3_searchFrom 63 = .ok (.invokevirtual 198, 3) := by decide +kernel
theorem dX3_searchFrom_66 : decode cX3_searchFrom 66 = .ok (.iastore, 1) := by decide +kernel
theorem dX3_searchFrom_67 : decode cX3_searchFrom 67 = .ok (.iinc 4 1, 3) := by decide +kernel
theorem dX3_searchFrom_70 : decode cX3_searchFrom 70 = .ok (.goto (-40), 3) := by decide +kernel
theorem dX3_searchFrom_73 : decode cX3_searchFrom 73 = .ok (.aload_n 0, 1) := by decide +kernel
theorem dX3_searchFrom_74 : decode cX3_searchFrom 74 = .ok (.invokevirtual 178, 3) := by decide +kernel
theorem dX3_searchFrom_77 : decode cX3_searchFrom 77 = .ok (.aload_n 0, 1) := by decide +kernel
theorem dX3_searchFrom_78 : decode cX3_searchFrom 78 = .ok (.getfield 40, 3) := by decide +kernel
theorem dX3_searchFrom_81 : decode cX3_searchFrom 81 = .ok (.iload_n 1, 1) := by decide +kernel
theorem dX3_searchFrom_82 : decode cX3_searchFrom 82 = .ok (.iconst 0, 1) := by decide +kernel
theorem dX3_searchFrom_83 : decode cX3_searchFrom 83 = .ok (.iastore, 1) := by decide +kernel
theorem dX3_searchFrom_84 : decode cX3_searchFrom 84 = .ok (.return_, 1) := by decide +kernel
theorem dX3_spreadToJunctions_0 : decode cX3_spreadToJunctions 0 = .ok (.aload_n 0, 1) := by decide +kernel
theorem dX3_spreadToJunctions_1 : decode cX3_spreadToJunctions 1 = .ok (.getfield 21, 3) := by decide +kernel
theorem dX3_spreadToJunctions_4 : decode cX3_spreadToJunctions 4 = .ok (.aload_n 0, 1) := by decide +kernel
theorem dX3_spreadToJunctions_5 : decode cX3_spreadToJunctions 5 = .ok (.getfield 36, 3) := by decide +kernel
theorem dX3_spreadToJunctions_8 : decode cX3_spreadToJunctions 8 = .ok (.invokevirtual 272, 3) := by decide +kernel
theorem dX3_spreadToJunctions_11 : decode cX3_spreadToJunctions 11 = .ok (.aload_n 0, 1) := by decide +kernel
theorem dX3_spreadToJunctions_12 : decode cX3_spreadToJunctions 12 = .ok (.getfield 40, 3) := by decide +kernel
theorem dX3_spreadToJunctions_15 : decode cX3_spreadToJunctions 15 = .ok (.ldc 171, 2) := by decide +kernel
theorem dX3_spreadToJunctions_17 : decode cX3_spreadToJunctions 17 = .ok (.invokestatic 172, 3) := by decide +kernel
theorem dX3_spreadToJunctions_20 : decode cX3_spreadToJunctions 20 = .ok (.iconst 0, 1) := by decide +kernel
theorem dX3_spreadToJunctions_21 : decode cX3_spreadToJunctions 21 = .ok (.istore_n 1, 1) := by decide +kernel
theorem dX3_spreadToJunctions_22 : decode cX3_spreadToJunctions 22 = .ok (.iload_n 1, 1) := by decide +kernel
theorem dX3_spreadToJunctions_23 : decode cX3_spreadToJunctions 23 = .ok (.aload_n 0, 1) := by decide +kernel
theorem dX3_spreadToJunctions_24 : decode cX3_spreadToJunctions 24 = .ok (.getfield 12, 3) := by decide +kernel
theorem dX3_spreadToJunctions_27 : decode cX3_spreadToJunctions 27 = .ok (.getfield 75, 3) := by decide +kernel
theorem dX3_spreadToJunctions_30 : decode cX3_spreadToJunctions 30 = .ok (.if_icmp .ge 40, 3) := by decide +kernel
theorem dX3_spreadToJunctions_33 : decode cX3_spreadToJunctions 33 = .ok (.aload_n 0, 1) := by decide +kernel
theorem dX3_spreadToJunctions_34 : decode cX3_spreadToJunctions 34 = .ok (.getfield 12, 3) := by decide +kernel
theorem dX3_spreadToJunctions_37 : decode cX3_spreadToJunctions 37 = .ok (.getfield 255, 3) := by decide +kernel
theorem dX3_spreadToJunctions_40 : decode cX3_spreadToJunctions 40 = .ok (.iload_n 1, 1) := by decide +kernel
theorem dX3_spreadToJunctions_41 : decode cX3_spreadToJunctions 41 = .ok (.iaload, 1) := by decide +kernel
theorem dX3_spreadToJunctions_42 : decode cX3_spreadToJunctions 42 = .ok (.istore_n 2, 1) := by decide +kernel
theorem dX3_spreadToJunctions_43 : decode cX3_spreadToJunctions 43 = .ok (.aload_n 0, 1) := by decide +kernel
theorem dX3_spreadToJunctions_44 : decode cX3_spreadToJunctions 44 = .ok (.getfield 40, 3) := by decide +kernel
theorem dX3_spreadToJunctions_47 : decode cX3_spreadToJunctions 47 = .ok (.iload_n 2, 1) := by decide +kernel
theorem dX3_spreadToJunctions_48 : decode cX3_spreadToJunctions 48 = .ok (.aload_n 0, 1) := by decide +kernel
theorem dX3_spreadToJunctions_49 : decode cX3_spreadToJunctions 49 = .ok (.getfield 40, 3) := by decide +kernel
theorem dX3_spreadToJunctions_52 : decode cX3_spreadToJunctions 52 = .ok (.iload_n 2, 1) := by decide +kernel
theorem dX3_spreadToJunctions_53 : decode cX3_spreadToJunctions 53 = .ok (.iaload, 1) := by decide +kernel
theorem dX3_spreadToJunctions_54 : decode cX3_spreadToJunctions 54 = .ok (.aload_n 0, 1) := by decide +kernel
theorem dX3_spreadToJunctions_55 : decode cX3_spreadToJunctions 55 = .ok (.getfield 36, 3) := by decide +kernel
theorem dX3_spreadToJunctions_58 : decode cX3_spreadToJunctions 58 = .ok (.iload_n 1, 1) := by decide +kernel
theorem dX3_spreadToJunctions_59 : decode cX3_spreadToJunctions 59 = .ok (.iaload, 1) := by decide +kernel
theorem dX3_spreadToJunctions_60 : decode cX3_spreadToJunctions 60 = .ok (.invokestatic 276, 3) := by decide +kernel
theorem dX3_spreadToJunctions_63 : decode cX3_spreadToJunctions 63 = .ok (.iastore, 1) := by decide +kernel
theorem dX3_spreadToJunctions_64 : decode cX3_spreadToJunctions 64 = .ok (.iinc 1 1, 3) := by decide +kernel
theorem dX3_spreadToJunctions_67 : decode cX3_spreadToJunctions 67 = .ok (.goto (-45), 3) := by decide +kernel
theorem dX3_spreadToJunctions_70 : decode cX3_spreadToJunctions 70 = .ok (.return_, 1) := by decide +kernel
theorem dX3_foundCost_0 : decode cX3_foundCost 0 = .ok (.aload_n 0, 1) := by decide +kernel
theorem dX3_foundCost_1 : decode cX3_foundCost 1 = .ok (.getfield 40, 3) := by decide +kernel
theorem dX3_foundCost_4 : decode cX3_foundCost 4 = .ok (.iload_n 1, 1) := by decide +kernel
theorem dX3_foundCost_5 : decode cX3_foundCost 5 = .ok (.iaload, 1) := by decide +kernel
theorem dX3_foundCost_6 : decode cX3_foundCost 6 = .ok (.invokestatic 165, 3) := by decide +kernel
theorem dX3_foundCost_9 : decode cX3_foundCost 9 = .ok (.ireturn, 1) := by decide +kernel
theorem dX3_costBetween_0 : decode cX3_costBetween 0 = .ok (.aload_n 0, 1) := by decide +kernel
theorem dX3_costBetween_1 : decode cX3_costBetween 1 = .ok (.iload_n 1, 1) := by decide +kernel
theorem dX3_costBetween_2 : decode cX3_costBetween 2 = .ok (.invokevirtual 211, 3) := by decide +kernel
theorem dX3_costBetween_5 : decode cX3_costBetween 5 = .ok (.aload_n 0, 1) := by decide +kernel
theorem dX3_costBetween_6 : decode cX3_costBetween 6 = .ok (.iload_n 2, 1) := by decide +kernel
theorem dX3_costBetween_7 : decode cX3_costBetween 7 = .ok (.invokevirtual 181, 3) := by decide +kernel
theorem dX3_costBetween_10 : decode cX3_costBetween 10 = .ok (.ireturn, 1) := by decide +kernel
theorem dX3_costOf_0 : decode cX3_costOf 0 = .ok (.iload_n 0, 1) := by decide +kernel
theorem dX3_costOf_1 : decode cX3_costOf 1 = .ok (.ldc 171, 2) := by decide +kernel
theorem dX3_costOf_3 : decode cX3_costOf 3 = .ok (.if_icmp .lt 7, 3) := by decide +kernel
theorem dX3_costOf_6 : decode cX3_costOf 6 = .ok (.iconst (-1), 1) := by decide +kernel
theorem dX3_costOf_7 : decode cX3_costOf 7 = .ok (.goto 7, 3) := by decide +kernel
theorem dX3_costOf_10 : decode cX3_costOf 10 = .ok (.iload_n 0, 1) := by decide +kernel
theorem dX3_costOf_11 : decode cX3_costOf 11 = .ok (.bipush 7, 2) := by decide +kernel
theorem dX3_costOf_13 : decode cX3_costOf 13 = .ok (.ishr, 1) := by decide +kernel
theorem dX3_costOf_14 : decode cX3_costOf 14 = .ok (.ireturn, 1) := by decide +kernel
theorem dX3_pair_0 : decode cX3_pair 0 = .ok (.iload_n 0, 1) := by decide +kernel
theorem dX3_pair_1 : decode cX3_pair 1 = .ok (.bipush 64, 2) := by decide +kernel
theorem dX3_pair_3 : decode cX3_pair 3 = .ok (.imul, 1) := by decide +kernel
theorem dX3_pair_4 : decode cX3_pair 4 = .ok (.iload_n 1, 1) := by decide +kernel
theorem dX3_pair_5 : decode cX3_pair 5 = .ok (.iadd, 1) := by decide +kernel
theorem dX3_pair_6 : decode cX3_pair 6 = .ok (.ireturn, 1) := by decide +kernel
theorem dX3_only_0 : decode cX3_only 0 = .ok (.lconst 1, 1) := by decide +kernel
theorem dX3_only_1 : decode cX3_only 1 = .ok (.iload_n 0, 1) := by decide +kernel
theorem dX3_only_2 : decode cX3_only 2 = .ok (.lshl, 1) := by decide +kernel
theorem dX3_only_3 : decode cX3_only 3 = .ok (.lreturn, 1) := by decide +kernel
theorem dX3_has_0 : decode cX3_has 0 = .ok (.lload_n 0, 1) := by decide +kernel
theorem dX3_has_1 : decode cX3_has 1 = .ok (.iload_n 2, 1) := by decide +kernel
theorem dX3_has_2 : decode cX3_has 2 = .ok (.lshr, 1) := by decide +kernel
theorem dX3_has_3 : decode cX3_has 3 = .ok (.lconst 1, 1) := by decide +kernel
theorem dX3_has_4 : decode cX3_has 4 = .ok (.land, 1) := by decide +kernel
theorem dX3_has_5 : decode cX3_has 5 = .ok (.lconst 0, 1) := by decide +kernel
theorem dX3_has_6 : decode cX3_has 6 = .ok (.lcmp, 1) := by decide +kernel
theorem dX3_has_7 : decode cX3_has 7 = .ok (.ifCond .eq 7, 3) := by decide +kernel
theorem dX3_has_10 : decode cX3_has 10 = .ok (.iconst 1, 1) := by decide +kernel
theorem dX3_has_11 : decode cX3_has 11 = .ok (.goto 4, 3) := by decide +kernel
theorem dX3_has_14 : decode cX3_has 14 = .ok (.iconst 0, 1) := by decide +kernel
theorem dX3_has_15 : decode cX3_has 15 = .ok (.ireturn, 1) := by decide +kernel
theorem dJ13_bitCount_95d88_0 : decode cJ13_bitCount_95d88 0 = .ok (.lload_n 0, 1) := by decide +kernel
theorem dJ13_bitCount_95d88_1 : decode cJ13_bitCount_95d88 1 = .ok (.lload_n 0, 1) := by decide +kernel
theorem dJ13_bitCount_95d88_2 : decode cJ13_bitCount_95d88 2 = .ok (.iconst 1, 1) := by decide +kernel
theorem dJ13_bitCount_95d88_3 : decode cJ13_bitCount_95d88 3 = .ok (.lushr, 1) := by decide +kernel
theorem dJ13_bitCount_95d88_4 : decode cJ13_bitCount_95d88 4 = .ok (.ldc2_w 314, 3) := by decide +kernel
theorem dJ13_bitCount_95d88_7 : decode cJ13_bitCount_95d88 7 = .ok (.land, 1) := by decide +kernel
theorem dJ13_bitCount_95d88_8 : decode cJ13_bitCount_95d88 8 = .ok (.lsub, 1) := by decide +kernel
theorem dJ13_bitCount_95d88_9 : decode cJ13_bitCount_95d88 9 = .ok (.lstore_n 0, 1) := by decide +kernel
theorem dJ13_bitCount_95d88_10 : decode cJ13_bitCount_95d88 10 = .ok (.lload_n 0, 1) := by decide +kernel
theorem dJ13_bitCount_95d88_11 : decode cJ13_bitCount_95d88 11 = .ok (.ldc2_w 316, 3) := by decide +kernel
theorem dJ13_bitCount_95d88_14 : decode cJ13_bitCount_95d88 14 = .ok (.land, 1) := by decide +kernel
theorem dJ13_bitCount_95d88_15 : decode cJ13_bitCount_95d88 15 = .ok (.lload_n 0, 1) := by decide +kernel
theorem dJ13_bitCount_95d88_16 : decode cJ13_bitCount_95d88 16 = .ok (.iconst 2, 1) := by decide +kernel
theorem dJ13_bitCount_95d88_17 : decode cJ13_bitCount_95d88 17 = .ok (.lushr, 1) := by decide +kernel
theorem dJ13_bitCount_95d88_18 : decode cJ13_bitCount_95d88 18 = .ok (.ldc2_w 316, 3) := by decide +kernel
theorem dJ13_bitCount_95d88_21 : decode cJ13_bitCount_95d88 21 = .ok (.land, 1) := by decide +kernel
theorem dJ13_bitCount_95d88_22 : decode cJ13_bitCount_95d88 22 = .ok (.ladd, 1) := by decide +kernel
theorem dJ13_bitCount_95d88_23 : decode cJ13_bitCount_95d88 23 = .ok (.lstore_n 0, 1) := by decide +kernel
theorem dJ13_bitCount_95d88_24 : decode cJ13_bitCount_95d88 24 = .ok (.lload_n 0, 1) := by decide +kernel
theorem dJ13_bitCount_95d88_25 : decode cJ13_bitCount_95d88 25 = .ok (.lload_n 0, 1) := by decide +kernel
theorem dJ13_bitCount_95d88_26 : decode cJ13_bitCount_95d88 26 = .ok (.iconst 4, 1) := by decide +kernel
theorem dJ13_bitCount_95d88_27 : decode cJ13_bitCount_95d88 27 = .ok (.lushr, 1) := by decide +kernel
theorem dJ13_bitCount_95d88_28 : decode cJ13_bitCount_95d88 28 = .ok (.ladd, 1) := by decide +kernel
theorem dJ13_bitCount_95d88_29 : decode cJ13_bitCount_95d88 29 = .ok (.ldc2_w 318, 3) := by decide +kernel
theorem dJ13_bitCount_95d88_32 : decode cJ13_bitCount_95d88 32 = .ok (.land, 1) := by decide +kernel
theorem dJ13_bitCount_95d88_33 : decode cJ13_bitCount_95d88 33 = .ok (.lstore_n 0, 1) := by decide +kernel
theorem dJ13_bitCount_95d88_34 : decode cJ13_bitCount_95d88 34 = .ok (.lload_n 0, 1) := by decide +kernel
theorem dJ13_bitCount_95d88_35 : decode cJ13_bitCount_95d88 35 = .ok (.lload_n 0, 1) := by decide +kernel
theorem dJ13_bitCount_95d88_36 : decode cJ13_bitCount_95d88 36 = .ok (.bipush 8, 2) := by decide +kernel
theorem dJ13_bitCount_95d88_38 : decode cJ13_bitCount_95d88 38 = .ok (.lushr, 1) := by decide +kernel
theorem dJ13_bitCount_95d88_39 : decode cJ13_bitCount_95d88 39 = .ok (.ladd, 1) := by decide +kernel
theorem dJ13_bitCount_95d88_40 : decode cJ13_bitCount_95d88 40 = .ok (.lstore_n 0, 1) := by decide +kernel
theorem dJ13_bitCount_95d88_41 : decode cJ13_bitCount_95d88 41 = .ok (.lload_n 0, 1) := by decide +kernel
theorem dJ13_bitCount_95d88_42 : decode cJ13_bitCount_95d88 42 = .ok (.lload_n 0, 1) := by decide +kernel
theorem dJ13_bitCount_95d88_43 : decode cJ13_bitCount_95d88 43 = .ok (.bipush 16, 2) := by decide +kernel
theorem dJ13_bitCount_95d88_45 : decode cJ13_bitCount_95d88 45 = .ok (.lushr, 1) := by decide +kernel
theorem dJ13_bitCount_95d88_46 : decode cJ13_bitCount_95d88 46 = .ok (.ladd, 1) := by decide +kernel
theorem dJ13_bitCount_95d88_47 : decode cJ13_bitCount_95d88 47 = .ok (.lstore_n 0, 1) := by decide +kernel
theorem dJ13_bitCount_95d88_48 : decode cJ13_bitCount_95d88 48 = .ok (.lload_n 0, 1) := by decide +kernel
theorem dJ13_bitCount_95d88_49 : decode cJ13_bitCount_95d88 49 = .ok (.lload_n 0, 1) := by decide +kernel
theorem dJ13_bitCount_95d88_50 : decode cJ13_bitCount_95d88 50 = .ok (.bipush 32, 2) := by decide +kernel
theorem dJ13_bitCount_95d88_52 : decode cJ13_bitCount_95d88 52 = .ok (.lushr, 1) := by decide +kernel
theorem dJ13_bitCount_95d88_53 : decode cJ13_bitCount_95d88 53 = .ok (.ladd, 1) := by decide +kernel
theorem dJ13_bitCount_95d88_54 : decode cJ13_bitCount_95d88 54 = .ok (.lstore_n 0, 1) := by decide +kernel
theorem dJ13_bitCount_95d88_55 : decode cJ13_bitCount_95d88 55 = .ok (.lload_n 0, 1) := by decide +kernel
theorem dJ13_bitCount_95d88_56 : decode cJ13_bitCount_95d88 56 = .ok (.l2i, 1) := by decide +kernel
theorem dJ13_bitCount_95d88_57 : decode cJ13_bitCount_95d88 57 = .ok (.bipush 127, 2) := by decide +kernel
theorem dJ13_bitCount_95d88_59 : decode cJ13_bitCount_95d88 59 = .ok (.iand, 1) := by decide +kernel
theorem dJ13_bitCount_95d88_60 : decode cJ13_bitCount_95d88 60 = .ok (.ireturn, 1) := by decide +kernel
theorem dJ9_min_7cf53_0 : decode cJ9_min_7cf53 0 = .ok (.iload_n 0, 1) := by decide +kernel
theorem dJ9_min_7cf53_1 : decode cJ9_min_7cf53 1 = .ok (.iload_n 1, 1) := by decide +kernel
theorem dJ9_min_7cf53_2 : decode cJ9_min_7cf53 2 = .ok (.if_icmp .gt 7, 3) := by decide +kernel
theorem dJ9_min_7cf53_5 : decode cJ9_min_7cf53 5 = .ok (.iload_n 0, 1) := by decide +kernel
theorem dJ9_min_7cf53_6 : decode cJ9_min_7cf53 6 = .ok (.goto 4, 3) := by decide +kernel
theorem dJ9_min_7cf53_9 : decode cJ9_min_7cf53 9 = .ok (.iload_n 1, 1) := by decide +kernel
theorem dJ9_min_7cf53_10 : decode cJ9_min_7cf53 10 = .ok (.ireturn, 1) := by decide +kernel
theorem dJ7_fill_53178_0 : decode cJ7_fill_53178 0 = .ok (.iconst 0, 1) := by decide +kernel
theorem dJ7_fill_53178_1 : decode cJ7_fill_53178 1 = .ok (.istore_n 2, 1) := by decide +kernel
theorem dJ7_fill_53178_2 : decode cJ7_fill_53178 2 = .ok (.aload_n 0, 1) := by decide +kernel
theorem dJ7_fill_53178_3 : decode cJ7_fill_53178 3 = .ok (.arraylength, 1) := by decide +kernel
theorem dJ7_fill_53178_4 : decode cJ7_fill_53178 4 = .ok (.istore_n 3, 1) := by decide +kernel
theorem dJ7_fill_53178_5 : decode cJ7_fill_53178 5 = .ok (.iload_n 2, 1) := by decide +kernel
theorem dJ7_fill_53178_6 : decode cJ7_fill_53178 6 = .ok (.iload_n 3, 1) := by decide +kernel
theorem dJ7_fill_53178_7 : decode cJ7_fill_53178 7 = .ok (.if_icmp .ge 13, 3) := by decide +kernel
theorem dJ7_fill_53178_10 : decode cJ7_fill_53178 10 = .ok (.aload_n 0, 1) := by decide +kernel
theorem dJ7_fill_53178_11 : decode cJ7_fill_53178 11 = .ok (.iload_n 2, 1) := by decide +kernel
theorem dJ7_fill_53178_12 : decode cJ7_fill_53178 12 = .ok (.iload_n 1, 1) := by decide +kernel
theorem dJ7_fill_53178_13 : decode cJ7_fill_53178 13 = .ok (.iastore, 1) := by decide +kernel
theorem dJ7_fill_53178_14 : decode cJ7_fill_53178 14 = .ok (.iinc 2 1, 3) := by decide +kernel
theorem dJ7_fill_53178_17 : decode cJ7_fill_53178 17 = .ok (.goto (-12), 3) := by decide +kernel
theorem dJ7_fill_53178_20 : decode cJ7_fill_53178 20 = .ok (.return_, 1) := by decide +kernel
theorem dL_below_0 : decode cL_below 0 = .ok (.iload_n 0, 1) := by decide +kernel
theorem dL_below_1 : decode cL_below 1 = .ok (.ldc 7, 2) := by decide +kernel
theorem dL_below_3 : decode cL_below 3 = .ok (.iand, 1) := by decide +kernel
theorem dL_below_4 : decode cL_below 4 = .ok (.iload_n 1, 1) := by decide +kernel
theorem dL_below_5 : decode cL_below 5 = .ok (.irem, 1) := by decide +kernel
theorem dL_below_6 : decode cL_below 6 = .ok (.ireturn, 1) := by decide +kernel
theorem dL_cell_0 : decode cL_cell 0 = .ok (.iload_n 1, 1) := by decide +kernel
theorem dL_cell_1 : decode cL_cell 1 = .ok (.aload_n 0, 1) := by decide +kernel
theorem dL_cell_2 : decode cL_cell 2 = .ok (.arraylength, 1) := by decide +kernel
theorem dL_cell_3 : decode cL_cell 3 = .ok (.if_icmp .ge 9, 3) := by decide +kernel
theorem dL_cell_6 : decode cL_cell 6 = .ok (.aload_n 0, 1) := by decide +kernel
theorem dL_cell_7 : decode cL_cell 7 = .ok (.iload_n 1, 1) := by decide +kernel
theorem dL_cell_8 : decode cL_cell 8 = .ok (.iaload, 1) := by decide +kernel
theorem dL_cell_9 : decode cL_cell 9 = .ok (.goto 9, 3) := by decide +kernel
theorem dL_cell_12 : decode cL_cell 12 = .ok (.ldc 8, 2) := by decide +kernel
theorem dL_cell_14 : decode cL_cell 14 = .ok (.iload_n 1, 1) := by decide +kernel
theorem dL_cell_15 : decode cL_cell 15 = .ok (.iconst 3, 1) := by decide +kernel
theorem dL_cell_16 : decode cL_cell 16 = .ok (.iadd, 1) := by decide +kernel
theorem dL_cell_17 : decode cL_cell 17 = .ok (.imul, 1) := by decide +kernel
theorem dL_cell_18 : decode cL_cell 18 = .ok (.ireturn, 1) := by decide +kernel
theorem dL_build_0 : decode cL_build 0 = .ok (.iconst 0, 1) := by decide +kernel
theorem dL_build_1 : decode cL_build 1 = .ok (.istore 5, 2) := by decide +kernel
theorem dL_build_3 : decode cL_build 3 = .ok (.iload 5, 2) := by decide +kernel
theorem dL_build_5 : decode cL_build 5 = .ok (.iconst 5, 1) := by decide +kernel
theorem dL_build_6 : decode cL_build 6 = .ok (.if_icmp .ge 20, 3) := by decide +kernel
theorem dL_build_9 : decode cL_build 9 = .ok (.aload_n 0, 1) := by decide +kernel
theorem dL_build_10 : decode cL_build 10 = .ok (.invokevirtual 9, 3) := by decide +kernel
theorem dL_build_13 : decode cL_build 13 = .ok (.iload 5, 2) := by decide +kernel
theorem dL_build_15 : decode cL_build 15 = .ok (.if_icmp .eq 5, 3) := by decide +kernel
theorem dL_build_18 : decode cL_build 18 = .ok (.iconst 0, 1) := by decide +kernel
theorem dL_build_19 : decode cL_build 19 = .ok (.ireturn, 1) := by decide +kernel
theorem dL_build_20 : decode cL_build 20 = .ok (.iinc 5 1, 3) := by decide +kernel
theorem dL_build_23 : decode cL_build 23 = .ok (.goto (-20), 3) := by decide +kernel
theorem dL_build_26 : decode cL_build 26 = .ok (.iconst 0, 1) := by decide +kernel
theorem dL_build_27 : decode cL_build 27 = .ok (.istore 5, 2) := by decide +kernel
theorem dL_build_29 : decode cL_build 29 = .ok (.iload 5, 2) := by decide +kernel
theorem dL_build_31 : decode cL_build 31 = .ok (.bipush 9, 2) := by decide +kernel
theorem dL_build_33 : decode cL_build 33 = .ok (.if_icmp .ge 115, 3) := by decide +kernel
theorem dL_build_36 : decode cL_build 36 = .ok (.aload_n 1, 1) := by decide +kernel
theorem dL_build_37 : decode cL_build 37 = .ok (.iload 5, 2) := by decide +kernel
theorem dL_build_39 : decode cL_build 39 = .ok (.invokestatic 15, 3) := by decide +kernel
theorem dL_build_42 : decode cL_build 42 = .ok (.istore 6, 2) := by decide +kernel
theorem dL_build_44 : decode cL_build 44 = .ok (.aload_n 2, 1) := by decide +kernel
theorem dL_build_45 : decode cL_build 45 = .ok (.iload 5, 2) := by decide +kernel
theorem dL_build_47 : decode cL_build 47 = .ok (.iload 5, 2) := by decide +kernel
theorem dL_build_49 : decode cL_build 49 = .ok (.iconst 5, 1) := by decide +kernel
theorem dL_build_50 : decode cL_build 50 = .ok (.if_icmp .ge 8, 3) := by decide +kernel
theorem dL_build_53 : decode cL_build 53 = .ok (.iload 5, 2) := by decide +kernel
theorem dL_build_55 : decode cL_build 55 = .ok (.goto 9, 3) := by decide +kernel
theorem dL_build_58 : decode cL_build 58 = .ok (.iload 6, 2) := by decide +kernel
theorem dL_build_60 : decode cL_build 60 = .ok (.iconst 5, 1) := by decide +kernel
theorem dL_build_61 : decode cL_build 61 = .ok (.invokestatic 21, 3) := by decide +kernel
theorem dL_build_64 : decode cL_build 64 = .ok (.iastore, 1) := by decide +kernel
theorem dL_build_65 : decode cL_build 65 = .ok (.aload_n 3, 1) := by decide +kernel
theorem dL_build_66 : decode cL_build 66 = .ok (.iload 5, 2) := by decide +kernel
theorem dL_build_68 : decode cL_build 68 = .ok (.iload 5, 2) := by decide +kernel
theorem dL_build_70 : decode cL_build 70 = .ok (.iconst 5, 1) := by decide +kernel
theorem dL_build_71 : decode cL_build 71 = .ok (.if_icmp .ge 12, 3) := by decide +kernel
theorem dL_build_74 : decode cL_build 74 = .ok (.iload 5, 2) := by decide +kernel
theorem dL_build_76 : decode cL_build 76 = .ok (.iconst 1, 1) := by decide +kernel
theorem dL_build_77 : decode cL_build 77 = .ok (.iadd, 1) := by decide +kernel
theorem dL_build_78 : decode cL_build 78 = .ok (.iconst 5, 1) := by decide +kernel
theorem dL_build_79 : decode cL_build 79 = .ok (.irem, 1) := by decide +kernel
theorem dL_build_80 : decode cL_build 80 = .ok (.goto 20, 3) := by decide +kernel
theorem dL_build_83 : decode cL_build 83 = .ok (.aload_n 2, 1) := by decide +kernel
theorem dL_build_84 : decode cL_build 84 = .ok (.iload 5, 2) := by decide +kernel
theorem dL_build_86 : decode cL_build 86 = .ok (.iaload, 1) := by decide +kernel
theorem dL_build_87 : decode cL_build 87 = .ok (.iconst 1, 1) := by decide +kernel
theorem dL_build_88 : decode cL_build 88 = .ok (.iadd, 1) := by decide +kernel
theorem dL_build_89 : decode cL_build 89 = .ok (.iload 6, 2) := by decide +kernel
theorem dL_build_91 : decode cL_build 91 = .ok (.iconst 4, 1) := by decide +kernel
theorem dL_build_92 : decode cL_build 92 = .ok (.ishr, 1) := by decide +kernel
theorem dL_build_93 : decode cL_build 93 = .ok (.iconst 4, 1) := by decide +kernel
theorem dL_build_94 : decode cL_build 94 = .ok (.invokestatic 21, 3) := by decide +kernel
theorem dL_build_97 : decode cL_build 97 = .ok (.iadd, 1) := by decide +kernel
theorem dL_build_98 : decode cL_build 98 = .ok (.iconst 5, 1) := by decide +kernel
theorem dL_build_99 : decode cL_build 99 = .ok (.irem, 1) := by decide +kernel
theorem dL_build_100 : decode cL_build 100 = .ok (.iastore, 1) := by decide +kernel
theorem dL_build_101 : decode cL_build 101 = .ok (.aload 4, 2) := by decide +kernel
theorem dL_build_103 : decode cL_build 103 = .ok (.iload 5, 2) := by decide +kernel
theorem dL_build_105 : decode cL_build 105 = .ok (.iconst 1, 1) := by decide +kernel
theorem dL_build_106 : decode cL_build 106 = .ok (.iload 6, 2) := by decide +kernel
theorem dL_build_108 : decode cL_build 108 = .ok (.bipush 8, 2) := by decide +kernel
theorem dL_build_110 : decode cL_build 110 = .ok (.ishr, 1) := by decide +kernel
theorem dL_build_111 : decode cL_build 111 = .ok (.bipush 6, 2) := by decide +kernel
theorem dL_build_113 : decode cL_build 113 = .ok (.invokestatic 21, 3) := by decide +kernel
theorem dL_build_116 : decode cL_build 116 = .ok (.iadd, 1) := by decide +kernel
theorem dL_build_117 : decode cL_build 117 = .ok (.iastore, 1) := by decide +kernel
theorem dL_build_118 : decode cL_build 118 = .ok (.aload_n 0, 1) := by decide +kernel
theorem dL_build_119 : decode cL_build 119 = .ok (.aload_n 2, 1) := by decide +kernel
theorem dL_build_120 : decode cL_build 120 = .ok (.iload 5, 2) := by decide +kernel
theorem dL_build_122 : decode cL_build 122 = .ok (.iaload, 1) := by decide +kernel
theorem dL_build_123 : decode cL_build 123 = .ok (.aload_n 3, 1) := by decide +kernel
theorem dL_build_124 : decode cL_build 124 = .ok (.iload 5, 2) := by decide +kernel
theorem dL_build_126 : decode cL_build 126 = .ok (.iaload, 1) := by decide +kernel
theorem dL_build_127 : decode cL_build 127 = .ok (.aload 4, 2) := by decide +kernel
theorem dL_build_129 : decode cL_build 129 = .ok (.iload 5, 2) := by decide +kernel
theorem dL_build_131 : decode cL_build 131 = .ok (.iaload, 1) := by decide +kernel
theorem dL_build_132 : decode cL_build 132 = .ok (.invokevirtual 25, 3) := by decide +kernel
theorem dL_build_135 : decode cL_build 135 = .ok (.iload 5, 2) := by decide +kernel
theorem dL_build_137 : decode cL_build 137 = .ok (.if_icmp .eq 5, 3) := by decide +kernel
theorem dL_build_140 : decode cL_build 140 = .ok (.iconst 0, 1) := by decide +kernel
theorem dL_build_141 : decode cL_build 141 = .ok (.ireturn, 1) := by decide +kernel
theorem dL_build_142 : decode cL_build 142 = .ok (.iinc 5 1, 3) := by decide +kernel
theorem dL_build_145 : decode cL_build 145 = .ok (.goto (-116), 3) := by decide +kernel
theorem dL_build_148 : decode cL_build 148 = .ok (.iconst 1, 1) := by decide +kernel
theorem dL_build_149 : decode cL_build 149 = .ok (.ireturn, 1) := by decide +kernel
theorem dL_penalty_0 : decode cL_penalty 0 = .ok (.aload_n 2, 1) := by decide +kernel
theorem dL_penalty_1 : decode cL_penalty 1 = .ok (.bipush 9, 2) := by decide +kernel
theorem dL_penalty_3 : decode cL_penalty 3 = .ok (.iload 4, 2) := by decide +kernel
theorem dL_penalty_5 : decode cL_penalty 5 = .ok (.imul, 1) := by decide +kernel
theorem dL_penalty_6 : decode cL_penalty 6 = .ok (.iload 5, 2) := by decide +kernel
theorem dL_penalty_8 : decode cL_penalty 8 = .ok (.iadd, 1) := by decide +kernel
theorem dL_penalty_9 : decode cL_penalty 9 = .ok (.iaload, 1) := by decide +kernel
theorem dL_penalty_10 : decode cL_penalty 10 = .ok (.istore 6, 2) := by decide +kernel
theorem dL_penalty_12 : decode cL_penalty 12 = .ok (.iload 6, 2) := by decide +kernel
theorem dL_penalty_14 : decode cL_penalty 14 = .ok (.bipush (-2), 2) := by decide +kernel
theorem dL_penalty_16 : decode cL_penalty 16 = .ok (.if_icmp .eq 8, 3) := by decide +kernel
theorem dL_penalty_19 : decode cL_penalty 19 = .ok (.iload 6, 2) := by decide +kernel
theorem dL_penalty_21 : decode cL_penalty 21 = .ok (.goto 19, 3) := by decide +kernel
theorem dL_penalty_24 : decode cL_penalty 24 = .ok (.aload_n 1, 1) := by decide +kernel
theorem dL_penalty_25 : decode cL_penalty 25 = .ok (.iload 5, 2) := by decide +kernel
theorem dL_penalty_27 : decode cL_penalty 27 = .ok (.iaload, 1) := by decide +kernel
theorem dL_penalty_28 : decode cL_penalty 28 = .ok (.aload_n 0, 1) := by decide +kernel
theorem dL_penalty_29 : decode cL_penalty 29 = .ok (.iload 4, 2) := by decide +kernel
theorem dL_penalty_31 : decode cL_penalty 31 = .ok (.iaload, 1) := by decide +kernel
theorem dL_penalty_32 : decode cL_penalty 32 = .ok (.if_icmp .ne 7, 3) := by decide +kernel
theorem dL_penalty_35 : decode cL_penalty 35 = .ok (.iload_n 3, 1) := by decide +kernel
theorem dL_penalty_36 : decode cL_penalty 36 = .ok (.goto 4, 3) := by decide +kernel
theorem dL_penalty_39 : decode cL_penalty 39 = .ok (.iconst 0, 1) := by decide +kernel
theorem dL_penalty_40 : decode cL_penalty 40 = .ok (.ireturn, 1) := by decide +kernel
theorem dL_find_0 : decode cL_find 0 = .ok (.iconst 0, 1) := by decide +kernel
theorem dL_find_1 : decode cL_find 1 = .ok (.istore 8, 2) := by decide +kernel
theorem dL_find_3 : decode cL_find 3 = .ok (.iload 8, 2) := by decide +kernel
theorem dL_find_5 : decode cL_find 5 = .ok (.bipush 9, 2) := by decide +kernel
theorem dL_find_7 : decode cL_find 7 = .ok (.if_icmp .ge 39, 3) := by decide +kernel
theorem dL_find_10 : decode cL_find 10 = .ok (.aload 7, 2) := by decide +kernel
theorem dL_find_12 : decode cL_find 12 = .ok (.iload 8, 2) := by decide +kernel
theorem dL_find_14 : decode cL_find 14 = .ok (.aload_n 3, 1) := by decide +kernel
theorem dL_find_15 : decode cL_find 15 = .ok (.iload 8, 2) := by decide +kernel
theorem dL_find_17 : decode cL_find 17 = .ok (.baload, 1) := by decide +kernel
theorem dL_find_18 : decode cL_find 18 = .ok (.ifCond .eq 19, 3) := by decide +kernel
theorem dL_find_21 : decode cL_find 21 = .ok (.aload_n 1, 1) := by decide +kernel
theorem dL_find_22 : decode cL_find 22 = .ok (.iload 8, 2) := by decide +kernel
theorem dL_find_24 : decode cL_find 24 = .ok (.iaload, 1) := by decide +kernel
theorem dL_find_25 : decode cL_find 25 = .ok (.iload 6, 2) := by decide +kernel
theorem dL_find_27 : decode cL_find 27 = .ok (.if_icmp .ne 10, 3) := by decide +kernel
theorem dL_find_30 : decode cL_find 30 = .ok (.aload_n 2, 1) := by decide +kernel
theorem dL_find_31 : decode cL_find 31 = .ok (.iload 8, 2) := by decide +kernel
theorem dL_find_33 : decode cL_find 33 = .ok (.iaload, 1) := by decide +kernel
theorem dL_find_34 : decode cL_find 34 = .ok (.goto 5, 3) := by decide +kernel
theorem dL_find_37 : decode cL_find 37 = .ok (.ldc 29, 2) := by decide +kernel
theorem dL_find_39 : decode cL_find 39 = .ok (.iastore, 1) := by decide +kernel
theorem dL_find_40 : decode cL_find 40 = .ok (.iinc 8 1, 3) := by decide +kernel
theorem dL_find_43 : decode cL_find 43 = .ok (.goto (-40), 3) := by decide +kernel
theorem dL_find_46 : decode cL_find 46 = .ok (.iconst 0, 1) := by decide +kernel
theorem dL_find_47 : decode cL_find 47 = .ok (.istore 8, 2) := by decide +kernel
theorem dL_find_49 : decode cL_find 49 = .ok (.iload 8, 2) := by decide +kernel
theorem dL_find_51 : decode cL_find 51 = .ok (.bipush 9, 2) := by decide +kernel
theorem dL_find_53 : decode cL_find 53 = .ok (.if_icmp .ge 115, 3) := by decide +kernel
theorem dL_find_56 : decode cL_find 56 = .ok (.iconst 0, 1) := by decide +kernel
theorem dL_find_57 : decode cL_find 57 = .ok (.istore 9, 2) := by decide +kernel
theorem dL_find_59 : decode cL_find 59 = .ok (.iload 9, 2) := by decide +kernel
theorem dL_find_61 : decode cL_find 61 = .ok (.bipush 9, 2) := by decide +kernel
theorem dL_find_63 : decode cL_find 63 = .ok (.if_icmp .ge 99, 3) := by decide +kernel
theorem dL_find_66 : decode cL_find 66 = .ok (.iconst 0, 1) := by decide +kernel
theorem dL_find_67 : decode cL_find 67 = .ok (.istore 10, 2) := by decide +kernel
theorem dL_find_69 : decode cL_find 69 = .ok (.iload 10, 2) := by decide +kernel
theorem dL_find_71 : decode cL_find 71 = .ok (.bipush 9, 2) := by decide +kernel
theorem dL_find_73 : decode cL_find 73 = .ok (.if_icmp .ge 83, 3) := by decide +kernel
theorem dL_find_76 : decode cL_find 76 = .ok (.aload_n 3, 1) := by decide +kernel
theorem dL_find_77 : decode cL_find 77 = .ok (.iload 9, 2) := by decide +kernel
theorem dL_find_79 : decode cL_find 79 = .ok (.baload, 1) := by decide +kernel
theorem dL_find_80 : decode cL_find 80 = .ok (.ifCond .eq 70, 3) := by decide +kernel
theorem dL_find_83 : decode cL_find 83 = .ok (.aload_n 1, 1) := by decide +kernel
theorem dL_find_84 : decode cL_find 84 = .ok (.iload 9, 2) := by decide +kernel
theorem dL_find_86 : decode cL_find 86 = .ok (.iaload, 1) := by decide +kernel
theorem dL_find_87 : decode cL_find 87 = .ok (.aload_n 0, 1) := by decide +kernel
theorem dL_find_88 : decode cL_find 88 = .ok (.iload 10, 2) := by decide +kernel
theorem dL_find_90 : decode cL_find 90 = .ok (.iaload, 1) := by decide +kernel
theorem dL_find_91 : decode cL_find 91 = .ok (.if_icmp .ne 59, 3) := by decide +kernel
theorem dL_find_94 : decode cL_find 94 = .ok (.aload_n 0, 1) := by decide +kernel
theorem dL_find_95 : decode cL_find 95 = .ok (.aload_n 1, 1) := by decide +kernel
theorem dL_find_96 : decode cL_find 96 = .ok (.aload 4, 2) := by decide +kernel
theorem dL_find_98 : decode cL_find 98 = .ok (.iload 5, 2) := by decide +kernel
theorem dL_find_100 : decode cL_find 100 = .ok (.iload 9, 2) := by decide +kernel
theorem dL_find_102 : decode cL_find 102 = .ok (.iload 10, 2) := by decide +kernel
theorem dL_find_104 : decode cL_find 104 = .ok (.invokestatic 30, 3) := by decide +kernel
theorem dL_find_107 : decode cL_find 107 = .ok (.ifCond .ge 6, 3) := by decide +kernel
theorem dL_find_110 : decode cL_find 110 = .ok (.goto 40, 3) := by decide +kernel
theorem dL_find_113 : decode cL_find 113 = .ok (.aload 7, 2) := by decide +kernel
theorem dL_find_115 : decode cL_find 115 = .ok (.iload 9, 2) := by decide +kernel
theorem dL_find_117 : decode cL_find 117 = .ok (.aload 7, 2) := by decide +kernel
theorem dL_find_119 : decode cL_find 119 = .ok (.iload 9, 2) := by decide +kernel
theorem dL_find_121 : decode cL_find 121 = .ok (.iaload, 1) := by decide +kernel
theorem dL_find_122 : decode cL_find 122 = .ok (.aload_n 2, 1) := by decide +kernel
theorem dL_find_123 : decode cL_find 123 = .ok (.iload 9, 2) := by decide +kernel
theorem dL_find_125 : decode cL_find 125 = .ok (.iaload, 1) := by decide +kernel
theorem dL_find_126 : decode cL_find 126 = .ok (.aload_n 0, 1) := by decide +kernel
theorem dL_find_127 : decode cL_find 127 = .ok (.aload_n 1, 1) := by decide +kernel
theorem dL_find_128 : decode cL_find 128 = .ok (.aload 4, 2) := by decide +kernel
theorem dL_find_130 : decode cL_find 130 = .ok (.iload 5, 2) := by decide +kernel
theorem dL_find_132 : decode cL_find 132 = .ok (.iload 9, 2) := by decide +kernel
theorem dL_find_134 : decode cL_find 134 = .ok (.iload 10, 2) := by decide +kernel
theorem dL_find_136 : decode cL_find 136 = .ok (.invokestatic 30, 3) := by decide +kernel
theorem dL_find_139 : decode cL_find 139 = .ok (.iadd, 1) := by decide +kernel
theorem dL_find_140 : decode cL_find 140 = .ok (.aload 7, 2) := by decide +kernel
theorem dL_find_142 : decode cL_find 142 = .ok (.iload 10, 2) := by decide +kernel
theorem dL_find_144 : decode cL_find 144 = .ok (.iaload, 1) := by decide +kernel
theorem dL_find_145 : decode cL_find 145 = .ok (.iadd, 1) := by decide +kernel
theorem dL_find_146 : decode cL_find 146 = .ok (.invokestatic 34, 3) := by decide +kernel
theorem dL_find_149 : decode cL_find 149 = .ok (.iastore, 1) := by decide +kernel
theorem dL_find_150 : decode cL_find 150 = .ok (.iinc 10 1, 3) := by decide +kernel
theorem dL_find_153 : decode cL_find 153 = .ok (.goto (-84), 3) := by decide +kernel
theorem dL_find_156 : decode cL_find 156 = .ok (.iinc 9 1, 3) := by decide +kernel
theorem dL_find_159 : decode cL_find 159 = .ok (.goto (-100), 3) := by decide +kernel
theorem dL_find_162 : decode cL_find 162 = .ok (.iinc 8 1, 3) := by decide +kernel
theorem dL_find_165 : decode cL_find 165 = .ok (.goto (-116), 3) := by decide +kernel
theorem dL_find_168 : decode cL_find 168 = .ok (.return_, 1) := by decide +kernel
theorem dL_distance_0 : decode cL_distance 0 = .ok (.iload_n 2, 1) := by decide +kernel
theorem dL_distance_1 : decode cL_distance 1 = .ok (.iload_n 3, 1) := by decide +kernel
theorem dL_distance_2 : decode cL_distance 2 = .ok (.if_icmp .ne 7, 3) := by decide +kernel
theorem dL_distance_5 : decode cL_distance 5 = .ok (.iconst 0, 1) := by decide +kernel
theorem dL_distance_6 : decode cL_distance 6 = .ok (.goto 5, 3) := by decide +kernel
theorem dL_distance_9 : decode cL_distance 9 = .ok (.ldc 29, 2) := by decide +kernel
theorem dL_distance_11 : decode cL_distance 11 = .ok (.istore 4, 2) := by decide +kernel
theorem dL_distance_13 : decode cL_distance 13 = .ok (.iconst 0, 1) := by decide +kernel
theorem dL_distance_14 : decode cL_distance 14 = .ok (.istore 5, 2) := by decide +kernel
theorem dL_distance_16 : decode cL_distance 16 = .ok (.iload 5, 2) := by decide +kernel
theorem dL_distance_18 : decode cL_distance 18 = .ok (.bipush 9, 2) := by decide +kernel
theorem dL_distance_20 : decode cL_distance 20 = .ok (.if_icmp .ge 28, 3) := by decide +kernel
theorem dL_distance_23 : decode cL_distance 23 = .ok (.aload_n 0, 1) := by decide +kernel
theorem dL_distance_24 : decode cL_distance 24 = .ok (.iload 5, 2) := by decide +kernel
theorem dL_distance_26 : decode cL_distance 26 = .ok (.iaload, 1) := by decide +kernel
theorem dL_distance_27 : decode cL_distance 27 = .ok (.iload_n 2, 1) := by decide +kernel
theorem dL_distance_28 : decode cL_distance 28 = .ok (.if_icmp .ne 14, 3) := by decide +kernel
theorem dL_distance_31 : decode cL_distance 31 = .ok (.iload 4, 2) := by decide +kernel
theorem dL_distance_33 : decode cL_distance 33 = .ok (.aload_n 1, 1) := by decide +kernel
theorem dL_distance_34 : decode cL_distance 34 = .ok (.iload 5, 2) := by decide +kernel
theorem dL_distance_36 : decode cL_distance 36 = .ok (.iaload, 1) := by decide +kernel
theorem dL_distance_37 : decode cL_distance 37 = .ok (.invokestatic 34, 3) := by decide +kernel
theorem dL_distance_40 : decode cL_distance 40 = .ok (.istore 4, 2) := by decide +kernel
theorem dL_distance_42 : decode cL_distance 42 = .ok (.iinc 5 1, 3) := by decide +kernel
theorem dL_distance_45 : decode cL_distance 45 = .ok (.goto (-29), 3) := by decide +kernel
theorem dL_distance_48 : decode cL_distance 48 = .ok (.iload 4, 2) := by decide +kernel
theorem dL_distance_50 : decode cL_distance 50 = .ok (.ldc 29, 2) := by decide +kernel
theorem dL_distance_52 : decode cL_distance 52 = .ok (.if_icmp .lt 7, 3) := by decide +kernel
theorem dL_distance_55 : decode cL_distance 55 = .ok (.iconst (-1), 1) := by decide +kernel
theorem dL_distance_56 : decode cL_distance 56 = .ok (.goto 5, 3) := by decide +kernel
theorem dL_distance_59 : decode cL_distance 59 = .ok (.iload 4, 2) := by decide +kernel
theorem dL_distance_61 : decode cL_distance 61 = .ok (.ireturn, 1) := by decide +kernel
theorem dL_change_0 : decode cL_change 0 = .ok (.iload_n 1, 1) := by decide +kernel
theorem dL_change_1 : decode cL_change 1 = .ok (.iconst 3, 1) := by decide +kernel
theorem dL_change_2 : decode cL_change 2 = .ok (.ishr, 1) := by decide +kernel
theorem dL_change_3 : decode cL_change 3 = .ok (.bipush 9, 2) := by decide +kernel
theorem dL_change_5 : decode cL_change 5 = .ok (.invokestatic 21, 3) := by decide +kernel
theorem dL_change_8 : decode cL_change 8 = .ok (.istore 8, 2) := by decide +kernel
theorem dL_change_10 : decode cL_change 10 = .ok (.iload_n 1, 1) := by decide +kernel
theorem dL_change_11 : decode cL_change 11 = .ok (.bipush 10, 2) := by decide +kernel
theorem dL_change_13 : decode cL_change 13 = .ok (.ishr, 1) := by decide +kernel
theorem dL_change_14 : decode cL_change 14 = .ok (.bipush 9, 2) := by decide +kernel
theorem dL_change_16 : decode cL_change 16 = .ok (.invokestatic 21, 3) := by decide +kernel
theorem dL_change_19 : decode cL_change 19 = .ok (.istore 9, 2) := by decide +kernel
theorem dL_change_21 : decode cL_change 21 = .ok (.iload_n 1, 1) := by decide +kernel
theorem dL_change_22 : decode cL_change 22 = .ok (.bipush 16, 2) := by decide +kernel
theorem dL_change_24 : decode cL_change 24 = .ok (.ishr, 1) := by decide +kernel
theorem dL_change_25 : decode cL_change 25 = .ok (.bipush 8, 2) := by decide +kernel
theorem dL_change_27 : decode cL_change 27 = .ok (.invokestatic 21, 3) := by decide +kernel
theorem dL_change_30 : decode cL_change 30 = .ok (.istore 10, 2) := by decide +kernel
theorem dL_change_32 : decode cL_change 32 = .ok (.iload_n 1, 1) := by decide +kernel
theorem dL_change_33 : decode cL_change 33 = .ok (.bipush 7, 2) := by decide +kernel
theorem dL_change_35 : decode cL_change 35 = .ok (.iand, 1) := by decide +kernel
theorem dL_change_36 : decode cL_change 36 = .ok (.iconst 3, 1) := by decide +kernel
theorem dL_change_37 : decode cL_change 37 = .ok (.if_icmp .ge 23, 3) := by decide +kernel
theorem dL_change_40 : decode cL_change 40 = .ok (.aload 4, 2) := by decide +kernel
theorem dL_change_42 : decode cL_change 42 = .ok (.iload 8, 2) := by decide +kernel
theorem dL_change_44 : decode cL_change 44 = .ok (.iconst 1, 1) := by decide +kernel
theorem dL_change_45 : decode cL_change 45 = .ok (.iload 10, 2) := by decide +kernel
theorem dL_change_47 : decode cL_change 47 = .ok (.iadd, 1) := by decide +kernel
theorem dL_change_48 : decode cL_change 48 = .ok (.iastore, 1) := by decide +kernel
theorem dL_change_49 : decode cL_change 49 = .ok (.aload_n 0, 1) := by decide +kernel
theorem dL_change_50 : decode cL_change 50 = .ok (.iload 8, 2) := by decide +kernel
theorem dL_change_52 : decode cL_change 52 = .ok (.iconst 1, 1) := by decide +kernel
theorem dL_change_53 : decode cL_change 53 = .ok (.iload 10, 2) := by decide +kernel
theorem dL_change_55 : decode cL_change 55 = .ok (.iadd, 1) := by decide +kernel
theorem dL_change_56 : decode cL_change 56 = .ok (.invokevirtual 39, 3) := by decide +kernel
theorem dL_change_59 : decode cL_change 59 = .ok (.ireturn, 1) := by decide +kernel
theorem dL_change_60 : decode cL_change 60 = .ok (.iload_n 1, 1) := by decide +kernel
theorem dL_change_61 : decode cL_change 61 = .ok (.bipush 7, 2) := by decide +kernel
theorem dL_change_63 : decode cL_change 63 = .ok (.iand, 1) := by decide +kernel
theorem dL_change_64 : decode cL_change 64 = .ok (.iconst 5, 1) := by decide +kernel
theorem dL_change_65 : decode cL_change 65 = .ok (.if_icmp .ge 37, 3) := by decide +kernel
theorem dL_change_68 : decode cL_change 68 = .ok (.aload 5, 2) := by decide +kernel
theorem dL_change_70 : decode cL_change 70 = .ok (.iload 8, 2) := by decide +kernel
theorem dL_change_72 : decode cL_change 72 = .ok (.iload 10, 2) := by decide +kernel
theorem dL_change_74 : decode cL_change 74 = .ok (.iconst 2, 1) := by decide +kernel
theorem dL_change_75 : decode cL_change 75 = .ok (.if_icmp .le 7, 3) := by decide +kernel
theorem dL_change_78 : decode cL_change 78 = .ok (.iconst 1, 1) := by decide +kernel
theorem dL_change_79 : decode cL_change 79 = .ok (.goto 4, 3) := by decide +kernel
theorem dL_change_82 : decode cL_change 82 = .ok (.iconst 0, 1) := by decide +kernel
theorem dL_change_83 : decode cL_change 83 = .ok (.bastore, 1) := by decide +kernel
theorem dL_change_84 : decode cL_change 84 = .ok (.aload_n 0, 1) := by decide +kernel
theorem dL_change_85 : decode cL_change 85 = .ok (.iload 8, 2) := by decide +kernel
theorem dL_change_87 : decode cL_change 87 = .ok (.iload 10, 2) := by decide +kernel
theorem dL_change_89 : decode cL_change 89 = .ok (.iconst 2, 1) := by decide +kernel
theorem dL_change_90 : decode cL_change 90 = .ok (.if_icmp .le 7, 3) := by decide +kernel
theorem dL_change_93 : decode cL_change 93 = .ok (.iconst 1, 1) := by decide +kernel
theorem dL_change_94 : decode cL_change 94 = .ok (.goto 4, 3) := by decide +kernel
theorem dL_change_97 : decode cL_change 97 = .ok (.iconst 0, 1) := by decide +kernel
theorem dL_change_98 : decode cL_change 98 = .ok (.invokevirtual 42, 3) := by decide +kernel
theorem dL_change_101 : decode cL_change 101 = .ok (.ireturn, 1) := by decide +kernel
theorem dL_change_102 : decode cL_change 102 = .ok (.iload_n 1, 1) := by decide +kernel
theorem dL_change_103 : decode cL_change 103 = .ok (.bipush 7, 2) := by decide +kernel
theorem dL_change_105 : decode cL_change 105 = .ok (.iand, 1) := by decide +kernel
theorem dL_change_106 : decode cL_change 106 = .ok (.bipush 7, 2) := by decide +kernel
theorem dL_change_108 : decode cL_change 108 = .ok (.if_icmp .ge 42, 3) := by decide +kernel
theorem dL_change_111 : decode cL_change 111 = .ok (.aload_n 3, 1) := by decide +kernel
theorem dL_change_112 : decode cL_change 112 = .ok (.iload 8, 2) := by decide +kernel
theorem dL_change_114 : decode cL_change 114 = .ok (.iaload, 1) := by decide +kernel
theorem dL_change_115 : decode cL_change 115 = .ok (.aload_n 2, 1) := by decide +kernel
theorem dL_change_116 : decode cL_change 116 = .ok (.iload 9, 2) := by decide +kernel
theorem dL_change_118 : decode cL_change 118 = .ok (.iaload, 1) := by decide +kernel
theorem dL_change_119 : decode cL_change 119 = .ok (.if_icmp .ne 31, 3) := by decide +kernel
theorem dL_change_122 : decode cL_change 122 = .ok (.aload 6, 2) := by decide +kernel
theorem dL_change_124 : decode cL_change 124 = .ok (.bipush 9, 2) := by decide +kernel
theorem dL_change_126 : decode cL_change 126 = .ok (.iload 8, 2) := by decide +kernel
theorem dL_change_128 : decode cL_change 128 = .ok (.imul, 1) := by decide +kernel
theorem dL_change_129 : decode cL_change 129 = .ok (.iload 9, 2) := by decide +kernel
theorem dL_change_131 : decode cL_change 131 = .ok (.iadd, 1) := by decide +kernel
theorem dL_change_132 : decode cL_change 132 = .ok (.iload 10, 2) := by decide +kernel
theorem dL_change_134 : decode cL_change 134 = .ok (.iconst 2, 1) := by decide +kernel
theorem dL_change_135 : decode cL_change 135 = .ok (.isub, 1) := by decide +kernel
theorem dL_change_136 : decode cL_change 136 = .ok (.iastore, 1) := by decide +kernel
theorem dL_change_137 : decode cL_change 137 = .ok (.aload_n 0, 1) := by decide +kernel
theorem dL_change_138 : decode cL_change 138 = .ok (.iload 8, 2) := by decide +kernel
theorem dL_change_140 : decode cL_change 140 = .ok (.iload 9, 2) := by decide +kernel
theorem dL_change_142 : decode cL_change 142 = .ok (.iload 10, 2) := by decide +kernel
theorem dL_change_144 : decode cL_change 144 = .ok (.iconst 2, 1) := by decide +kernel
theorem dL_change_145 : decode cL_change 145 = .ok (.isub, 1) := by decide +kernel
theorem dL_change_146 : decode cL_change 146 = .ok (.invokevirtual 46, 3) := by decide +kernel
theorem dL_change_149 : decode cL_change 149 = .ok (.ireturn, 1) := by decide +kernel
theorem dL_change_150 : decode cL_change 150 = .ok (.aload 7, 2) := by decide +kernel
theorem dL_change_152 : decode cL_change 152 = .ok (.iconst 0, 1) := by decide +kernel
theorem dL_change_153 : decode cL_change 153 = .ok (.iload 10, 2) := by decide +kernel
theorem dL_change_155 : decode cL_change 155 = .ok (.iconst 1, 1) := by decide +kernel
theorem dL_change_156 : decode cL_change 156 = .ok (.isub, 1) := by decide +kernel
theorem dL_change_157 : decode cL_change 157 = .ok (.iastore, 1) := by decide +kernel
theorem dL_change_158 : decode cL_change 158 = .ok (.aload_n 0, 1) := by decide +kernel
theorem dL_change_159 : decode cL_change 159 = .ok (.iload 10, 2) := by decide +kernel
theorem dL_change_161 : decode cL_change 161 = .ok (.iconst 1, 1) := by decide +kernel
theorem dL_change_162 : decode cL_change 162 = .ok (.isub, 1) := by decide +kernel
theorem dL_change_163 : decode cL_change 163 = .ok (.invokevirtual 49, 3) := by decide +kernel
theorem dL_change_166 : decode cL_change 166 = .ok (.ireturn, 1) := by decide +kernel
theorem dL_read_0 : decode cL_read 0 = .ok (.iconst 0, 1) := by decide +kernel
theorem dL_read_1 : decode cL_read 1 = .ok (.istore_n 2, 1) := by decide +kernel
theorem dL_read_2 : decode cL_read 2 = .ok (.iload_n 2, 1) := by decide +kernel
theorem dL_read_3 : decode cL_read 3 = .ok (.bipush 9, 2) := by decide +kernel
theorem dL_read_5 : decode cL_read 5 = .ok (.if_icmp .ge 51, 3) := by decide +kernel
theorem dL_read_8 : decode cL_read 8 = .ok (.iconst 0, 1) := by decide +kernel
theorem dL_read_9 : decode cL_read 9 = .ok (.istore_n 3, 1) := by decide +kernel
theorem dL_read_10 : decode cL_read 10 = .ok (.iload_n 3, 1) := by decide +kernel
theorem dL_read_11 : decode cL_read 11 = .ok (.bipush 9, 2) := by decide +kernel
theorem dL_read_13 : decode cL_read 13 = .ok (.if_icmp .ge 37, 3) := by decide +kernel
theorem dL_read_16 : decode cL_read 16 = .ok (.aload_n 1, 1) := by decide +kernel
theorem dL_read_17 : decode cL_read 17 = .ok (.bipush 9, 2) := by decide +kernel
theorem dL_read_19 : decode cL_read 19 = .ok (.iload_n 2, 1) := by decide +kernel
theorem dL_read_20 : decode cL_read 20 = .ok (.imul, 1) := by decide +kernel
theorem dL_read_21 : decode cL_read 21 = .ok (.iload_n 3, 1) := by decide +kernel
theorem dL_read_22 : decode cL_read 22 = .ok (.iadd, 1) := by decide +kernel
theorem dL_read_23 : decode cL_read 23 = .ok (.aload_n 0, 1) := by decide +kernel
theorem dL_read_24 : decode cL_read 24 = .ok (.iload_n 2, 1) := by decide +kernel
theorem dL_read_25 : decode cL_read 25 = .ok (.iload_n 3, 1) := by decide +kernel
theorem dL_read_26 : decode cL_read 26 = .ok (.invokevirtual 53, 3) := by decide +kernel
theorem dL_read_29 : decode cL_read 29 = .ok (.ifCond .eq 12, 3) := by decide +kernel
theorem dL_read_32 : decode cL_read 32 = .ok (.aload_n 0, 1) := by decide +kernel
theorem dL_read_33 : decode cL_read 33 = .ok (.iload_n 2, 1) := by decide +kernel
theorem dL_read_34 : decode cL_read 34 = .ok (.iload_n 3, 1) := by decide +kernel
theorem dL_read_35 : decode cL_read 35 = .ok (.invokevirtual 57, 3) := by decide +kernel
theorem dL_read_38 : decode cL_read 38 = .ok (.goto 5, 3) := by decide +kernel
theorem dL_read_41 : decode cL_read 41 = .ok (.bipush (-2), 2) := by decide +kernel
theorem dL_read_43 : decode cL_read 43 = .ok (.iastore, 1) := by decide +kernel
theorem dL_read_44 : decode cL_read 44 = .ok (.iinc 3 1, 3) := by decide +kernel
theorem dL_read_47 : decode cL_read 47 = .ok (.goto (-37), 3) := by decide +kernel
theorem dL_read_50 : decode cL_read 50 = .ok (.iinc 2 1, 3) := by decide +kernel
theorem dL_read_53 : decode cL_read 53 = .ok (.goto (-51), 3) := by decide +kernel
theorem dL_read_56 : decode cL_read 56 = .ok (.return_, 1) := by decide +kernel
theorem dL_unlike_0 : decode cL_unlike 0 = .ok (.iconst 0, 1) := by decide +kernel
theorem dL_unlike_1 : decode cL_unlike 1 = .ok (.istore_n 2, 1) := by decide +kernel
theorem dL_unlike_2 : decode cL_unlike 2 = .ok (.iconst 0, 1) := by decide +kernel
theorem dL_unlike_3 : decode cL_unlike 3 = .ok (.istore_n 3, 1) := by decide +kernel
theorem dL_unlike_4 : decode cL_unlike 4 = .ok (.iload_n 3, 1) := by decide +kernel
theorem dL_unlike_5 : decode cL_unlike 5 = .ok (.bipush 81, 2) := by decide +kernel
theorem dL_unlike_7 : decode cL_unlike 7 = .ok (.if_icmp .ge 26, 3) := by decide +kernel
theorem dL_unlike_10 : decode cL_unlike 10 = .ok (.iload_n 2, 1) := by decide +kernel
theorem dL_unlike_11 : decode cL_unlike 11 = .ok (.aload_n 0, 1) := by decide +kernel
theorem dL_unlike_12 : decode cL_unlike 12 = .ok (.iload_n 3, 1) := by decide +kernel
theorem dL_unlike_13 : decode cL_unlike 13 = .ok (.iaload, 1) := by decide +kernel
theorem dL_unlike_14 : decode cL_unlike 14 = .ok (.aload_n 1, 1) := by decide +kernel
theorem dL_unlike_15 : decode cL_unlike 15 = .ok (.iload_n 3, 1) := by decide +kernel
theorem dL_unlike_16 : decode cL_unlike 16 = .ok (.iaload, 1) := by decide +kernel
theorem dL_unlike_17 : decode cL_unlike 17 = .ok (.if_icmp .ne 7, 3) := by decide +kernel
theorem dL_unlike_20 : decode cL_unlike 20 = .ok (.iconst 0, 1) := by decide +kernel
theorem dL_unlike_21 : decode cL_unlike 21 = .ok (.goto 4, 3) := by decide +kernel
theorem dL_unlike_24 : decode cL_unlike 24 = .ok (.iconst 1, 1) := by decide +kernel
theorem dL_unlike_25 : decode cL_unlike 25 = .ok (.iadd, 1) := by decide +kernel
theorem dL_unlike_26 : decode cL_unlike 26 = .ok (.istore_n 2, 1) := by decide +kernel
theorem dL_unlike_27 : decode cL_unlike 27 = .ok (.iinc 3 1, 3) := by decide +kernel
theorem dL_unlike_30 : decode cL_unlike 30 = .ok (.goto (-26), 3) := by decide +kernel
theorem dL_unlike_33 : decode cL_unlike 33 = .ok (.iload_n 2, 1) := by decide +kernel
theorem dL_unlike_34 : decode cL_unlike 34 = .ok (.ireturn, 1) := by decide +kernel
end
section
theorem dL_law_0 : decode cL_law 0 = .ok (.new 10, 3) := by decide +kernel
theorem dL_law_3 : decode cL_law 3 = .ok (.dup, 1) := by decide +kernel
theorem dL_law_4 : decode cL_law 4 = .ok (.invokespecial 60, 3) := by decide +kernel
theorem dL_law_7 : decode cL_law 7 = .ok (.astore_n 1, 1) := by decide +kernel
theorem dL_law_8 : decode cL_law 8 = .ok (.bipush 9, 2) := by decide +kernel
theorem dL_law_10 : decode cL_law 10 = .ok (.newarray .int, 2) := by decide +kernel
theorem dL_law_12 : decode cL_law 12 = .ok (.astore_n 2, 1) := by decide +kernel
theorem dL_law_13 : decode cL_law 13 = .ok (.bipush 9, 2) := by decide +kernel
theorem dL_law_15 : decode cL_law 15 = .ok (.newarray .int, 2) := by decide +kernel
theorem dL_law_17 : decode cL_law 17 = .ok (.astore_n 3, 1) := by decide +kernel
theorem dL_law_18 : decode cL_law 18 = .ok (.bipush 9, 2) := by decide +kernel
theorem dL_law_20 : decode cL_law 20 = .ok (.newarray .int, 2) := by decide +kernel
theorem dL_law_22 : decode cL_law 22 = .ok (.astore 4, 2) := by decide +kernel
theorem dL_law_24 : decode cL_law 24 = .ok (.aload_n 1, 1) := by decide +kernel
theorem dL_law_25 : decode cL_law 25 = .ok (.aload_n 0, 1) := by decide +kernel
theorem dL_law_26 : decode cL_law 26 = .ok (.aload_n 2, 1) := by decide +kernel
theorem dL_law_27 : decode cL_law 27 = .ok (.aload_n 3, 1) := by decide +kernel
theorem dL_law_28 : decode cL_law 28 = .ok (.aload 4, 2) := by decide +kernel
theorem dL_law_30 : decode cL_law 30 = .ok (.invokestatic 61, 3) := by decide +kernel
theorem dL_law_33 : decode cL_law 33 = .ok (.ifCond .eq 10, 3) := by decide +kernel
theorem dL_law_36 : decode cL_law 36 = .ok (.aload_n 1, 1) := by decide +kernel
theorem dL_law_37 : decode cL_law 37 = .ok (.invokevirtual 65, 3) := by decide +kernel
theorem dL_law_40 : decode cL_law 40 = .ok (.ifCond .ge 5, 3) := by decide +kernel
theorem dL_law_43 : decode cL_law 43 = .ok (.iconst 0, 1) := by decide +kernel
theorem dL_law_44 : decode cL_law 44 = .ok (.ireturn, 1) := by decide +kernel
theorem dL_law_45 : decode cL_law 45 = .ok (.bipush 81, 2) := by decide +kernel
theorem dL_law_47 : decode cL_law 47 = .ok (.newarray .int, 2) := by decide +kernel
theorem dL_law_49 : decode cL_law 49 = .ok (.astore 5, 2) := by decide +kernel
theorem dL_law_51 : decode cL_law 51 = .ok (.bipush 9, 2) := by decide +kernel
theorem dL_law_53 : decode cL_law 53 = .ok (.newarray .boolean, 2) := by decide +kernel
theorem dL_law_55 : decode cL_law 55 = .ok (.astore 6, 2) := by decide +kernel
theorem dL_law_57 : decode cL_law 57 = .ok (.iconst 1, 1) := by decide +kernel
theorem dL_law_58 : decode cL_law 58 = .ok (.newarray .int, 2) := by decide +kernel
theorem dL_law_60 : decode cL_law 60 = .ok (.dup, 1) := by decide +kernel
theorem dL_law_61 : decode cL_law 61 = .ok (.iconst 0, 1) := by decide +kernel
theorem dL_law_62 : decode cL_law 62 = .ok (.bipush 100, 2) := by decide +kernel
theorem dL_law_64 : decode cL_law 64 = .ok (.iastore, 1) := by decide +kernel
theorem dL_law_65 : decode cL_law 65 = .ok (.astore 7, 2) := by decide +kernel
theorem dL_law_67 : decode cL_law 67 = .ok (.bipush 81, 2) := by decide +kernel
theorem dL_law_69 : decode cL_law 69 = .ok (.newarray .int, 2) := by decide +kernel
theorem dL_law_71 : decode cL_law 71 = .ok (.astore 8, 2) := by decide +kernel
theorem dL_law_73 : decode cL_law 73 = .ok (.bipush 81, 2) := by decide +kernel
theorem dL_law_75 : decode cL_law 75 = .ok (.newarray .int, 2) := by decide +kernel
theorem dL_law_77 : decode cL_law 77 = .ok (.astore 9, 2) := by decide +kernel
theorem dL_law_79 : decode cL_law 79 = .ok (.bipush 9, 2) := by decide +kernel
theorem dL_law_81 : decode cL_law 81 = .ok (.newarray .int, 2) := by decide +kernel
theorem dL_law_83 : decode cL_law 83 = .ok (.astore 10, 2) := by decide +kernel
theorem dL_law_85 : decode cL_law 85 = .ok (.iconst 0, 1) := by decide +kernel
theorem dL_law_86 : decode cL_law 86 = .ok (.istore 11, 2) := by decide +kernel
theorem dL_law_88 : decode cL_law 88 = .ok (.iload 11, 2) := by decide +kernel
theorem dL_law_90 : decode cL_law 90 = .ok (.bipush 81, 2) := by decide +kernel
theorem dL_law_92 : decode cL_law 92 = .ok (.if_icmp .ge 16, 3) := by decide +kernel
theorem dL_law_95 : decode cL_law 95 = .ok (.aload 5, 2) := by decide +kernel
theorem dL_law_97 : decode cL_law 97 = .ok (.iload 11, 2) := by decide +kernel
theorem dL_law_99 : decode cL_law 99 = .ok (.bipush (-2), 2) := by decide +kernel
theorem dL_law_101 : decode cL_law 101 = .ok (.iastore, 1) := by decide +kernel
theorem dL_law_102 : decode cL_law 102 = .ok (.iinc 11 1, 3) := by decide +kernel
theorem dL_law_105 : decode cL_law 105 = .ok (.goto (-17), 3) := by decide +kernel
theorem dL_law_108 : decode cL_law 108 = .ok (.iconst 0, 1) := by decide +kernel
theorem dL_law_109 : decode cL_law 109 = .ok (.istore 11, 2) := by decide +kernel
theorem dL_law_111 : decode cL_law 111 = .ok (.iload 11, 2) := by decide +kernel
theorem dL_law_113 : decode cL_law 113 = .ok (.bipush 9, 2) := by decide +kernel
theorem dL_law_115 : decode cL_law 115 = .ok (.if_icmp .ge 15, 3) := by decide +kernel
theorem dL_law_118 : decode cL_law 118 = .ok (.aload 6, 2) := by decide +kernel
theorem dL_law_120 : decode cL_law 120 = .ok (.iload 11, 2) := by decide +kernel
theorem dL_law_122 : decode cL_law 122 = .ok (.iconst 1, 1) := by decide +kernel
theorem dL_law_123 : decode cL_law 123 = .ok (.bastore, 1) := by decide +kernel
theorem dL_law_124 : decode cL_law 124 = .ok (.iinc 11 1, 3) := by decide +kernel
theorem dL_law_127 : decode cL_law 127 = .ok (.goto (-16), 3) := by decide +kernel
theorem dL_law_130 : decode cL_law 130 = .ok (.iconst 0, 1) := by decide +kernel
theorem dL_law_131 : decode cL_law 131 = .ok (.istore 11, 2) := by decide +kernel
theorem dL_law_133 : decode cL_law 133 = .ok (.iload 11, 2) := by decide +kernel
theorem dL_law_135 : decode cL_law 135 = .ok (.bipush 8, 2) := by decide +kernel
theorem dL_law_137 : decode cL_law 137 = .ok (.if_icmp .ge 132, 3) := by decide +kernel
theorem dL_law_140 : decode cL_law 140 = .ok (.aload_n 1, 1) := by decide +kernel
theorem dL_law_141 : decode cL_law 141 = .ok (.aload 8, 2) := by decide +kernel
theorem dL_law_143 : decode cL_law 143 = .ok (.invokestatic 68, 3) := by decide +kernel
theorem dL_law_146 : decode cL_law 146 = .ok (.aload_n 1, 1) := by decide +kernel
theorem dL_law_147 : decode cL_law 147 = .ok (.aload_n 0, 1) := by decide +kernel
theorem dL_law_148 : decode cL_law 148 = .ok (.bipush 9, 2) := by decide +kernel
theorem dL_law_150 : decode cL_law 150 = .ok (.iload 11, 2) := by decide +kernel
theorem dL_law_152 : decode cL_law 152 = .ok (.iadd, 1) := by decide +kernel
theorem dL_law_153 : decode cL_law 153 = .ok (.invokestatic 15, 3) := by decide +kernel
theorem dL_law_156 : decode cL_law 156 = .ok (.aload_n 2, 1) := by decide +kernel
theorem dL_law_157 : decode cL_law 157 = .ok (.aload_n 3, 1) := by decide +kernel
theorem dL_law_158 : decode cL_law 158 = .ok (.aload 4, 2) := by decide +kernel
theorem dL_law_160 : decode cL_law 160 = .ok (.aload 6, 2) := by decide +kernel
theorem dL_law_162 : decode cL_law 162 = .ok (.aload 5, 2) := by decide +kernel
theorem dL_law_164 : decode cL_law 164 = .ok (.aload 7, 2) := by decide +kernel
theorem dL_law_166 : decode cL_law 166 = .ok (.invokestatic 72, 3) := by decide +kernel
theorem dL_law_169 : decode cL_law 169 = .ok (.istore 12, 2) := by decide +kernel
theorem dL_law_171 : decode cL_law 171 = .ok (.aload_n 1, 1) := by decide +kernel
theorem dL_law_172 : decode cL_law 172 = .ok (.aload 9, 2) := by decide +kernel
theorem dL_law_174 : decode cL_law 174 = .ok (.invokestatic 68, 3) := by decide +kernel
theorem dL_law_177 : decode cL_law 177 = .ok (.iload 12, 2) := by decide +kernel
theorem dL_law_179 : decode cL_law 179 = .ok (.aload 8, 2) := by decide +kernel
theorem dL_law_181 : decode cL_law 181 = .ok (.aload 9, 2) := by decide +kernel
theorem dL_law_183 : decode cL_law 183 = .ok (.invokestatic 76, 3) := by decide +kernel
theorem dL_law_186 : decode cL_law 186 = .ok (.if_icmp .eq 5, 3) := by decide +kernel
theorem dL_law_189 : decode cL_law 189 = .ok (.iconst 0, 1) := by decide +kernel
theorem dL_law_190 : decode cL_law 190 = .ok (.ireturn, 1) := by decide +kernel
theorem dL_law_191 : decode cL_law 191 = .ok (.iconst 0, 1) := by decide +kernel
theorem dL_law_192 : decode cL_law 192 = .ok (.istore 13, 2) := by decide +kernel
theorem dL_law_194 : decode cL_law 194 = .ok (.iload 13, 2) := by decide +kernel
theorem dL_law_196 : decode cL_law 196 = .ok (.iconst 5, 1) := by decide +kernel
theorem dL_law_197 : decode cL_law 197 = .ok (.if_icmp .ge 66, 3) := by decide +kernel
theorem dL_law_200 : decode cL_law 200 = .ok (.aload_n 2, 1) := by decide +kernel
theorem dL_law_201 : decode cL_law 201 = .ok (.aload_n 3, 1) := by decide +kernel
theorem dL_law_202 : decode cL_law 202 = .ok (.aload 4, 2) := by decide +kernel
theorem dL_law_204 : decode cL_law 204 = .ok (.aload 6, 2) := by decide +kernel
theorem dL_law_206 : decode cL_law 206 = .ok (.aload 5, 2) := by decide +kernel
theorem dL_law_208 : decode cL_law 208 = .ok (.aload 7, 2) := by decide +kernel
theorem dL_law_210 : decode cL_law 210 = .ok (.iconst 0, 1) := by decide +kernel
theorem dL_law_211 : decode cL_law 211 = .ok (.iaload, 1) := by decide +kernel
theorem dL_law_212 : decode cL_law 212 = .ok (.iload 13, 2) := by decide +kernel
theorem dL_law_214 : decode cL_law 214 = .ok (.aload 10, 2) := by decide +kernel
theorem dL_law_216 : decode cL_law 216 = .ok (.invokestatic 80, 3) := by decide +kernel
theorem dL_law_219 : decode cL_law 219 = .ok (.iconst 0, 1) := by decide +kernel
theorem dL_law_220 : decode cL_law 220 = .ok (.istore 14, 2) := by decide +kernel
theorem dL_law_222 : decode cL_law 222 = .ok (.iload 14, 2) := by decide +kernel
theorem dL_law_224 : decode cL_law 224 = .ok (.iconst 5, 1) := by decide +kernel
theorem dL_law_225 : decode cL_law 225 = .ok (.if_icmp .ge 32, 3) := by decide +kernel
theorem dL_law_228 : decode cL_law 228 = .ok (.aload_n 1, 1) := by decide +kernel
theorem dL_law_229 : decode cL_law 229 = .ok (.iload 14, 2) := by decide +kernel
theorem dL_law_231 : decode cL_law 231 = .ok (.iload 13, 2) := by decide +kernel
theorem dL_law_233 : decode cL_law 233 = .ok (.invokevirtual 84, 3) := by decide +kernel
theorem dL_law_236 : decode cL_law 236 = .ok (.aload_n 2, 1) := by decide +kernel
theorem dL_law_237 : decode cL_law 237 = .ok (.aload 10, 2) := by decide +kernel
theorem dL_law_239 : decode cL_law 239 = .ok (.iload 14, 2) := by decide +kernel
theorem dL_law_241 : decode cL_law 241 = .ok (.iload 13, 2) := by decide +kernel
theorem dL_law_243 : decode cL_law 243 = .ok (.invokestatic 87, 3) := by decide +kernel
theorem dL_law_246 : decode cL_law 246 = .ok (.if_icmp .eq 5, 3) := by decide +kernel
theorem dL_law_249 : decode cL_law 249 = .ok (.iconst 0, 1) := by decide +kernel
theorem dL_law_250 : decode cL_law 250 = .ok (.ireturn, 1) := by decide +kernel
theorem dL_law_251 : decode cL_law 251 = .ok (.iinc 14 1, 3) := by decide +kernel
theorem dL_law_254 : decode cL_law 254 = .ok (.goto (-32), 3) := by decide +kernel
theorem dL_law_257 : decode cL_law 257 = .ok (.iinc 13 1, 3) := by decide +kernel
theorem dL_law_260 : decode cL_law 260 = .ok (.goto (-66), 3) := by decide +kernel
theorem dL_law_263 : decode cL_law 263 = .ok (.iinc 11 1, 3) := by decide +kernel
theorem dL_law_266 : decode cL_law 266 = .ok (.goto (-133), 3) := by decide +kernel
theorem dL_law_269 : decode cL_law 269 = .ok (.iconst 1, 1) := by decide +kernel
theorem dL_law_270 : decode cL_law 270 = .ok (.ireturn, 1) := by decide +kernel
end
section
/-- the good words of the tables: every method's list is its own code word and these -/
def WG : List Cond := lw_tbl.filter goodWord
theorem WG_good : ∀ w ∈ WG, (w.onTables && w.keeps) = true ∨ ∃ ty, w = .arrayClass ty := fun w h => good_of_word (List.mem_filter.mp h).2
theorem WG_in (i : Nat) {w : Cond} (h : lw_tbl[i]? = some w) (g : goodWord w = true) : w ∈ WG := List.mem_filter.mpr ⟨List.mem_of_getElem? h, g⟩
theorem WG_tbl {w : Cond} (h : w ∈ WG) : w ∈ lw_tbl := (List.mem_filter.mp h).1
abbrev wsY (y : MethodName) (cc : ByteArray) (n : Nat) (r : Option FieldType) : List Cond := Cond.code y cc n r :: WG
abbrev wsH (y : MethodName) (cc : ByteArray) (n : Nat) (r : Option FieldType) (hh : List (Nat × Nat × Nat × Nat)) : List Cond := Cond.codeWith y cc n r hh :: WG
theorem good_WG : GoodIn WG WG := fun w h => ⟨h, WG_good w h⟩
theorem good_cons {c : Cond} {l : List Cond} (h : c ∈ WG) (hl : GoodIn WG l) : GoodIn WG (c :: l) := fun w hw => (List.mem_cons.mp hw).elim (fun e => by rw [e]; exact ⟨h, WG_good c h⟩) (hl w)
theorem good_nil : GoodIn WG ([] : List Cond) := fun _ h => absurd h List.not_mem_nil
theorem goodY {y : MethodName} {cc : ByteArray} {n : Nat} {r : Option FieldType} (h : Cond.code y cc n r ∈ WG) : GoodIn WG (wsY y cc n r) := good_cons h good_WG
theorem goodV {own : String} {idx : Nat} {y : MethodName} {C : String} {cc : ByteArray} {n : Nat} {r : Option FieldType} (h1 : Cond.methodLink own idx y ∈ WG) (h2 : Cond.instanceMethod y ∈ WG) (h3 : Cond.selects C y y ∈ WG) (h4 : Cond.initialized C ∈ WG) (h5 : Cond.code y cc n r ∈ WG) : GoodIn WG (wsV own idx C y (wsY y cc n r)) := good_cons h1 (good_cons h2 (good_cons h3 (good_cons h4 (goodY h5))))
theorem goodS {own : String} {idx : Nat} {y : MethodName} {cc : ByteArray} {n : Nat} {r : Option FieldType} (h1 : Cond.methodLink own idx y ∈ WG) (h2 : Cond.static y ∈ WG) (h3 : Cond.initialized y.cls ∈ WG) (h5 : Cond.code y cc n r ∈ WG) : GoodIn WG (va_wsS own idx y (wsY y cc n r)) := good_cons h1 (good_cons h2 (good_cons h3 (goodY h5)))
theorem goodSW {own : String} {idx : Nat} {y : MethodName} {cc : ByteArray} {n : Nat} {r : Option FieldType} {hh : List (Nat × Nat × Nat × Nat)} (h1 : Cond.methodLink own idx y ∈ WG) (h2 : Cond.static y ∈ WG) (h3 : Cond.initialized y.cls ∈ WG) (h5 : Cond.codeWith y cc n r hh ∈ WG) : GoodIn WG (va_wsS own idx y (wsH y cc n r hh)) := good_cons h1 (good_cons h2 (good_cons h3 (good_cons h5 good_WG)))
theorem s_13 : Cond.selects "RoadOracle$Hierarchy" yX0_linkTurns yX0_linkTurns ∈ WG := WG_in 1 (by decide +kernel) (by decide +kernel)
theorem s_14 : Cond.selects "RoadOracle$Hierarchy" yX0_cheapest yX0_cheapest ∈ WG := WG_in 2 (by decide +kernel) (by decide +kernel)
theorem s_15 : Cond.selects "RoadOracle$Hierarchy" yX0_bridge yX0_bridge ∈ WG := WG_in 3 (by decide +kernel) (by decide +kernel)
theorem s_4 : Cond.selects "RoadOracle$Hierarchy" yX0_renewSteps yX0_renewSteps ∈ WG := WG_in 4 (by decide +kernel) (by decide +kernel)
theorem s_500 : Cond.selects "RoadOracle$Hierarchy" yX0_renewStepsFrom yX0_renewStepsFrom ∈ WG := WG_in 5 (by decide +kernel) (by decide +kernel)
theorem s_501 : Cond.selects "RoadOracle$Hierarchy" yX0_markArc yX0_markArc ∈ WG := WG_in 6 (by decide +kernel) (by decide +kernel)
theorem s_6 : Cond.selects "RoadOracle$Hierarchy" yX0_settle yX0_settle ∈ WG := WG_in 7 (by decide +kernel) (by decide +kernel)
theorem s_7 : Cond.selects "RoadOracle$Hierarchy" yX0_settleArc yX0_settleArc ∈ WG := WG_in 8 (by decide +kernel) (by decide +kernel)
theorem s_8 : Cond.selects "RoadOracle$Hierarchy" yX0_computeArc yX0_computeArc ∈ WG := WG_in 9 (by decide +kernel) (by decide +kernel)
theorem s_9 : Cond.selects "RoadOracle$Hierarchy" yX0_markAbove yX0_markAbove ∈ WG := WG_in 10 (by decide +kernel) (by decide +kernel)
theorem s_16 : Cond.selects "RoadOracle" yX3_requireHierarchy yX3_requireHierarchy ∈ WG := WG_in 11 (by decide +kernel) (by decide +kernel)
theorem s_1 : Cond.selects "RoadOracle" yX3_requireJunction yX3_requireJunction ∈ WG := WG_in 12 (by decide +kernel) (by decide +kernel)
theorem s_17 : Cond.selects "RoadOracle" yX3_costBetween yX3_costBetween ∈ WG := WG_in 13 (by decide +kernel) (by decide +kernel)
theorem s_18 : Cond.selects "RoadOracle" yX3_searchFrom yX3_searchFrom ∈ WG := WG_in 14 (by decide +kernel) (by decide +kernel)
theorem s_502 : Cond.selects "RoadOracle" yX3_spreadToJunctions yX3_spreadToJunctions ∈ WG := WG_in 15 (by decide +kernel) (by decide +kernel)
theorem s_19 : Cond.selects "RoadOracle$Hierarchy" yX0_passOn yX0_passOn ∈ WG := WG_in 16 (by decide +kernel) (by decide +kernel)
theorem s_20 : Cond.selects "RoadOracle" yX3_foundCost yX3_foundCost ∈ WG := WG_in 17 (by decide +kernel) (by decide +kernel)
theorem s_2 : Cond.selects "RoadOracle" yX3_requireWeight yX3_requireWeight ∈ WG := WG_in 18 (by decide +kernel) (by decide +kernel)
theorem s_3 : Cond.selects "RoadOracle" yX3_requireRoad yX3_requireRoad ∈ WG := WG_in 19 (by decide +kernel) (by decide +kernel)
theorem s_12 : Cond.selects "RoadOracle" yX3_requireTurn yX3_requireTurn ∈ WG := WG_in 20 (by decide +kernel) (by decide +kernel)
theorem w_46 : (Cond.initialized "RoadOracleLaw") ∈ WG := WG_in 21 (by decide +kernel) (by decide +kernel)
theorem w_47 : (Cond.initialized "RoadOracle") ∈ WG := WG_in 22 (by decide +kernel) (by decide +kernel)
theorem w_48 : (Cond.initialized "RoadOracle$Network") ∈ WG := WG_in 23 (by decide +kernel) (by decide +kernel)
theorem w_49 : (Cond.initialized "java/util/Arrays") ∈ WG := WG_in 24 (by decide +kernel) (by decide +kernel)
theorem w_50 : (Cond.initialized "RoadOracle$Hierarchy") ∈ WG := WG_in 25 (by decide +kernel) (by decide +kernel)
theorem w_51 : (Cond.initialized "RoadOracle$Levels") ∈ WG := WG_in 26 (by decide +kernel) (by decide +kernel)
theorem w_53 : (Cond.initialized "java/lang/Throwable") ∈ WG := WG_in 27 (by decide +kernel) (by decide +kernel)
theorem w_54 : (Cond.initialized "java/lang/Exception") ∈ WG := WG_in 28 (by decide +kernel) (by decide +kernel)
theorem w_55 : (Cond.initialized "java/lang/RuntimeException") ∈ WG := WG_in 29 (by decide +kernel) (by decide +kernel)
theorem w_56 : (Cond.initialized "java/lang/IllegalStateException") ∈ WG := WG_in 30 (by decide +kernel) (by decide +kernel)
theorem w_57 : (Cond.initialized "java/lang/IndexOutOfBoundsException") ∈ WG := WG_in 31 (by decide +kernel) (by decide +kernel)
theorem w_58 : (Cond.initialized "java/lang/IllegalArgumentException") ∈ WG := WG_in 32 (by decide +kernel) (by decide +kernel)
theorem w_60 : (Cond.initialized "java/lang/Long") ∈ WG := WG_in 33 (by decide +kernel) (by decide +kernel)
theorem w_62 : (Cond.initialized "java/lang/Math") ∈ WG := WG_in 34 (by decide +kernel) (by decide +kernel)
theorem w_63 : (Cond.initialized "java/util/NoSuchElementException") ∈ WG := WG_in 35 (by decide +kernel) (by decide +kernel)
theorem w_5223 : (Cond.classLink "RoadOracleLaw" (10 : Nat) "RoadOracle") ∈ WG := WG_in 36 (by decide +kernel) (by decide +kernel)
theorem w_5000 : (Cond.instantiable "RoadOracle" (12 : Nat)) ∈ WG := WG_in 37 (by decide +kernel) (by decide +kernel)
theorem w_5224 : (Cond.methodLink "RoadOracleLaw" (60 : Nat) yX3_init) ∈ WG := WG_in 38 (by decide +kernel) (by decide +kernel)
theorem w_68 : (Cond.instanceMethod yX3_init) ∈ WG := WG_in 39 (by decide +kernel) (by decide +kernel)
theorem w_69 : (Cond.code yX3_init prog_1_method_1_code (1 : Nat) (Option.none : Option FieldType)) ∈ WG := WG_in 40 (by decide +kernel) (by decide +kernel)
theorem w_70 : (Cond.methodLink "RoadOracle" (3 : Nat) ({ cls := "java/lang/Object", name := "<init>", desc := "()V" } : MethodName)) ∈ WG := WG_in 41 (by decide +kernel) (by decide +kernel)
theorem w_71 : (Cond.instanceMethod ({ cls := "java/lang/Object", name := "<init>", desc := "()V" } : MethodName)) ∈ WG := WG_in 42 (by decide +kernel) (by decide +kernel)
theorem w_72 : (Cond.code ({ cls := "java/lang/Object", name := "<init>", desc := "()V" } : MethodName) object_method_1_code (1 : Nat) (Option.none : Option FieldType)) ∈ WG := WG_in 43 (by decide +kernel) (by decide +kernel)
theorem w_73 : (Cond.classLink "RoadOracle" (9 : Nat) "RoadOracle$Network") ∈ WG := WG_in 44 (by decide +kernel) (by decide +kernel)
theorem w_74 : (Cond.instantiable "RoadOracle$Network" (10 : Nat)) ∈ WG := WG_in 45 (by decide +kernel) (by decide +kernel)
theorem w_75 : (Cond.methodLink "RoadOracle" (11 : Nat) yX2_init) ∈ WG := WG_in 46 (by decide +kernel) (by decide +kernel)
theorem w_76 : (Cond.instanceMethod yX2_init) ∈ WG := WG_in 47 (by decide +kernel) (by decide +kernel)
theorem w_77 : (Cond.code yX2_init prog_4_method_1_code (1 : Nat) (Option.none : Option FieldType)) ∈ WG := WG_in 48 (by decide +kernel) (by decide +kernel)
theorem w_78 : (Cond.methodLink "RoadOracle$Network" (3 : Nat) ({ cls := "java/lang/Object", name := "<init>", desc := "()V" } : MethodName)) ∈ WG := WG_in 49 (by decide +kernel) (by decide +kernel)
theorem w_79 : (Cond.methodLink "RoadOracle$Network" (24 : Nat) yJ7_fill_53178) ∈ WG := WG_in 50 (by decide +kernel) (by decide +kernel)
theorem w_80 : (Cond.static yJ7_fill_53178) ∈ WG := WG_in 51 (by decide +kernel) (by decide +kernel)
theorem w_81 : (Cond.code yJ7_fill_53178 prog_17_method_103_code (4 : Nat) (Option.none : Option FieldType)) ∈ WG := WG_in 52 (by decide +kernel) (by decide +kernel)
theorem w_5001 : (Cond.fieldLink "RoadOracle" (52 : Nat) "RoadOracle$Network" "junctions" "I") ∈ WG := WG_in 53 (by decide +kernel) (by decide +kernel)
theorem w_83 : (Cond.fieldLink "RoadOracle$Network" (41 : Nat) "RoadOracle$Network" "roads" "I") ∈ WG := WG_in 54 (by decide +kernel) (by decide +kernel)
theorem w_5002 : (Cond.fieldLink "RoadOracle$Hierarchy" (41 : Nat) "RoadOracle$Network" "roads" "I") ∈ WG := WG_in 55 (by decide +kernel) (by decide +kernel)
theorem w_5003 : (Cond.fieldLink "RoadOracle" (75 : Nat) "RoadOracle$Network" "roads" "I") ∈ WG := WG_in 56 (by decide +kernel) (by decide +kernel)
theorem w_87 : (Cond.fieldLink "RoadOracle$Network" (9 : Nat) "RoadOracle$Network" "begin" "[I") ∈ WG := WG_in 57 (by decide +kernel) (by decide +kernel)
theorem w_5004 : (Cond.fieldLink "RoadOracle" (258 : Nat) "RoadOracle$Network" "begin" "[I") ∈ WG := WG_in 58 (by decide +kernel) (by decide +kernel)
theorem w_89 : (Cond.fieldLink "RoadOracle$Network" (15 : Nat) "RoadOracle$Network" "end" "[I") ∈ WG := WG_in 59 (by decide +kernel) (by decide +kernel)
theorem w_5005 : (Cond.fieldLink "RoadOracle" (255 : Nat) "RoadOracle$Network" "end" "[I") ∈ WG := WG_in 60 (by decide +kernel) (by decide +kernel)
theorem w_91 : (Cond.fieldLink "RoadOracle$Network" (18 : Nat) "RoadOracle$Network" "weights" "[I") ∈ WG := WG_in 61 (by decide +kernel) (by decide +kernel)
theorem w_5006 : (Cond.fieldLink "RoadOracle" (91 : Nat) "RoadOracle$Network" "weights" "[I") ∈ WG := WG_in 62 (by decide +kernel) (by decide +kernel)
theorem w_94 : (Cond.fieldLink "RoadOracle$Network" (21 : Nat) "RoadOracle$Network" "settings" "[I") ∈ WG := WG_in 63 (by decide +kernel) (by decide +kernel)
theorem w_5007 : (Cond.fieldLink "RoadOracle" (108 : Nat) "RoadOracle$Network" "settings" "[I") ∈ WG := WG_in 64 (by decide +kernel) (by decide +kernel)
theorem w_97 : (Cond.fieldLink "RoadOracle$Network" (30 : Nat) "RoadOracle$Network" "beginning" "[J") ∈ WG := WG_in 65 (by decide +kernel) (by decide +kernel)
theorem w_5008 : (Cond.fieldLink "RoadOracle" (269 : Nat) "RoadOracle$Network" "beginning" "[J") ∈ WG := WG_in 66 (by decide +kernel) (by decide +kernel)
theorem w_99 : (Cond.fieldLink "RoadOracle$Network" (34 : Nat) "RoadOracle$Network" "ending" "[J") ∈ WG := WG_in 67 (by decide +kernel) (by decide +kernel)
theorem w_101 : (Cond.fieldLink "RoadOracle$Network" (48 : Nat) "RoadOracle$Network" "openRoads" "J") ∈ WG := WG_in 68 (by decide +kernel) (by decide +kernel)
theorem w_5010 : (Cond.fieldLink "RoadOracle" (127 : Nat) "RoadOracle$Network" "openRoads" "J") ∈ WG := WG_in 69 (by decide +kernel) (by decide +kernel)
theorem w_104 : (Cond.fieldLink "RoadOracle$Network" (37 : Nat) "RoadOracle$Network" "uTurn" "I") ∈ WG := WG_in 70 (by decide +kernel) (by decide +kernel)
theorem w_5011 : (Cond.fieldLink "RoadOracle" (120 : Nat) "RoadOracle$Network" "uTurn" "I") ∈ WG := WG_in 71 (by decide +kernel) (by decide +kernel)
theorem w_107 : (Cond.lays "RoadOracle$Network" "RoadOracle$Network" "junctions" "I") ∈ WG := WG_in 72 (by decide +kernel) (by decide +kernel)
theorem w_109 : (Cond.lays "RoadOracle$Network" "RoadOracle$Network" "roads" "I") ∈ WG := WG_in 74 (by decide +kernel) (by decide +kernel)
theorem w_111 : (Cond.laysFinal "RoadOracle$Network" "RoadOracle$Network" "begin" "[I") ∈ WG := WG_in 76 (by decide +kernel) (by decide +kernel)
theorem w_113 : (Cond.laysFinal "RoadOracle$Network" "RoadOracle$Network" "end" "[I") ∈ WG := WG_in 78 (by decide +kernel) (by decide +kernel)
theorem w_115 : (Cond.laysFinal "RoadOracle$Network" "RoadOracle$Network" "weights" "[I") ∈ WG := WG_in 80 (by decide +kernel) (by decide +kernel)
theorem w_117 : (Cond.laysFinal "RoadOracle$Network" "RoadOracle$Network" "settings" "[I") ∈ WG := WG_in 82 (by decide +kernel) (by decide +kernel)
theorem w_119 : (Cond.laysFinal "RoadOracle$Network" "RoadOracle$Network" "beginning" "[J") ∈ WG := WG_in 84 (by decide +kernel) (by decide +kernel)
theorem w_121 : (Cond.laysFinal "RoadOracle$Network" "RoadOracle$Network" "ending" "[J") ∈ WG := WG_in 86 (by decide +kernel) (by decide +kernel)
theorem w_123 : (Cond.lays "RoadOracle$Network" "RoadOracle$Network" "openRoads" "J") ∈ WG := WG_in 88 (by decide +kernel) (by decide +kernel)
theorem w_125 : (Cond.lays "RoadOracle$Network" "RoadOracle$Network" "uTurn" "I") ∈ WG := WG_in 90 (by decide +kernel) (by decide +kernel)
theorem w_128 : (Cond.arrayClass FieldType.int) ∈ WG := WG_in 93 (by decide +kernel) (by decide +kernel)
theorem w_129 : (Cond.arrayClass FieldType.long) ∈ WG := WG_in 94 (by decide +kernel) (by decide +kernel)
theorem w_130 : (Cond.classLink "RoadOracle" (16 : Nat) "RoadOracle$Hierarchy") ∈ WG := WG_in 95 (by decide +kernel) (by decide +kernel)
theorem w_5023 : (Cond.instantiable "RoadOracle$Hierarchy" (13 : Nat)) ∈ WG := WG_in 96 (by decide +kernel) (by decide +kernel)
theorem w_132 : (Cond.methodLink "RoadOracle" (18 : Nat) yX0_init) ∈ WG := WG_in 97 (by decide +kernel) (by decide +kernel)
theorem w_133 : (Cond.instanceMethod yX0_init) ∈ WG := WG_in 98 (by decide +kernel) (by decide +kernel)
theorem w_134 : (Cond.code yX0_init prog_2_method_1_code (2 : Nat) (Option.none : Option FieldType)) ∈ WG := WG_in 99 (by decide +kernel) (by decide +kernel)
theorem w_135 : (Cond.methodLink "RoadOracle$Hierarchy" (3 : Nat) ({ cls := "java/lang/Object", name := "<init>", desc := "()V" } : MethodName)) ∈ WG := WG_in 100 (by decide +kernel) (by decide +kernel)
theorem w_136 : (Cond.fieldLink "RoadOracle$Hierarchy" (9 : Nat) "RoadOracle$Hierarchy" "network" "LRoadOracle$Network;") ∈ WG := WG_in 101 (by decide +kernel) (by decide +kernel)
theorem w_5024 : (Cond.fieldLink "RoadOracle$Hierarchy" (94 : Nat) "RoadOracle$Hierarchy" "built" "Z") ∈ WG := WG_in 102 (by decide +kernel) (by decide +kernel)
theorem w_5025 : (Cond.fieldLink "RoadOracle" (80 : Nat) "RoadOracle$Hierarchy" "built" "Z") ∈ WG := WG_in 103 (by decide +kernel) (by decide +kernel)
theorem w_5026 : (Cond.fieldLink "RoadOracle$Hierarchy" (47 : Nat) "RoadOracle$Hierarchy" "roads" "I") ∈ WG := WG_in 104 (by decide +kernel) (by decide +kernel)
theorem w_5027 : (Cond.fieldLink "RoadOracle$Hierarchy" (70 : Nat) "RoadOracle$Hierarchy" "arcs" "I") ∈ WG := WG_in 105 (by decide +kernel) (by decide +kernel)
theorem w_5029 : (Cond.fieldLink "RoadOracle$Hierarchy" (78 : Nat) "RoadOracle$Hierarchy" "shortcuts" "I") ∈ WG := WG_in 106 (by decide +kernel) (by decide +kernel)
theorem w_5030 : (Cond.fieldLink "RoadOracle" (143 : Nat) "RoadOracle$Hierarchy" "shortcuts" "I") ∈ WG := WG_in 107 (by decide +kernel) (by decide +kernel)
theorem w_144 : (Cond.fieldLink "RoadOracle$Hierarchy" (15 : Nat) "RoadOracle$Hierarchy" "positions" "[I") ∈ WG := WG_in 108 (by decide +kernel) (by decide +kernel)
theorem w_146 : (Cond.fieldLink "RoadOracle$Hierarchy" (19 : Nat) "RoadOracle$Hierarchy" "order" "[I") ∈ WG := WG_in 109 (by decide +kernel) (by decide +kernel)
theorem w_5032 : (Cond.fieldLink "RoadOracle$Hierarchy" (22 : Nat) "RoadOracle$Hierarchy" "heads" "[J") ∈ WG := WG_in 110 (by decide +kernel) (by decide +kernel)
theorem w_5033 : (Cond.fieldLink "RoadOracle" (155 : Nat) "RoadOracle$Hierarchy" "heads" "[J") ∈ WG := WG_in 111 (by decide +kernel) (by decide +kernel)
theorem w_5034 : (Cond.fieldLink "RoadOracle$Hierarchy" (26 : Nat) "RoadOracle$Hierarchy" "tails" "[J") ∈ WG := WG_in 112 (by decide +kernel) (by decide +kernel)
theorem w_5035 : (Cond.fieldLink "RoadOracle$Hierarchy" (29 : Nat) "RoadOracle$Hierarchy" "lengths" "[I") ∈ WG := WG_in 113 (by decide +kernel) (by decide +kernel)
theorem w_5036 : (Cond.fieldLink "RoadOracle" (164 : Nat) "RoadOracle$Hierarchy" "lengths" "[I") ∈ WG := WG_in 114 (by decide +kernel) (by decide +kernel)
theorem w_5037 : (Cond.fieldLink "RoadOracle$Hierarchy" (32 : Nat) "RoadOracle$Hierarchy" "steps" "[I") ∈ WG := WG_in 115 (by decide +kernel) (by decide +kernel)
theorem w_5038 : (Cond.fieldLink "RoadOracle$Hierarchy" (35 : Nat) "RoadOracle$Hierarchy" "staleHeads" "[J") ∈ WG := WG_in 116 (by decide +kernel) (by decide +kernel)
theorem w_5039 : (Cond.fieldLink "RoadOracle$Hierarchy" (38 : Nat) "RoadOracle$Hierarchy" "staleTails" "[J") ∈ WG := WG_in 117 (by decide +kernel) (by decide +kernel)
theorem w_156 : (Cond.laysFinal "RoadOracle$Hierarchy" "RoadOracle$Hierarchy" "network" "LRoadOracle$Network;") ∈ WG := WG_in 118 (by decide +kernel) (by decide +kernel)
theorem w_158 : (Cond.lays "RoadOracle$Hierarchy" "RoadOracle$Hierarchy" "built" "Z") ∈ WG := WG_in 120 (by decide +kernel) (by decide +kernel)
theorem w_160 : (Cond.lays "RoadOracle$Hierarchy" "RoadOracle$Hierarchy" "roads" "I") ∈ WG := WG_in 122 (by decide +kernel) (by decide +kernel)
theorem w_162 : (Cond.lays "RoadOracle$Hierarchy" "RoadOracle$Hierarchy" "arcs" "I") ∈ WG := WG_in 124 (by decide +kernel) (by decide +kernel)
theorem w_164 : (Cond.lays "RoadOracle$Hierarchy" "RoadOracle$Hierarchy" "shortcuts" "I") ∈ WG := WG_in 126 (by decide +kernel) (by decide +kernel)
theorem w_166 : (Cond.laysFinal "RoadOracle$Hierarchy" "RoadOracle$Hierarchy" "positions" "[I") ∈ WG := WG_in 128 (by decide +kernel) (by decide +kernel)
theorem w_168 : (Cond.laysFinal "RoadOracle$Hierarchy" "RoadOracle$Hierarchy" "order" "[I") ∈ WG := WG_in 130 (by decide +kernel) (by decide +kernel)
theorem w_172 : (Cond.laysFinal "RoadOracle$Hierarchy" "RoadOracle$Hierarchy" "heads" "[J") ∈ WG := WG_in 132 (by decide +kernel) (by decide +kernel)
theorem w_174 : (Cond.laysFinal "RoadOracle$Hierarchy" "RoadOracle$Hierarchy" "tails" "[J") ∈ WG := WG_in 134 (by decide +kernel) (by decide +kernel)
theorem w_176 : (Cond.laysFinal "RoadOracle$Hierarchy" "RoadOracle$Hierarchy" "lengths" "[I") ∈ WG := WG_in 136 (by decide +kernel) (by decide +kernel)
theorem w_178 : (Cond.laysFinal "RoadOracle$Hierarchy" "RoadOracle$Hierarchy" "steps" "[I") ∈ WG := WG_in 138 (by decide +kernel) (by decide +kernel)
theorem w_180 : (Cond.laysFinal "RoadOracle$Hierarchy" "RoadOracle$Hierarchy" "staleHeads" "[J") ∈ WG := WG_in 140 (by decide +kernel) (by decide +kernel)
theorem w_182 : (Cond.laysFinal "RoadOracle$Hierarchy" "RoadOracle$Hierarchy" "staleTails" "[J") ∈ WG := WG_in 142 (by decide +kernel) (by decide +kernel)
theorem w_185 : (Cond.classLink "RoadOracle" (25 : Nat) "RoadOracle$Levels") ∈ WG := WG_in 145 (by decide +kernel) (by decide +kernel)
theorem w_186 : (Cond.instantiable "RoadOracle$Levels" (6 : Nat)) ∈ WG := WG_in 146 (by decide +kernel) (by decide +kernel)
theorem w_187 : (Cond.methodLink "RoadOracle" (27 : Nat) yX1_init) ∈ WG := WG_in 147 (by decide +kernel) (by decide +kernel)
theorem w_188 : (Cond.instanceMethod yX1_init) ∈ WG := WG_in 148 (by decide +kernel) (by decide +kernel)
theorem w_189 : (Cond.code yX1_init prog_3_method_1_code (1 : Nat) (Option.none : Option FieldType)) ∈ WG := WG_in 149 (by decide +kernel) (by decide +kernel)
theorem w_190 : (Cond.methodLink "RoadOracle$Levels" (3 : Nat) ({ cls := "java/lang/Object", name := "<init>", desc := "()V" } : MethodName)) ∈ WG := WG_in 150 (by decide +kernel) (by decide +kernel)
theorem w_191 : (Cond.constant "RoadOracle$Levels" (18 : Nat) (32768 : Int32)) ∈ WG := WG_in 151 (by decide +kernel) (by decide +kernel)
theorem w_194 : (Cond.fieldLink "RoadOracle$Levels" (9 : Nat) "RoadOracle$Levels" "roads" "[I") ∈ WG := WG_in 152 (by decide +kernel) (by decide +kernel)
theorem w_195 : (Cond.fieldLink "RoadOracle$Levels" (15 : Nat) "RoadOracle$Levels" "weights" "[I") ∈ WG := WG_in 153 (by decide +kernel) (by decide +kernel)
theorem w_196 : (Cond.fieldLink "RoadOracle$Levels" (19 : Nat) "RoadOracle$Levels" "settings" "[I") ∈ WG := WG_in 154 (by decide +kernel) (by decide +kernel)
theorem w_197 : (Cond.fieldLink "RoadOracle$Levels" (22 : Nat) "RoadOracle$Levels" "openRoads" "[J") ∈ WG := WG_in 155 (by decide +kernel) (by decide +kernel)
theorem w_198 : (Cond.fieldLink "RoadOracle$Levels" (26 : Nat) "RoadOracle$Levels" "uTurns" "[I") ∈ WG := WG_in 156 (by decide +kernel) (by decide +kernel)
theorem w_199 : (Cond.lays "RoadOracle$Levels" "RoadOracle$Levels" "count" "I") ∈ WG := WG_in 157 (by decide +kernel) (by decide +kernel)
theorem w_201 : (Cond.laysFinal "RoadOracle$Levels" "RoadOracle$Levels" "roads" "[I") ∈ WG := WG_in 159 (by decide +kernel) (by decide +kernel)
theorem w_203 : (Cond.laysFinal "RoadOracle$Levels" "RoadOracle$Levels" "weights" "[I") ∈ WG := WG_in 161 (by decide +kernel) (by decide +kernel)
theorem w_205 : (Cond.laysFinal "RoadOracle$Levels" "RoadOracle$Levels" "settings" "[I") ∈ WG := WG_in 163 (by decide +kernel) (by decide +kernel)
theorem w_207 : (Cond.laysFinal "RoadOracle$Levels" "RoadOracle$Levels" "openRoads" "[J") ∈ WG := WG_in 165 (by decide +kernel) (by decide +kernel)
theorem w_209 : (Cond.laysFinal "RoadOracle$Levels" "RoadOracle$Levels" "uTurns" "[I") ∈ WG := WG_in 167 (by decide +kernel) (by decide +kernel)
theorem w_212 : (Cond.fieldLink "RoadOracle" (12 : Nat) "RoadOracle" "network" "LRoadOracle$Network;") ∈ WG := WG_in 170 (by decide +kernel) (by decide +kernel)
theorem w_213 : (Cond.fieldLink "RoadOracle" (21 : Nat) "RoadOracle" "hierarchy" "LRoadOracle$Hierarchy;") ∈ WG := WG_in 171 (by decide +kernel) (by decide +kernel)
theorem w_214 : (Cond.fieldLink "RoadOracle" (28 : Nat) "RoadOracle" "levels" "LRoadOracle$Levels;") ∈ WG := WG_in 172 (by decide +kernel) (by decide +kernel)
theorem w_215 : (Cond.fieldLink "RoadOracle" (32 : Nat) "RoadOracle" "places" "[Z") ∈ WG := WG_in 173 (by decide +kernel) (by decide +kernel)
theorem w_216 : (Cond.fieldLink "RoadOracle" (36 : Nat) "RoadOracle" "lengths" "[I") ∈ WG := WG_in 174 (by decide +kernel) (by decide +kernel)
theorem w_5062 : (Cond.fieldLink "RoadOracle" (40 : Nat) "RoadOracle" "junctionLengths" "[I") ∈ WG := WG_in 175 (by decide +kernel) (by decide +kernel)
theorem w_5063 : (Cond.fieldLink "RoadOracle" (43 : Nat) "RoadOracle" "pathRoads" "[I") ∈ WG := WG_in 176 (by decide +kernel) (by decide +kernel)
theorem w_5066 : (Cond.fieldLink "RoadOracle" (46 : Nat) "RoadOracle" "reachedJunctions" "[I") ∈ WG := WG_in 177 (by decide +kernel) (by decide +kernel)
theorem w_5067 : (Cond.fieldLink "RoadOracle" (49 : Nat) "RoadOracle" "reachedCosts" "[I") ∈ WG := WG_in 178 (by decide +kernel) (by decide +kernel)
theorem w_223 : (Cond.laysFinal "RoadOracle" "RoadOracle" "network" "LRoadOracle$Network;") ∈ WG := WG_in 179 (by decide +kernel) (by decide +kernel)
theorem w_225 : (Cond.laysFinal "RoadOracle" "RoadOracle" "hierarchy" "LRoadOracle$Hierarchy;") ∈ WG := WG_in 181 (by decide +kernel) (by decide +kernel)
theorem w_227 : (Cond.laysFinal "RoadOracle" "RoadOracle" "levels" "LRoadOracle$Levels;") ∈ WG := WG_in 183 (by decide +kernel) (by decide +kernel)
theorem w_229 : (Cond.laysFinal "RoadOracle" "RoadOracle" "places" "[Z") ∈ WG := WG_in 185 (by decide +kernel) (by decide +kernel)
theorem w_231 : (Cond.laysFinal "RoadOracle" "RoadOracle" "lengths" "[I") ∈ WG := WG_in 187 (by decide +kernel) (by decide +kernel)
theorem w_5074 : (Cond.laysFinal "RoadOracle" "RoadOracle" "junctionLengths" "[I") ∈ WG := WG_in 189 (by decide +kernel) (by decide +kernel)
theorem w_233 : (Cond.laysFinal "RoadOracle" "RoadOracle" "pathRoads" "[I") ∈ WG := WG_in 191 (by decide +kernel) (by decide +kernel)
theorem w_235 : (Cond.lays "RoadOracle" "RoadOracle" "pathLength" "I") ∈ WG := WG_in 193 (by decide +kernel) (by decide +kernel)
theorem w_237 : (Cond.lays "RoadOracle" "RoadOracle" "pathCost" "I") ∈ WG := WG_in 195 (by decide +kernel) (by decide +kernel)
theorem w_239 : (Cond.laysFinal "RoadOracle" "RoadOracle" "reachedJunctions" "[I") ∈ WG := WG_in 197 (by decide +kernel) (by decide +kernel)
theorem w_241 : (Cond.laysFinal "RoadOracle" "RoadOracle" "reachedCosts" "[I") ∈ WG := WG_in 199 (by decide +kernel) (by decide +kernel)
theorem w_243 : (Cond.lays "RoadOracle" "RoadOracle" "reachedCount" "I") ∈ WG := WG_in 201 (by decide +kernel) (by decide +kernel)
theorem w_246 : (Cond.arrayClass FieldType.boolean) ∈ WG := WG_in 204 (by decide +kernel) (by decide +kernel)
theorem w_5225 : (Cond.methodLink "RoadOracleLaw" (65 : Nat) yX3_prepare) ∈ WG := WG_in 205 (by decide +kernel) (by decide +kernel)
theorem w_580 : (Cond.instanceMethod yX3_prepare) ∈ WG := WG_in 206 (by decide +kernel) (by decide +kernel)
theorem w_581 : (Cond.selects "RoadOracle" yX3_prepare yX3_prepare) ∈ WG := WG_in 207 (by decide +kernel) (by decide +kernel)
theorem w_582 : (Cond.code yX3_prepare prog_1_method_13_code (1 : Nat) (Option.some FieldType.int)) ∈ WG := WG_in 208 (by decide +kernel) (by decide +kernel)
theorem w_5090 : (Cond.classLink "RoadOracle" (56 : Nat) "java/lang/IllegalStateException") ∈ WG := WG_in 209 (by decide +kernel) (by decide +kernel)
theorem w_308 : (Cond.instantiable "java/lang/IllegalStateException" (6 : Nat)) ∈ WG := WG_in 210 (by decide +kernel) (by decide +kernel)
theorem w_316 : (Cond.selects "java/lang/IllegalStateException" ({ cls := "java/lang/Throwable", name := "fillInStackTrace", desc := "(I)Ljava/lang/Throwable;" } : MethodName) ({ cls := "java/lang/Throwable", name := "fillInStackTrace", desc := "(I)Ljava/lang/Throwable;" } : MethodName)) ∈ WG := WG_in 218 (by decide +kernel) (by decide +kernel)
theorem w_317 : (Cond.selects "java/lang/IllegalStateException" ({ cls := "java/lang/Throwable", name := "fillInStackTrace", desc := "()Ljava/lang/Throwable;" } : MethodName) ({ cls := "java/lang/Throwable", name := "fillInStackTrace", desc := "()Ljava/lang/Throwable;" } : MethodName)) ∈ WG := WG_in 219 (by decide +kernel) (by decide +kernel)
theorem w_318 : (Cond.lays "java/lang/IllegalStateException" "java/lang/Throwable" "cause" "Ljava/lang/Throwable;") ∈ WG := WG_in 220 (by decide +kernel) (by decide +kernel)
theorem w_319 : (Cond.lays "java/lang/Throwable" "java/lang/Throwable" "cause" "Ljava/lang/Throwable;") ∈ WG := WG_in 221 (by decide +kernel) (by decide +kernel)
theorem w_320 : (Cond.lays "java/lang/IllegalStateException" "java/lang/Throwable" "stackTrace" "[Ljava/lang/StackTraceElement;") ∈ WG := WG_in 222 (by decide +kernel) (by decide +kernel)
theorem w_321 : (Cond.lays "java/lang/Throwable" "java/lang/Throwable" "stackTrace" "[Ljava/lang/StackTraceElement;") ∈ WG := WG_in 223 (by decide +kernel) (by decide +kernel)
theorem w_322 : (Cond.lays "java/lang/IllegalStateException" "java/lang/Throwable" "suppressedExceptions" "Ljava/util/List;") ∈ WG := WG_in 224 (by decide +kernel) (by decide +kernel)
theorem w_323 : (Cond.lays "java/lang/Throwable" "java/lang/Throwable" "suppressedExceptions" "Ljava/util/List;") ∈ WG := WG_in 225 (by decide +kernel) (by decide +kernel)
theorem w_324 : (Cond.lays "java/lang/IllegalStateException" "java/lang/Throwable" "detailMessage" "Ljava/lang/String;") ∈ WG := WG_in 226 (by decide +kernel) (by decide +kernel)
theorem w_325 : (Cond.lays "java/lang/Throwable" "java/lang/Throwable" "detailMessage" "Ljava/lang/String;") ∈ WG := WG_in 227 (by decide +kernel) (by decide +kernel)
theorem w_326 : (Cond.lays "java/lang/IllegalStateException" "java/lang/Throwable" "backtrace" "Ljava/lang/Object;") ∈ WG := WG_in 228 (by decide +kernel) (by decide +kernel)
theorem w_327 : (Cond.lays "java/lang/Throwable" "java/lang/Throwable" "backtrace" "Ljava/lang/Object;") ∈ WG := WG_in 229 (by decide +kernel) (by decide +kernel)
theorem w_362 : (Cond.fieldLink "java/lang/Throwable" (198 : Nat) "java/lang/Throwable" "backtrace" "Ljava/lang/Object;") ∈ WG := WG_in 230 (by decide +kernel) (by decide +kernel)
theorem w_330 : (Cond.instanceMethod ({ cls := "java/lang/Throwable", name := "<init>", desc := "()V" } : MethodName)) ∈ WG := WG_in 232 (by decide +kernel) (by decide +kernel)
theorem w_5226 : (Cond.code ({ cls := "java/lang/Throwable", name := "<init>", desc := "()V" } : MethodName) prog_16_method_1_code (1 : Nat) (Option.none : Option FieldType)) ∈ WG := WG_in 233 (by decide +kernel) (by decide +kernel)
theorem w_332 : (Cond.methodLink "java/lang/Throwable" (1 : Nat) ({ cls := "java/lang/Object", name := "<init>", desc := "()V" } : MethodName)) ∈ WG := WG_in 234 (by decide +kernel) (by decide +kernel)
theorem w_333 : (Cond.fieldLink "java/lang/Throwable" (13 : Nat) "java/lang/Throwable" "UNASSIGNED_STACK" "[Ljava/lang/StackTraceElement;") ∈ WG := WG_in 235 (by decide +kernel) (by decide +kernel)
theorem w_335 : (Cond.fieldLink "java/lang/Throwable" (20 : Nat) "java/lang/Throwable" "SUPPRESSED_SENTINEL" "Ljava/util/List;") ∈ WG := WG_in 237 (by decide +kernel) (by decide +kernel)
theorem w_337 : (Cond.methodLink "java/lang/Throwable" (27 : Nat) ({ cls := "java/lang/Throwable", name := "fillInStackTrace", desc := "()Ljava/lang/Throwable;" } : MethodName)) ∈ WG := WG_in 239 (by decide +kernel) (by decide +kernel)
theorem w_338 : (Cond.instanceMethod ({ cls := "java/lang/Throwable", name := "fillInStackTrace", desc := "()Ljava/lang/Throwable;" } : MethodName)) ∈ WG := WG_in 240 (by decide +kernel) (by decide +kernel)
theorem w_339 : (Cond.sameMethod "java/lang/Throwable" "java/lang/Throwable" "fillInStackTrace" "()Ljava/lang/Throwable;") ∈ WG := WG_in 241 (by decide +kernel) (by decide +kernel)
theorem w_340 : (Cond.selects "java/lang/IllegalArgumentException" ({ cls := "java/lang/Throwable", name := "fillInStackTrace", desc := "()Ljava/lang/Throwable;" } : MethodName) ({ cls := "java/lang/Throwable", name := "fillInStackTrace", desc := "()Ljava/lang/Throwable;" } : MethodName)) ∈ WG := WG_in 242 (by decide +kernel) (by decide +kernel)
theorem w_341 : (Cond.selects "java/lang/IndexOutOfBoundsException" ({ cls := "java/lang/Throwable", name := "fillInStackTrace", desc := "()Ljava/lang/Throwable;" } : MethodName) ({ cls := "java/lang/Throwable", name := "fillInStackTrace", desc := "()Ljava/lang/Throwable;" } : MethodName)) ∈ WG := WG_in 243 (by decide +kernel) (by decide +kernel)
theorem w_342 : (Cond.selects "java/util/NoSuchElementException" ({ cls := "java/lang/Throwable", name := "fillInStackTrace", desc := "()Ljava/lang/Throwable;" } : MethodName) ({ cls := "java/lang/Throwable", name := "fillInStackTrace", desc := "()Ljava/lang/Throwable;" } : MethodName)) ∈ WG := WG_in 244 (by decide +kernel) (by decide +kernel)
theorem w_5227 : (Cond.codeSync ({ cls := "java/lang/Throwable", name := "fillInStackTrace", desc := "()Ljava/lang/Throwable;" } : MethodName) prog_16_method_18_code (1 : Nat) (Option.some (FieldType.object "java/lang/Throwable"))) ∈ WG := WG_in 245 (by decide +kernel) (by decide +kernel)
theorem w_344 : (Cond.methodLink "java/lang/Throwable" (202 : Nat) ({ cls := "java/lang/Throwable", name := "fillInStackTrace", desc := "(I)Ljava/lang/Throwable;" } : MethodName)) ∈ WG := WG_in 246 (by decide +kernel) (by decide +kernel)
theorem w_346 : (Cond.instanceMethod ({ cls := "java/lang/Throwable", name := "fillInStackTrace", desc := "(I)Ljava/lang/Throwable;" } : MethodName)) ∈ WG := WG_in 248 (by decide +kernel) (by decide +kernel)
theorem w_347 : (Cond.instantiable "java/lang/Throwable" (6 : Nat)) ∈ WG := WG_in 249 (by decide +kernel) (by decide +kernel)
theorem w_348 : (Cond.native ({ cls := "java/lang/Throwable", name := "fillInStackTrace", desc := "(I)Ljava/lang/Throwable;" } : MethodName)) ∈ WG := WG_in 250 (by decide +kernel) (by decide +kernel)
theorem w_5094 : (Cond.methodLink "RoadOracle" (60 : Nat) ({ cls := "java/lang/IllegalStateException", name := "<init>", desc := "(Ljava/lang/String;)V" } : MethodName)) ∈ WG := WG_in 252 (by decide +kernel) (by decide +kernel)
theorem w_351 : (Cond.instanceMethod ({ cls := "java/lang/IllegalStateException", name := "<init>", desc := "(Ljava/lang/String;)V" } : MethodName)) ∈ WG := WG_in 253 (by decide +kernel) (by decide +kernel)
theorem w_5095 : (Cond.code ({ cls := "java/lang/IllegalStateException", name := "<init>", desc := "(Ljava/lang/String;)V" } : MethodName) prog_10_method_2_code (2 : Nat) (Option.none : Option FieldType)) ∈ WG := WG_in 254 (by decide +kernel) (by decide +kernel)
theorem w_353 : (Cond.methodLink "java/lang/IllegalStateException" (7 : Nat) ({ cls := "java/lang/RuntimeException", name := "<init>", desc := "(Ljava/lang/String;)V" } : MethodName)) ∈ WG := WG_in 255 (by decide +kernel) (by decide +kernel)
theorem w_354 : (Cond.instanceMethod ({ cls := "java/lang/RuntimeException", name := "<init>", desc := "(Ljava/lang/String;)V" } : MethodName)) ∈ WG := WG_in 256 (by decide +kernel) (by decide +kernel)
theorem w_5096 : (Cond.code ({ cls := "java/lang/RuntimeException", name := "<init>", desc := "(Ljava/lang/String;)V" } : MethodName) prog_14_method_2_code (2 : Nat) (Option.none : Option FieldType)) ∈ WG := WG_in 257 (by decide +kernel) (by decide +kernel)
theorem w_356 : (Cond.methodLink "java/lang/RuntimeException" (7 : Nat) ({ cls := "java/lang/Exception", name := "<init>", desc := "(Ljava/lang/String;)V" } : MethodName)) ∈ WG := WG_in 258 (by decide +kernel) (by decide +kernel)
theorem w_357 : (Cond.instanceMethod ({ cls := "java/lang/Exception", name := "<init>", desc := "(Ljava/lang/String;)V" } : MethodName)) ∈ WG := WG_in 259 (by decide +kernel) (by decide +kernel)
theorem w_5097 : (Cond.code ({ cls := "java/lang/Exception", name := "<init>", desc := "(Ljava/lang/String;)V" } : MethodName) prog_8_method_2_code (2 : Nat) (Option.none : Option FieldType)) ∈ WG := WG_in 260 (by decide +kernel) (by decide +kernel)
theorem w_359 : (Cond.methodLink "java/lang/Exception" (7 : Nat) ({ cls := "java/lang/Throwable", name := "<init>", desc := "(Ljava/lang/String;)V" } : MethodName)) ∈ WG := WG_in 261 (by decide +kernel) (by decide +kernel)
theorem w_360 : (Cond.instanceMethod ({ cls := "java/lang/Throwable", name := "<init>", desc := "(Ljava/lang/String;)V" } : MethodName)) ∈ WG := WG_in 262 (by decide +kernel) (by decide +kernel)
theorem w_5228 : (Cond.code ({ cls := "java/lang/Throwable", name := "<init>", desc := "(Ljava/lang/String;)V" } : MethodName) prog_16_method_2_code (2 : Nat) (Option.none : Option FieldType)) ∈ WG := WG_in 263 (by decide +kernel) (by decide +kernel)
theorem w_363 : (Cond.fieldLink "java/lang/Throwable" (31 : Nat) "java/lang/Throwable" "detailMessage" "Ljava/lang/String;") ∈ WG := WG_in 265 (by decide +kernel) (by decide +kernel)
theorem w_364 : (Cond.fieldLink "java/lang/Throwable" (7 : Nat) "java/lang/Throwable" "cause" "Ljava/lang/Throwable;") ∈ WG := WG_in 266 (by decide +kernel) (by decide +kernel)
theorem w_365 : (Cond.fieldLink "java/lang/Throwable" (17 : Nat) "java/lang/Throwable" "stackTrace" "[Ljava/lang/StackTraceElement;") ∈ WG := WG_in 267 (by decide +kernel) (by decide +kernel)
theorem w_366 : (Cond.fieldLink "java/lang/Throwable" (24 : Nat) "java/lang/Throwable" "suppressedExceptions" "Ljava/util/List;") ∈ WG := WG_in 268 (by decide +kernel) (by decide +kernel)
theorem w_371 : (Cond.lays "java/lang/IllegalStateException" "java/lang/Throwable" "depth" "I") ∈ WG := WG_in 273 (by decide +kernel) (by decide +kernel)
theorem w_375 : (Cond.arrayClass FieldType.byte) ∈ WG := WG_in 277 (by decide +kernel) (by decide +kernel)
theorem w_5146 : (Cond.methodLink "RoadOracle" (140 : Nat) yX0_build) ∈ WG := WG_in 278 (by decide +kernel) (by decide +kernel)
theorem w_585 : (Cond.instanceMethod yX0_build) ∈ WG := WG_in 279 (by decide +kernel) (by decide +kernel)
theorem w_586 : (Cond.selects "RoadOracle$Hierarchy" yX0_build yX0_build) ∈ WG := WG_in 280 (by decide +kernel) (by decide +kernel)
theorem w_587 : (Cond.code yX0_build prog_2_method_2_code (6 : Nat) (Option.none : Option FieldType)) ∈ WG := WG_in 281 (by decide +kernel) (by decide +kernel)
theorem w_5147 : (Cond.methodLink "RoadOracle$Hierarchy" (48 : Nat) yX0_linkTurns) ∈ WG := WG_in 282 (by decide +kernel) (by decide +kernel)
theorem w_590 : (Cond.instanceMethod yX0_linkTurns) ∈ WG := WG_in 284 (by decide +kernel) (by decide +kernel)
theorem w_591 : (Cond.code yX0_linkTurns prog_2_method_3_code (3 : Nat) (Option.some FieldType.int)) ∈ WG := WG_in 285 (by decide +kernel) (by decide +kernel)
theorem w_459 : (Cond.methodLink "RoadOracle$Hierarchy" (98 : Nat) yX2_followersOf) ∈ WG := WG_in 286 (by decide +kernel) (by decide +kernel)
theorem w_460 : (Cond.instanceMethod yX2_followersOf) ∈ WG := WG_in 287 (by decide +kernel) (by decide +kernel)
theorem w_461 : (Cond.selects "RoadOracle$Network" yX2_followersOf yX2_followersOf) ∈ WG := WG_in 288 (by decide +kernel) (by decide +kernel)
theorem w_462 : (Cond.code yX2_followersOf prog_4_method_5_code (2 : Nat) (Option.some FieldType.long)) ∈ WG := WG_in 289 (by decide +kernel) (by decide +kernel)
theorem w_450 : (Cond.methodLink "RoadOracle$Hierarchy" (101 : Nat) yX2_forerunnersOf) ∈ WG := WG_in 290 (by decide +kernel) (by decide +kernel)
theorem w_451 : (Cond.instanceMethod yX2_forerunnersOf) ∈ WG := WG_in 291 (by decide +kernel) (by decide +kernel)
theorem w_452 : (Cond.selects "RoadOracle$Network" yX2_forerunnersOf yX2_forerunnersOf) ∈ WG := WG_in 292 (by decide +kernel) (by decide +kernel)
theorem w_453 : (Cond.code yX2_forerunnersOf prog_4_method_6_code (2 : Nat) (Option.some FieldType.long)) ∈ WG := WG_in 293 (by decide +kernel) (by decide +kernel)
theorem w_5148 : (Cond.methodLink "RoadOracle$Hierarchy" (73 : Nat) yJ13_bitCount_95d88) ∈ WG := WG_in 294 (by decide +kernel) (by decide +kernel)
theorem w_593 : (Cond.static yJ13_bitCount_95d88) ∈ WG := WG_in 295 (by decide +kernel) (by decide +kernel)
theorem w_594 : (Cond.code yJ13_bitCount_95d88 prog_12_method_50_code (2 : Nat) (Option.some FieldType.int)) ∈ WG := WG_in 296 (by decide +kernel) (by decide +kernel)
theorem w_595 : (Cond.constantLong "java/lang/Long" (314 : Nat) (6148914691236517205 : Int64)) ∈ WG := WG_in 297 (by decide +kernel) (by decide +kernel)
theorem w_596 : (Cond.constantLong "java/lang/Long" (316 : Nat) (3689348814741910323 : Int64)) ∈ WG := WG_in 298 (by decide +kernel) (by decide +kernel)
theorem w_597 : (Cond.constantLong "java/lang/Long" (318 : Nat) (1085102592571150095 : Int64)) ∈ WG := WG_in 299 (by decide +kernel) (by decide +kernel)
theorem w_5144 : (Cond.methodLink "RoadOracle$Hierarchy" (52 : Nat) yX2_allRoads) ∈ WG := WG_in 300 (by decide +kernel) (by decide +kernel)
theorem w_550 : (Cond.instanceMethod yX2_allRoads) ∈ WG := WG_in 301 (by decide +kernel) (by decide +kernel)
theorem w_551 : (Cond.selects "RoadOracle$Network" yX2_allRoads yX2_allRoads) ∈ WG := WG_in 302 (by decide +kernel) (by decide +kernel)
theorem w_552 : (Cond.code yX2_allRoads prog_4_method_4_code (1 : Nat) (Option.some FieldType.long)) ∈ WG := WG_in 303 (by decide +kernel) (by decide +kernel)
theorem w_553 : (Cond.constantLong "RoadOracle$Network" (52 : Nat) (-1 : Int64)) ∈ WG := WG_in 304 (by decide +kernel) (by decide +kernel)
theorem w_432 : (Cond.static yX3_only) ∈ WG := WG_in 306 (by decide +kernel) (by decide +kernel)
theorem w_433 : (Cond.code yX3_only prog_1_method_51_code (1 : Nat) (Option.some FieldType.long)) ∈ WG := WG_in 307 (by decide +kernel) (by decide +kernel)
theorem w_5149 : (Cond.methodLink "RoadOracle$Hierarchy" (56 : Nat) yX0_cheapest) ∈ WG := WG_in 308 (by decide +kernel) (by decide +kernel)
theorem w_600 : (Cond.instanceMethod yX0_cheapest) ∈ WG := WG_in 310 (by decide +kernel) (by decide +kernel)
theorem w_5150 : (Cond.code yX0_cheapest prog_2_method_4_code (8 : Nat) (Option.some FieldType.int)) ∈ WG := WG_in 311 (by decide +kernel) (by decide +kernel)
theorem w_5151 : (Cond.constant "RoadOracle$Hierarchy" (81 : Nat) (536870912 : Int32)) ∈ WG := WG_in 312 (by decide +kernel) (by decide +kernel)
theorem w_274 : (Cond.static yX3_has) ∈ WG := WG_in 314 (by decide +kernel) (by decide +kernel)
theorem w_275 : (Cond.code yX3_has prog_1_method_52_code (3 : Nat) (Option.some FieldType.boolean)) ∈ WG := WG_in 315 (by decide +kernel) (by decide +kernel)
theorem w_5152 : (Cond.constantLong "RoadOracle$Hierarchy" (64 : Nat) (-1 : Int64)) ∈ WG := WG_in 317 (by decide +kernel) (by decide +kernel)
theorem w_5153 : (Cond.methodLink "RoadOracle$Hierarchy" (66 : Nat) yX0_bridge) ∈ WG := WG_in 318 (by decide +kernel) (by decide +kernel)
theorem w_605 : (Cond.instanceMethod yX0_bridge) ∈ WG := WG_in 320 (by decide +kernel) (by decide +kernel)
theorem w_606 : (Cond.code yX0_bridge prog_2_method_5_code (6 : Nat) (Option.none : Option FieldType)) ∈ WG := WG_in 321 (by decide +kernel) (by decide +kernel)
theorem w_5154 : (Cond.methodLink "RoadOracle$Hierarchy" (82 : Nat) yJ7_fill_53178) ∈ WG := WG_in 322 (by decide +kernel) (by decide +kernel)
theorem w_5119 : (Cond.methodLink "RoadOracle$Hierarchy" (88 : Nat) yX0_renewSteps) ∈ WG := WG_in 323 (by decide +kernel) (by decide +kernel)
theorem w_457 : (Cond.instanceMethod yX0_renewSteps) ∈ WG := WG_in 325 (by decide +kernel) (by decide +kernel)
theorem w_5120 : (Cond.code yX0_renewSteps prog_2_method_9_code (6 : Nat) (Option.none : Option FieldType)) ∈ WG := WG_in 326 (by decide +kernel) (by decide +kernel)
theorem w_5121 : (Cond.methodLink "RoadOracle$Hierarchy" (108 : Nat) yX0_renewStepsFrom) ∈ WG := WG_in 327 (by decide +kernel) (by decide +kernel)
theorem w_5122 : (Cond.instanceMethod yX0_renewStepsFrom) ∈ WG := WG_in 329 (by decide +kernel) (by decide +kernel)
theorem w_5123 : (Cond.code yX0_renewStepsFrom prog_2_method_10_code (6 : Nat) (Option.none : Option FieldType)) ∈ WG := WG_in 330 (by decide +kernel) (by decide +kernel)
theorem w_5124 : (Cond.methodLink "RoadOracle$Hierarchy" (112 : Nat) yX2_stepLength) ∈ WG := WG_in 331 (by decide +kernel) (by decide +kernel)
theorem w_464 : (Cond.instanceMethod yX2_stepLength) ∈ WG := WG_in 332 (by decide +kernel) (by decide +kernel)
theorem w_465 : (Cond.selects "RoadOracle$Network" yX2_stepLength yX2_stepLength) ∈ WG := WG_in 333 (by decide +kernel) (by decide +kernel)
theorem w_466 : (Cond.code yX2_stepLength prog_4_method_9_code (4 : Nat) (Option.some FieldType.int)) ∈ WG := WG_in 334 (by decide +kernel) (by decide +kernel)
theorem w_467 : (Cond.methodLink "RoadOracle$Network" (58 : Nat) yX2_penaltyOf) ∈ WG := WG_in 335 (by decide +kernel) (by decide +kernel)
theorem w_468 : (Cond.instanceMethod yX2_penaltyOf) ∈ WG := WG_in 336 (by decide +kernel) (by decide +kernel)
theorem w_469 : (Cond.selects "RoadOracle$Network" yX2_penaltyOf yX2_penaltyOf) ∈ WG := WG_in 337 (by decide +kernel) (by decide +kernel)
theorem w_470 : (Cond.code yX2_penaltyOf prog_4_method_7_code (4 : Nat) (Option.some FieldType.int)) ∈ WG := WG_in 338 (by decide +kernel) (by decide +kernel)
theorem w_293 : (Cond.static yX3_pair) ∈ WG := WG_in 340 (by decide +kernel) (by decide +kernel)
theorem w_294 : (Cond.code yX3_pair prog_1_method_49_code (2 : Nat) (Option.some FieldType.int)) ∈ WG := WG_in 341 (by decide +kernel) (by decide +kernel)
theorem w_473 : (Cond.constant "RoadOracle$Network" (65 : Nat) (536870912 : Int32)) ∈ WG := WG_in 343 (by decide +kernel) (by decide +kernel)
theorem w_474 : (Cond.methodLink "RoadOracle$Network" (66 : Nat) yX2_roadLength) ∈ WG := WG_in 344 (by decide +kernel) (by decide +kernel)
theorem w_475 : (Cond.instanceMethod yX2_roadLength) ∈ WG := WG_in 345 (by decide +kernel) (by decide +kernel)
theorem w_476 : (Cond.selects "RoadOracle$Network" yX2_roadLength yX2_roadLength) ∈ WG := WG_in 346 (by decide +kernel) (by decide +kernel)
theorem w_477 : (Cond.code yX2_roadLength prog_4_method_8_code (2 : Nat) (Option.some FieldType.int)) ∈ WG := WG_in 347 (by decide +kernel) (by decide +kernel)
theorem w_5125 : (Cond.methodLink "RoadOracle$Hierarchy" (119 : Nat) yX0_markArc) ∈ WG := WG_in 349 (by decide +kernel) (by decide +kernel)
theorem w_5126 : (Cond.instanceMethod yX0_markArc) ∈ WG := WG_in 351 (by decide +kernel) (by decide +kernel)
theorem w_5127 : (Cond.code yX0_markArc prog_2_method_11_code (3 : Nat) (Option.none : Option FieldType)) ∈ WG := WG_in 352 (by decide +kernel) (by decide +kernel)
theorem w_5128 : (Cond.methodLink "RoadOracle$Hierarchy" (91 : Nat) yX0_settle) ∈ WG := WG_in 353 (by decide +kernel) (by decide +kernel)
theorem w_485 : (Cond.instanceMethod yX0_settle) ∈ WG := WG_in 355 (by decide +kernel) (by decide +kernel)
theorem w_5129 : (Cond.code yX0_settle prog_2_method_12_code (6 : Nat) (Option.some FieldType.int)) ∈ WG := WG_in 356 (by decide +kernel) (by decide +kernel)
theorem w_5130 : (Cond.methodLink "RoadOracle$Hierarchy" (123 : Nat) yX0_settleArc) ∈ WG := WG_in 357 (by decide +kernel) (by decide +kernel)
theorem w_489 : (Cond.instanceMethod yX0_settleArc) ∈ WG := WG_in 359 (by decide +kernel) (by decide +kernel)
theorem w_490 : (Cond.code yX0_settleArc prog_2_method_13_code (5 : Nat) (Option.some FieldType.int)) ∈ WG := WG_in 360 (by decide +kernel) (by decide +kernel)
theorem w_5131 : (Cond.methodLink "RoadOracle$Hierarchy" (126 : Nat) yX0_computeArc) ∈ WG := WG_in 361 (by decide +kernel) (by decide +kernel)
theorem w_493 : (Cond.instanceMethod yX0_computeArc) ∈ WG := WG_in 363 (by decide +kernel) (by decide +kernel)
theorem w_5132 : (Cond.code yX0_computeArc prog_2_method_14_code (10 : Nat) (Option.some FieldType.int)) ∈ WG := WG_in 364 (by decide +kernel) (by decide +kernel)
theorem w_5133 : (Cond.methodLink "RoadOracle$Hierarchy" (136 : Nat) yJ9_min_7cf53) ∈ WG := WG_in 365 (by decide +kernel) (by decide +kernel)
theorem w_496 : (Cond.static yJ9_min_7cf53) ∈ WG := WG_in 366 (by decide +kernel) (by decide +kernel)
theorem w_497 : (Cond.code yJ9_min_7cf53 prog_13_method_69_code (2 : Nat) (Option.some FieldType.int)) ∈ WG := WG_in 367 (by decide +kernel) (by decide +kernel)
theorem w_5134 : (Cond.methodLink "RoadOracle$Hierarchy" (129 : Nat) yX0_markAbove) ∈ WG := WG_in 368 (by decide +kernel) (by decide +kernel)
theorem w_500 : (Cond.instanceMethod yX0_markAbove) ∈ WG := WG_in 370 (by decide +kernel) (by decide +kernel)
theorem w_5135 : (Cond.code yX0_markAbove prog_2_method_15_code (5 : Nat) (Option.none : Option FieldType)) ∈ WG := WG_in 371 (by decide +kernel) (by decide +kernel)
theorem w_296 : (Cond.static yX3_costOf) ∈ WG := WG_in 373 (by decide +kernel) (by decide +kernel)
theorem w_297 : (Cond.code yX3_costOf prog_1_method_48_code (1 : Nat) (Option.some FieldType.int)) ∈ WG := WG_in 374 (by decide +kernel) (by decide +kernel)
theorem w_5089 : (Cond.constant "RoadOracle" (171 : Nat) (536870912 : Int32)) ∈ WG := WG_in 375 (by decide +kernel) (by decide +kernel)
theorem w_5229 : (Cond.methodLink "RoadOracleLaw" (84 : Nat) yX3_distance) ∈ WG := WG_in 376 (by decide +kernel) (by decide +kernel)
theorem w_657 : (Cond.instanceMethod yX3_distance) ∈ WG := WG_in 377 (by decide +kernel) (by decide +kernel)
theorem w_658 : (Cond.selects "RoadOracle" yX3_distance yX3_distance) ∈ WG := WG_in 378 (by decide +kernel) (by decide +kernel)
theorem w_659 : (Cond.code yX3_distance prog_1_method_19_code (3 : Nat) (Option.some FieldType.int)) ∈ WG := WG_in 379 (by decide +kernel) (by decide +kernel)
theorem w_5155 : (Cond.methodLink "RoadOracle" (146 : Nat) yX3_requireHierarchy) ∈ WG := WG_in 380 (by decide +kernel) (by decide +kernel)
theorem w_618 : (Cond.instanceMethod yX3_requireHierarchy) ∈ WG := WG_in 382 (by decide +kernel) (by decide +kernel)
theorem w_619 : (Cond.code yX3_requireHierarchy prog_1_method_38_code (1 : Nat) (Option.none : Option FieldType)) ∈ WG := WG_in 383 (by decide +kernel) (by decide +kernel)
theorem w_5106 : (Cond.methodLink "RoadOracle" (63 : Nat) yX3_requireJunction) ∈ WG := WG_in 385 (by decide +kernel) (by decide +kernel)
theorem w_387 : (Cond.instanceMethod yX3_requireJunction) ∈ WG := WG_in 387 (by decide +kernel) (by decide +kernel)
theorem w_388 : (Cond.code yX3_requireJunction prog_1_method_33_code (2 : Nat) (Option.none : Option FieldType)) ∈ WG := WG_in 388 (by decide +kernel) (by decide +kernel)
theorem w_5107 : (Cond.classLink "RoadOracle" (204 : Nat) "java/lang/IndexOutOfBoundsException") ∈ WG := WG_in 389 (by decide +kernel) (by decide +kernel)
theorem w_390 : (Cond.instantiable "java/lang/IndexOutOfBoundsException" (6 : Nat)) ∈ WG := WG_in 390 (by decide +kernel) (by decide +kernel)
theorem w_392 : (Cond.selects "java/lang/IndexOutOfBoundsException" ({ cls := "java/lang/Throwable", name := "fillInStackTrace", desc := "(I)Ljava/lang/Throwable;" } : MethodName) ({ cls := "java/lang/Throwable", name := "fillInStackTrace", desc := "(I)Ljava/lang/Throwable;" } : MethodName)) ∈ WG := WG_in 392 (by decide +kernel) (by decide +kernel)
theorem w_393 : (Cond.lays "java/lang/IndexOutOfBoundsException" "java/lang/Throwable" "cause" "Ljava/lang/Throwable;") ∈ WG := WG_in 393 (by decide +kernel) (by decide +kernel)
theorem w_394 : (Cond.lays "java/lang/IndexOutOfBoundsException" "java/lang/Throwable" "stackTrace" "[Ljava/lang/StackTraceElement;") ∈ WG := WG_in 394 (by decide +kernel) (by decide +kernel)
theorem w_395 : (Cond.lays "java/lang/IndexOutOfBoundsException" "java/lang/Throwable" "suppressedExceptions" "Ljava/util/List;") ∈ WG := WG_in 395 (by decide +kernel) (by decide +kernel)
theorem w_396 : (Cond.lays "java/lang/IndexOutOfBoundsException" "java/lang/Throwable" "detailMessage" "Ljava/lang/String;") ∈ WG := WG_in 396 (by decide +kernel) (by decide +kernel)
theorem w_397 : (Cond.lays "java/lang/IndexOutOfBoundsException" "java/lang/Throwable" "backtrace" "Ljava/lang/Object;") ∈ WG := WG_in 397 (by decide +kernel) (by decide +kernel)
theorem w_5108 : (Cond.methodLink "RoadOracle" (208 : Nat) ({ cls := "java/lang/IndexOutOfBoundsException", name := "<init>", desc := "(Ljava/lang/String;)V" } : MethodName)) ∈ WG := WG_in 399 (by decide +kernel) (by decide +kernel)
theorem w_400 : (Cond.instanceMethod ({ cls := "java/lang/IndexOutOfBoundsException", name := "<init>", desc := "(Ljava/lang/String;)V" } : MethodName)) ∈ WG := WG_in 400 (by decide +kernel) (by decide +kernel)
theorem w_5109 : (Cond.code ({ cls := "java/lang/IndexOutOfBoundsException", name := "<init>", desc := "(Ljava/lang/String;)V" } : MethodName) prog_11_method_2_code (2 : Nat) (Option.none : Option FieldType)) ∈ WG := WG_in 401 (by decide +kernel) (by decide +kernel)
theorem w_402 : (Cond.methodLink "java/lang/IndexOutOfBoundsException" (7 : Nat) ({ cls := "java/lang/RuntimeException", name := "<init>", desc := "(Ljava/lang/String;)V" } : MethodName)) ∈ WG := WG_in 402 (by decide +kernel) (by decide +kernel)
theorem w_403 : (Cond.lays "java/lang/IndexOutOfBoundsException" "java/lang/Throwable" "depth" "I") ∈ WG := WG_in 403 (by decide +kernel) (by decide +kernel)
theorem w_5161 : (Cond.methodLink "RoadOracle" (168 : Nat) yX3_costBetween) ∈ WG := WG_in 405 (by decide +kernel) (by decide +kernel)
theorem w_662 : (Cond.instanceMethod yX3_costBetween) ∈ WG := WG_in 407 (by decide +kernel) (by decide +kernel)
theorem w_663 : (Cond.code yX3_costBetween prog_1_method_43_code (3 : Nat) (Option.some FieldType.int)) ∈ WG := WG_in 408 (by decide +kernel) (by decide +kernel)
theorem w_5162 : (Cond.methodLink "RoadOracle" (211 : Nat) yX3_searchFrom) ∈ WG := WG_in 409 (by decide +kernel) (by decide +kernel)
theorem w_666 : (Cond.instanceMethod yX3_searchFrom) ∈ WG := WG_in 411 (by decide +kernel) (by decide +kernel)
theorem w_667 : (Cond.code yX3_searchFrom prog_1_method_39_code (5 : Nat) (Option.none : Option FieldType)) ∈ WG := WG_in 412 (by decide +kernel) (by decide +kernel)
theorem w_5163 : (Cond.methodLink "RoadOracle" (172 : Nat) yJ7_fill_53178) ∈ WG := WG_in 413 (by decide +kernel) (by decide +kernel)
theorem w_5085 : (Cond.methodLink "RoadOracle" (131 : Nat) yX3_has) ∈ WG := WG_in 414 (by decide +kernel) (by decide +kernel)
theorem w_5164 : (Cond.methodLink "RoadOracle" (198 : Nat) yX2_roadLength) ∈ WG := WG_in 415 (by decide +kernel) (by decide +kernel)
theorem w_5165 : (Cond.methodLink "RoadOracle" (178 : Nat) yX3_spreadToJunctions) ∈ WG := WG_in 416 (by decide +kernel) (by decide +kernel)
theorem w_5166 : (Cond.instanceMethod yX3_spreadToJunctions) ∈ WG := WG_in 418 (by decide +kernel) (by decide +kernel)
theorem w_5167 : (Cond.code yX3_spreadToJunctions prog_1_method_40_code (3 : Nat) (Option.none : Option FieldType)) ∈ WG := WG_in 419 (by decide +kernel) (by decide +kernel)
theorem w_5168 : (Cond.methodLink "RoadOracle" (272 : Nat) yX0_spreadForward) ∈ WG := WG_in 420 (by decide +kernel) (by decide +kernel)
theorem w_672 : (Cond.instanceMethod yX0_spreadForward) ∈ WG := WG_in 421 (by decide +kernel) (by decide +kernel)
theorem w_673 : (Cond.selects "RoadOracle$Hierarchy" yX0_spreadForward yX0_spreadForward) ∈ WG := WG_in 422 (by decide +kernel) (by decide +kernel)
theorem w_5169 : (Cond.code yX0_spreadForward prog_2_method_16_code (3 : Nat) (Option.none : Option FieldType)) ∈ WG := WG_in 423 (by decide +kernel) (by decide +kernel)
theorem w_5170 : (Cond.methodLink "RoadOracle$Hierarchy" (141 : Nat) yX0_passOn) ∈ WG := WG_in 424 (by decide +kernel) (by decide +kernel)
theorem w_677 : (Cond.instanceMethod yX0_passOn) ∈ WG := WG_in 426 (by decide +kernel) (by decide +kernel)
theorem w_5171 : (Cond.code yX0_passOn prog_2_method_17_code (7 : Nat) (Option.none : Option FieldType)) ∈ WG := WG_in 427 (by decide +kernel) (by decide +kernel)
theorem w_5172 : (Cond.methodLink "RoadOracle" (276 : Nat) yJ9_min_7cf53) ∈ WG := WG_in 428 (by decide +kernel) (by decide +kernel)
theorem w_5173 : (Cond.methodLink "RoadOracle" (181 : Nat) yX3_foundCost) ∈ WG := WG_in 429 (by decide +kernel) (by decide +kernel)
theorem w_681 : (Cond.instanceMethod yX3_foundCost) ∈ WG := WG_in 431 (by decide +kernel) (by decide +kernel)
theorem w_5174 : (Cond.code yX3_foundCost prog_1_method_42_code (2 : Nat) (Option.some FieldType.int)) ∈ WG := WG_in 432 (by decide +kernel) (by decide +kernel)
theorem w_5160 : (Cond.methodLink "RoadOracle" (165 : Nat) yX3_costOf) ∈ WG := WG_in 433 (by decide +kernel) (by decide +kernel)
theorem w_5230 : (Cond.methodLink "RoadOracleLaw" (15 : Nat) yL_cell) ∈ WG := WG_in 434 (by decide +kernel) (by decide +kernel)
theorem w_5231 : (Cond.static yL_cell) ∈ WG := WG_in 435 (by decide +kernel) (by decide +kernel)
theorem w_5232 : (Cond.code yL_cell method_3_code (2 : Nat) (Option.some FieldType.int)) ∈ WG := WG_in 436 (by decide +kernel) (by decide +kernel)
theorem w_5233 : (Cond.constant "RoadOracleLaw" (8 : Nat) (790386105 : Int32)) ∈ WG := WG_in 437 (by decide +kernel) (by decide +kernel)
theorem w_5234 : (Cond.methodLink "RoadOracleLaw" (61 : Nat) yL_build) ∈ WG := WG_in 438 (by decide +kernel) (by decide +kernel)
theorem w_5235 : (Cond.static yL_build) ∈ WG := WG_in 439 (by decide +kernel) (by decide +kernel)
theorem w_5236 : (Cond.code yL_build method_4_code (7 : Nat) (Option.some FieldType.boolean)) ∈ WG := WG_in 440 (by decide +kernel) (by decide +kernel)
theorem w_5237 : (Cond.methodLink "RoadOracleLaw" (9 : Nat) yX3_addJunction) ∈ WG := WG_in 441 (by decide +kernel) (by decide +kernel)
theorem w_304 : (Cond.instanceMethod yX3_addJunction) ∈ WG := WG_in 442 (by decide +kernel) (by decide +kernel)
theorem w_305 : (Cond.selects "RoadOracle" yX3_addJunction yX3_addJunction) ∈ WG := WG_in 443 (by decide +kernel) (by decide +kernel)
theorem w_306 : (Cond.code yX3_addJunction prog_1_method_2_code (1 : Nat) (Option.some FieldType.int)) ∈ WG := WG_in 444 (by decide +kernel) (by decide +kernel)
theorem w_5238 : (Cond.methodLink "RoadOracleLaw" (21 : Nat) yL_below) ∈ WG := WG_in 446 (by decide +kernel) (by decide +kernel)
theorem w_5239 : (Cond.static yL_below) ∈ WG := WG_in 447 (by decide +kernel) (by decide +kernel)
theorem w_5240 : (Cond.code yL_below method_2_code (2 : Nat) (Option.some FieldType.int)) ∈ WG := WG_in 448 (by decide +kernel) (by decide +kernel)
theorem w_5241 : (Cond.constant "RoadOracleLaw" (7 : Nat) (2147483647 : Int32)) ∈ WG := WG_in 449 (by decide +kernel) (by decide +kernel)
theorem w_5242 : (Cond.methodLink "RoadOracleLaw" (25 : Nat) yX3_addRoad) ∈ WG := WG_in 450 (by decide +kernel) (by decide +kernel)
theorem w_382 : (Cond.instanceMethod yX3_addRoad) ∈ WG := WG_in 451 (by decide +kernel) (by decide +kernel)
theorem w_383 : (Cond.selects "RoadOracle" yX3_addRoad yX3_addRoad) ∈ WG := WG_in 452 (by decide +kernel) (by decide +kernel)
theorem w_384 : (Cond.code yX3_addRoad prog_1_method_3_code (4 : Nat) (Option.some FieldType.int)) ∈ WG := WG_in 453 (by decide +kernel) (by decide +kernel)
theorem w_5111 : (Cond.classLink "RoadOracle" (67 : Nat) "java/lang/IllegalArgumentException") ∈ WG := WG_in 454 (by decide +kernel) (by decide +kernel)
theorem w_406 : (Cond.instantiable "java/lang/IllegalArgumentException" (6 : Nat)) ∈ WG := WG_in 455 (by decide +kernel) (by decide +kernel)
theorem w_408 : (Cond.selects "java/lang/IllegalArgumentException" ({ cls := "java/lang/Throwable", name := "fillInStackTrace", desc := "(I)Ljava/lang/Throwable;" } : MethodName) ({ cls := "java/lang/Throwable", name := "fillInStackTrace", desc := "(I)Ljava/lang/Throwable;" } : MethodName)) ∈ WG := WG_in 457 (by decide +kernel) (by decide +kernel)
theorem w_409 : (Cond.lays "java/lang/IllegalArgumentException" "java/lang/Throwable" "cause" "Ljava/lang/Throwable;") ∈ WG := WG_in 458 (by decide +kernel) (by decide +kernel)
theorem w_410 : (Cond.lays "java/lang/IllegalArgumentException" "java/lang/Throwable" "stackTrace" "[Ljava/lang/StackTraceElement;") ∈ WG := WG_in 459 (by decide +kernel) (by decide +kernel)
theorem w_411 : (Cond.lays "java/lang/IllegalArgumentException" "java/lang/Throwable" "suppressedExceptions" "Ljava/util/List;") ∈ WG := WG_in 460 (by decide +kernel) (by decide +kernel)
theorem w_412 : (Cond.lays "java/lang/IllegalArgumentException" "java/lang/Throwable" "detailMessage" "Ljava/lang/String;") ∈ WG := WG_in 461 (by decide +kernel) (by decide +kernel)
theorem w_413 : (Cond.lays "java/lang/IllegalArgumentException" "java/lang/Throwable" "backtrace" "Ljava/lang/Object;") ∈ WG := WG_in 462 (by decide +kernel) (by decide +kernel)
theorem w_5112 : (Cond.methodLink "RoadOracle" (71 : Nat) ({ cls := "java/lang/IllegalArgumentException", name := "<init>", desc := "(Ljava/lang/String;)V" } : MethodName)) ∈ WG := WG_in 464 (by decide +kernel) (by decide +kernel)
theorem w_416 : (Cond.instanceMethod ({ cls := "java/lang/IllegalArgumentException", name := "<init>", desc := "(Ljava/lang/String;)V" } : MethodName)) ∈ WG := WG_in 465 (by decide +kernel) (by decide +kernel)
theorem w_5113 : (Cond.code ({ cls := "java/lang/IllegalArgumentException", name := "<init>", desc := "(Ljava/lang/String;)V" } : MethodName) prog_9_method_2_code (2 : Nat) (Option.none : Option FieldType)) ∈ WG := WG_in 466 (by decide +kernel) (by decide +kernel)
theorem w_418 : (Cond.methodLink "java/lang/IllegalArgumentException" (7 : Nat) ({ cls := "java/lang/RuntimeException", name := "<init>", desc := "(Ljava/lang/String;)V" } : MethodName)) ∈ WG := WG_in 467 (by decide +kernel) (by decide +kernel)
theorem w_419 : (Cond.lays "java/lang/IllegalArgumentException" "java/lang/Throwable" "depth" "I") ∈ WG := WG_in 468 (by decide +kernel) (by decide +kernel)
theorem w_5115 : (Cond.methodLink "RoadOracle" (72 : Nat) yX3_requireWeight) ∈ WG := WG_in 470 (by decide +kernel) (by decide +kernel)
theorem w_423 : (Cond.instanceMethod yX3_requireWeight) ∈ WG := WG_in 472 (by decide +kernel) (by decide +kernel)
theorem w_424 : (Cond.code yX3_requireWeight prog_1_method_37_code (2 : Nat) (Option.none : Option FieldType)) ∈ WG := WG_in 473 (by decide +kernel) (by decide +kernel)
theorem w_5116 : (Cond.methodLink "RoadOracle" (84 : Nat) yX2_append) ∈ WG := WG_in 476 (by decide +kernel) (by decide +kernel)
theorem w_428 : (Cond.instanceMethod yX2_append) ∈ WG := WG_in 477 (by decide +kernel) (by decide +kernel)
theorem w_429 : (Cond.selects "RoadOracle$Network" yX2_append yX2_append) ∈ WG := WG_in 478 (by decide +kernel) (by decide +kernel)
theorem w_430 : (Cond.code yX2_append prog_4_method_2_code (5 : Nat) (Option.some FieldType.int)) ∈ WG := WG_in 479 (by decide +kernel) (by decide +kernel)
theorem w_5243 : (Cond.methodLink "RoadOracleLaw" (80 : Nat) yL_find) ∈ WG := WG_in 480 (by decide +kernel) (by decide +kernel)
theorem w_5244 : (Cond.static yL_find) ∈ WG := WG_in 481 (by decide +kernel) (by decide +kernel)
theorem w_5245 : (Cond.code yL_find method_6_code (11 : Nat) (Option.none : Option FieldType)) ∈ WG := WG_in 482 (by decide +kernel) (by decide +kernel)
theorem w_5246 : (Cond.constant "RoadOracleLaw" (29 : Nat) (1000000 : Int32)) ∈ WG := WG_in 483 (by decide +kernel) (by decide +kernel)
theorem w_5247 : (Cond.methodLink "RoadOracleLaw" (30 : Nat) yL_penalty) ∈ WG := WG_in 484 (by decide +kernel) (by decide +kernel)
theorem w_5248 : (Cond.static yL_penalty) ∈ WG := WG_in 485 (by decide +kernel) (by decide +kernel)
theorem w_5249 : (Cond.code yL_penalty method_5_code (7 : Nat) (Option.some FieldType.int)) ∈ WG := WG_in 486 (by decide +kernel) (by decide +kernel)
theorem w_5250 : (Cond.methodLink "RoadOracleLaw" (34 : Nat) yJ9_min_7cf53) ∈ WG := WG_in 487 (by decide +kernel) (by decide +kernel)
theorem w_5251 : (Cond.methodLink "RoadOracleLaw" (87 : Nat) yL_distance) ∈ WG := WG_in 488 (by decide +kernel) (by decide +kernel)
theorem w_654 : (Cond.static yL_distance) ∈ WG := WG_in 489 (by decide +kernel) (by decide +kernel)
theorem w_5252 : (Cond.code yL_distance method_7_code (6 : Nat) (Option.some FieldType.int)) ∈ WG := WG_in 490 (by decide +kernel) (by decide +kernel)
theorem w_5253 : (Cond.methodLink "RoadOracleLaw" (72 : Nat) yL_change) ∈ WG := WG_in 491 (by decide +kernel) (by decide +kernel)
theorem w_5254 : (Cond.static yL_change) ∈ WG := WG_in 492 (by decide +kernel) (by decide +kernel)
theorem w_5255 : (Cond.code yL_change method_8_code (11 : Nat) (Option.some FieldType.int)) ∈ WG := WG_in 493 (by decide +kernel) (by decide +kernel)
theorem w_5256 : (Cond.methodLink "RoadOracleLaw" (39 : Nat) yX3_setWeight) ∈ WG := WG_in 494 (by decide +kernel) (by decide +kernel)
theorem w_438 : (Cond.instanceMethod yX3_setWeight) ∈ WG := WG_in 495 (by decide +kernel) (by decide +kernel)
theorem w_439 : (Cond.selects "RoadOracle" yX3_setWeight yX3_setWeight) ∈ WG := WG_in 496 (by decide +kernel) (by decide +kernel)
theorem w_440 : (Cond.code yX3_setWeight prog_1_method_4_code (3 : Nat) (Option.some FieldType.int)) ∈ WG := WG_in 497 (by decide +kernel) (by decide +kernel)
theorem w_5117 : (Cond.methodLink "RoadOracle" (88 : Nat) yX3_requireRoad) ∈ WG := WG_in 498 (by decide +kernel) (by decide +kernel)
theorem w_443 : (Cond.instanceMethod yX3_requireRoad) ∈ WG := WG_in 500 (by decide +kernel) (by decide +kernel)
theorem w_444 : (Cond.code yX3_requireRoad prog_1_method_34_code (2 : Nat) (Option.none : Option FieldType)) ∈ WG := WG_in 501 (by decide +kernel) (by decide +kernel)
theorem w_5118 : (Cond.methodLink "RoadOracle" (94 : Nat) yX0_renewRoad) ∈ WG := WG_in 503 (by decide +kernel) (by decide +kernel)
theorem w_447 : (Cond.instanceMethod yX0_renewRoad) ∈ WG := WG_in 504 (by decide +kernel) (by decide +kernel)
theorem w_448 : (Cond.selects "RoadOracle$Hierarchy" yX0_renewRoad yX0_renewRoad) ∈ WG := WG_in 505 (by decide +kernel) (by decide +kernel)
theorem w_449 : (Cond.code yX0_renewRoad prog_2_method_6_code (2 : Nat) (Option.some FieldType.int)) ∈ WG := WG_in 506 (by decide +kernel) (by decide +kernel)
theorem w_5257 : (Cond.methodLink "RoadOracleLaw" (42 : Nat) yX3_setOpen) ∈ WG := WG_in 507 (by decide +kernel) (by decide +kernel)
theorem w_511 : (Cond.instanceMethod yX3_setOpen) ∈ WG := WG_in 508 (by decide +kernel) (by decide +kernel)
theorem w_512 : (Cond.selects "RoadOracle" yX3_setOpen yX3_setOpen) ∈ WG := WG_in 509 (by decide +kernel) (by decide +kernel)
theorem w_513 : (Cond.code yX3_setOpen prog_1_method_5_code (3 : Nat) (Option.some FieldType.int)) ∈ WG := WG_in 510 (by decide +kernel) (by decide +kernel)
theorem w_5136 : (Cond.methodLink "RoadOracle" (98 : Nat) yX2_openOrClose) ∈ WG := WG_in 511 (by decide +kernel) (by decide +kernel)
theorem w_5137 : (Cond.instanceMethod yX2_openOrClose) ∈ WG := WG_in 512 (by decide +kernel) (by decide +kernel)
theorem w_5138 : (Cond.selects "RoadOracle$Network" yX2_openOrClose yX2_openOrClose) ∈ WG := WG_in 513 (by decide +kernel) (by decide +kernel)
theorem w_5139 : (Cond.code yX2_openOrClose prog_4_method_3_code (5 : Nat) (Option.none : Option FieldType)) ∈ WG := WG_in 514 (by decide +kernel) (by decide +kernel)
theorem w_5258 : (Cond.methodLink "RoadOracleLaw" (46 : Nat) yX3_setTurn) ∈ WG := WG_in 515 (by decide +kernel) (by decide +kernel)
theorem w_523 : (Cond.instanceMethod yX3_setTurn) ∈ WG := WG_in 516 (by decide +kernel) (by decide +kernel)
theorem w_524 : (Cond.selects "RoadOracle" yX3_setTurn yX3_setTurn) ∈ WG := WG_in 517 (by decide +kernel) (by decide +kernel)
theorem w_525 : (Cond.code yX3_setTurn prog_1_method_6_code (4 : Nat) (Option.some FieldType.int)) ∈ WG := WG_in 518 (by decide +kernel) (by decide +kernel)
theorem w_5140 : (Cond.methodLink "RoadOracle" (102 : Nat) yX3_requireTurn) ∈ WG := WG_in 519 (by decide +kernel) (by decide +kernel)
theorem w_528 : (Cond.instanceMethod yX3_requireTurn) ∈ WG := WG_in 521 (by decide +kernel) (by decide +kernel)
theorem w_529 : (Cond.code yX3_requireTurn prog_1_method_35_code (3 : Nat) (Option.none : Option FieldType)) ∈ WG := WG_in 522 (by decide +kernel) (by decide +kernel)
theorem w_5141 : (Cond.methodLink "RoadOracle" (111 : Nat) yX3_pair) ∈ WG := WG_in 525 (by decide +kernel) (by decide +kernel)
theorem w_5142 : (Cond.methodLink "RoadOracle" (115 : Nat) yX0_renewTurn) ∈ WG := WG_in 526 (by decide +kernel) (by decide +kernel)
theorem w_534 : (Cond.instanceMethod yX0_renewTurn) ∈ WG := WG_in 527 (by decide +kernel) (by decide +kernel)
theorem w_535 : (Cond.selects "RoadOracle$Hierarchy" yX0_renewTurn yX0_renewTurn) ∈ WG := WG_in 528 (by decide +kernel) (by decide +kernel)
theorem w_536 : (Cond.code yX0_renewTurn prog_2_method_7_code (3 : Nat) (Option.some FieldType.int)) ∈ WG := WG_in 529 (by decide +kernel) (by decide +kernel)
theorem w_5259 : (Cond.methodLink "RoadOracleLaw" (49 : Nat) yX3_setUTurn) ∈ WG := WG_in 530 (by decide +kernel) (by decide +kernel)
theorem w_541 : (Cond.instanceMethod yX3_setUTurn) ∈ WG := WG_in 531 (by decide +kernel) (by decide +kernel)
theorem w_542 : (Cond.selects "RoadOracle" yX3_setUTurn yX3_setUTurn) ∈ WG := WG_in 532 (by decide +kernel) (by decide +kernel)
theorem w_543 : (Cond.code yX3_setUTurn prog_1_method_7_code (2 : Nat) (Option.some FieldType.int)) ∈ WG := WG_in 533 (by decide +kernel) (by decide +kernel)
theorem w_5143 : (Cond.methodLink "RoadOracle" (123 : Nat) yX0_renewAll) ∈ WG := WG_in 535 (by decide +kernel) (by decide +kernel)
theorem w_546 : (Cond.instanceMethod yX0_renewAll) ∈ WG := WG_in 536 (by decide +kernel) (by decide +kernel)
theorem w_547 : (Cond.selects "RoadOracle$Hierarchy" yX0_renewAll yX0_renewAll) ∈ WG := WG_in 537 (by decide +kernel) (by decide +kernel)
theorem w_548 : (Cond.code yX0_renewAll prog_2_method_8_code (1 : Nat) (Option.some FieldType.int)) ∈ WG := WG_in 538 (by decide +kernel) (by decide +kernel)
theorem w_5260 : (Cond.methodLink "RoadOracleLaw" (68 : Nat) yL_read) ∈ WG := WG_in 539 (by decide +kernel) (by decide +kernel)
theorem w_5261 : (Cond.static yL_read) ∈ WG := WG_in 540 (by decide +kernel) (by decide +kernel)
theorem w_5262 : (Cond.code yL_read method_9_code (4 : Nat) (Option.none : Option FieldType)) ∈ WG := WG_in 541 (by decide +kernel) (by decide +kernel)
theorem w_5263 : (Cond.methodLink "RoadOracleLaw" (53 : Nat) yX3_hasArc) ∈ WG := WG_in 542 (by decide +kernel) (by decide +kernel)
theorem w_625 : (Cond.instanceMethod yX3_hasArc) ∈ WG := WG_in 543 (by decide +kernel) (by decide +kernel)
theorem w_626 : (Cond.selects "RoadOracle" yX3_hasArc yX3_hasArc) ∈ WG := WG_in 544 (by decide +kernel) (by decide +kernel)
theorem w_627 : (Cond.code yX3_hasArc prog_1_method_17_code (3 : Nat) (Option.some FieldType.boolean)) ∈ WG := WG_in 545 (by decide +kernel) (by decide +kernel)
theorem w_5264 : (Cond.methodLink "RoadOracleLaw" (57 : Nat) yX3_arcCost) ∈ WG := WG_in 546 (by decide +kernel) (by decide +kernel)
theorem w_633 : (Cond.instanceMethod yX3_arcCost) ∈ WG := WG_in 547 (by decide +kernel) (by decide +kernel)
theorem w_634 : (Cond.selects "RoadOracle" yX3_arcCost yX3_arcCost) ∈ WG := WG_in 548 (by decide +kernel) (by decide +kernel)
theorem w_635 : (Cond.code yX3_arcCost prog_1_method_18_code (3 : Nat) (Option.some FieldType.int)) ∈ WG := WG_in 549 (by decide +kernel) (by decide +kernel)
theorem w_5156 : (Cond.classLink "RoadOracle" (159 : Nat) "java/util/NoSuchElementException") ∈ WG := WG_in 550 (by decide +kernel) (by decide +kernel)
theorem w_637 : (Cond.instantiable "java/util/NoSuchElementException" (6 : Nat)) ∈ WG := WG_in 551 (by decide +kernel) (by decide +kernel)
theorem w_639 : (Cond.selects "java/util/NoSuchElementException" ({ cls := "java/lang/Throwable", name := "fillInStackTrace", desc := "(I)Ljava/lang/Throwable;" } : MethodName) ({ cls := "java/lang/Throwable", name := "fillInStackTrace", desc := "(I)Ljava/lang/Throwable;" } : MethodName)) ∈ WG := WG_in 553 (by decide +kernel) (by decide +kernel)
theorem w_640 : (Cond.lays "java/util/NoSuchElementException" "java/lang/Throwable" "cause" "Ljava/lang/Throwable;") ∈ WG := WG_in 554 (by decide +kernel) (by decide +kernel)
theorem w_641 : (Cond.lays "java/util/NoSuchElementException" "java/lang/Throwable" "stackTrace" "[Ljava/lang/StackTraceElement;") ∈ WG := WG_in 555 (by decide +kernel) (by decide +kernel)
theorem w_642 : (Cond.lays "java/util/NoSuchElementException" "java/lang/Throwable" "suppressedExceptions" "Ljava/util/List;") ∈ WG := WG_in 556 (by decide +kernel) (by decide +kernel)
theorem w_643 : (Cond.lays "java/util/NoSuchElementException" "java/lang/Throwable" "detailMessage" "Ljava/lang/String;") ∈ WG := WG_in 557 (by decide +kernel) (by decide +kernel)
theorem w_644 : (Cond.lays "java/util/NoSuchElementException" "java/lang/Throwable" "backtrace" "Ljava/lang/Object;") ∈ WG := WG_in 558 (by decide +kernel) (by decide +kernel)
theorem w_5157 : (Cond.methodLink "RoadOracle" (163 : Nat) ({ cls := "java/util/NoSuchElementException", name := "<init>", desc := "(Ljava/lang/String;)V" } : MethodName)) ∈ WG := WG_in 560 (by decide +kernel) (by decide +kernel)
theorem w_647 : (Cond.instanceMethod ({ cls := "java/util/NoSuchElementException", name := "<init>", desc := "(Ljava/lang/String;)V" } : MethodName)) ∈ WG := WG_in 561 (by decide +kernel) (by decide +kernel)
theorem w_5265 : (Cond.code ({ cls := "java/util/NoSuchElementException", name := "<init>", desc := "(Ljava/lang/String;)V" } : MethodName) prog_18_method_4_code (2 : Nat) (Option.none : Option FieldType)) ∈ WG := WG_in 562 (by decide +kernel) (by decide +kernel)
theorem w_649 : (Cond.methodLink "java/util/NoSuchElementException" (13 : Nat) ({ cls := "java/lang/RuntimeException", name := "<init>", desc := "(Ljava/lang/String;)V" } : MethodName)) ∈ WG := WG_in 563 (by decide +kernel) (by decide +kernel)
theorem w_650 : (Cond.lays "java/util/NoSuchElementException" "java/lang/Throwable" "depth" "I") ∈ WG := WG_in 564 (by decide +kernel) (by decide +kernel)
theorem w_5266 : (Cond.methodLink "RoadOracleLaw" (76 : Nat) yL_unlike) ∈ WG := WG_in 566 (by decide +kernel) (by decide +kernel)
theorem w_5267 : (Cond.static yL_unlike) ∈ WG := WG_in 567 (by decide +kernel) (by decide +kernel)
theorem w_5268 : (Cond.code yL_unlike method_10_code (4 : Nat) (Option.some FieldType.int)) ∈ WG := WG_in 568 (by decide +kernel) (by decide +kernel)
theorem w_1130 : (Cond.sameMethod "java/lang/Throwable" "java/lang/Throwable" "fillInStackTrace" "(I)Ljava/lang/Throwable;") ∈ WG := WG_in 569 (by decide +kernel) (by decide +kernel)
end
section
/-! worlds: ints by cell and place, longs by cell and place -/
abbrev WS : Type := (Nat → Nat → Int32) × (Nat → Nat → Int64)
def wI (w : WS) (c i : Nat) (v : Int32) : WS := (fun a => if a = c then upd (w.1 a) i v else w.1 a, w.2)
def wL (w : WS) (c i : Nat) (v : Int64) : WS := (w.1, fun a => if a = c then vp_updL (w.2 a) i v else w.2 a)
def wF (w : WS) (c : Nat) (f : Nat → Int32) : WS := (fun a => if a = c then f else w.1 a, w.2)
/-! the pure programs' words -/
def nm {α β : Type} (x : α) (k : α → β) : β := k x
noncomputable def ck {α : Type} (c : Prop) (F : Option α) : Option α := @ite _ c (Classical.propDecidable c) F none
theorem ck_some {α : Type} {c : Prop} {F : Option α} {o : α} (h : ck c F = some o) : c ∧ F = some o := by
  unfold ck at h
  by_cases hc : c
  · rw [if_pos hc] at h; exact ⟨hc, h⟩
  · rw [if_neg hc] at h; cases h
theorem ck_t {α : Type} {c : Prop} {F : Option α} (h : c) : ck c F = F := by unfold ck; rw [if_pos h]
def bn {α β : Type} (x : Option α) (k : α → Option β) : Option β := match x with
  | none => none
  | some a => k a
theorem bn_some {α β : Type} {x : Option α} {k : α → Option β} {o : β} (h : bn x k = some o) : ∃ a, x = some a ∧ k a = some o := by
  cases x with
  | none => cases h
  | some a => exact ⟨a, rfl, h⟩
def bn2 {α β γ : Type} (x : Option (α × β)) (k : α → β → Option γ) : Option γ := match x with
  | none => none
  | some q => k q.1 q.2
theorem bn2_some {α β γ : Type} {x : Option (α × β)} {k : α → β → Option γ} {o : γ} (h : bn2 x k = some o) : ∃ a b, x = some (a, b) ∧ k a b = some o := by
  cases x with
  | none => cases h
  | some a => exact ⟨a.1, a.2, rfl, h⟩
/-- a callee that answers (left) or throws (right) -/
def bx {α ε γ : Type} (x : Option (α ⊕ ε)) (g : ε → Option γ) (k : α → Option γ) : Option γ := match x with
  | none => none
  | some (.inl a) => k a
  | some (.inr q) => g q
theorem bx_some {α ε γ : Type} {x : Option (α ⊕ ε)} {g : ε → Option γ} {k : α → Option γ} {o : γ} (h : bx x g k = some o) : (∃ a, x = some (.inl a) ∧ k a = some o) ∨ ∃ q, x = some (.inr q) ∧ g q = some o := by
  match x, h with
  | none, h => cases h
  | some (.inl a), h => exact Or.inl ⟨a, rfl, h⟩
  | some (.inr q), h => exact Or.inr ⟨q, rfl, h⟩
/-- a loop: the body goes on (left) or leaves (right) -/
def iter {σ ρ : Type} (f : σ → Option (σ ⊕ ρ)) : Nat → σ → Option ρ
  | 0, _ => none
  | n + 1, x => match f x with
    | none => none
    | some (.inl y) => iter f n y
    | some (.inr r) => some r
theorem iter_some {σ ρ : Type} {f : σ → Option (σ ⊕ ρ)} {n : Nat} {x : σ} {r : ρ} (h : iter f (n + 1) x = some r) : (∃ y, f x = some (.inl y) ∧ iter f n y = some r) ∨ f x = some (.inr r) := by
  unfold iter at h
  match hf : f x, h with
  | some (.inl y), h => exact Or.inl ⟨y, rfl, h⟩
  | some (.inr q), h => exact Or.inr (congrArg some (congrArg Sum.inr (Option.some.inj h)))
theorem iter_0 {σ ρ : Type} {f : σ → Option (σ ⊕ ρ)} {x : σ} {r : ρ} (h : iter f 0 x = some r) : False := by cases h
def bn3 {α0 α1 α2 γ : Type} (x : Option (α0 × α1 × α2)) (k : α0 → α1 → α2 → Option γ) : Option γ := match x with
  | none => none
  | some q => k q.1 q.2.1 q.2.2
theorem bn3_some {α0 α1 α2 γ : Type} {x : Option (α0 × α1 × α2)} {k : α0 → α1 → α2 → Option γ} {o : γ} (h : bn3 x k = some o) : ∃ a0 a1 a2, x = some (a0, a1, a2) ∧ k a0 a1 a2 = some o := by
  cases x with
  | none => cases h
  | some q => exact ⟨q.1, q.2.1, q.2.2, rfl, h⟩
def bn4 {α0 α1 α2 α3 γ : Type} (x : Option (α0 × α1 × α2 × α3)) (k : α0 → α1 → α2 → α3 → Option γ) : Option γ := match x with
  | none => none
  | some q => k q.1 q.2.1 q.2.2.1 q.2.2.2
theorem bn4_some {α0 α1 α2 α3 γ : Type} {x : Option (α0 × α1 × α2 × α3)} {k : α0 → α1 → α2 → α3 → Option γ} {o : γ} (h : bn4 x k = some o) : ∃ a0 a1 a2 a3, x = some (a0, a1, a2, a3) ∧ k a0 a1 a2 a3 = some o := by
  cases x with
  | none => cases h
  | some q => exact ⟨q.1, q.2.1, q.2.2.1, q.2.2.2, rfl, h⟩
def bn5 {α0 α1 α2 α3 α4 γ : Type} (x : Option (α0 × α1 × α2 × α3 × α4)) (k : α0 → α1 → α2 → α3 → α4 → Option γ) : Option γ := match x with
  | none => none
  | some q => k q.1 q.2.1 q.2.2.1 q.2.2.2.1 q.2.2.2.2
theorem bn5_some {α0 α1 α2 α3 α4 γ : Type} {x : Option (α0 × α1 × α2 × α3 × α4)} {k : α0 → α1 → α2 → α3 → α4 → Option γ} {o : γ} (h : bn5 x k = some o) : ∃ a0 a1 a2 a3 a4, x = some (a0, a1, a2, a3, a4) ∧ k a0 a1 a2 a3 a4 = some o := by
  cases x with
  | none => cases h
  | some q => exact ⟨q.1, q.2.1, q.2.2.1, q.2.2.2.1, q.2.2.2.2, rfl, h⟩
def bn6 {α0 α1 α2 α3 α4 α5 γ : Type} (x : Option (α0 × α1 × α2 × α3 × α4 × α5)) (k : α0 → α1 → α2 → α3 → α4 → α5 → Option γ) : Option γ := match x with
  | none => none
  | some q => k q.1 q.2.1 q.2.2.1 q.2.2.2.1 q.2.2.2.2.1 q.2.2.2.2.2
theorem bn6_some {α0 α1 α2 α3 α4 α5 γ : Type} {x : Option (α0 × α1 × α2 × α3 × α4 × α5)} {k : α0 → α1 → α2 → α3 → α4 → α5 → Option γ} {o : γ} (h : bn6 x k = some o) : ∃ a0 a1 a2 a3 a4 a5, x = some (a0, a1, a2, a3, a4, a5) ∧ k a0 a1 a2 a3 a4 a5 = some o := by
  cases x with
  | none => cases h
  | some q => exact ⟨q.1, q.2.1, q.2.2.1, q.2.2.2.1, q.2.2.2.2.1, q.2.2.2.2.2, rfl, h⟩
def bn7 {α0 α1 α2 α3 α4 α5 α6 γ : Type} (x : Option (α0 × α1 × α2 × α3 × α4 × α5 × α6)) (k : α0 → α1 → α2 → α3 → α4 → α5 → α6 → Option γ) : Option γ := match x with
  | none => none
  | some q => k q.1 q.2.1 q.2.2.1 q.2.2.2.1 q.2.2.2.2.1 q.2.2.2.2.2.1 q.2.2.2.2.2.2
theorem bn7_some {α0 α1 α2 α3 α4 α5 α6 γ : Type} {x : Option (α0 × α1 × α2 × α3 × α4 × α5 × α6)} {k : α0 → α1 → α2 → α3 → α4 → α5 → α6 → Option γ} {o : γ} (h : bn7 x k = some o) : ∃ a0 a1 a2 a3 a4 a5 a6, x = some (a0, a1, a2, a3, a4, a5, a6) ∧ k a0 a1 a2 a3 a4 a5 a6 = some o := by
  cases x with
  | none => cases h
  | some q => exact ⟨q.1, q.2.1, q.2.2.1, q.2.2.2.1, q.2.2.2.2.1, q.2.2.2.2.2.1, q.2.2.2.2.2.2, rfl, h⟩
def bn8 {α0 α1 α2 α3 α4 α5 α6 α7 γ : Type} (x : Option (α0 × α1 × α2 × α3 × α4 × α5 × α6 × α7)) (k : α0 → α1 → α2 → α3 → α4 → α5 → α6 → α7 → Option γ) : Option γ := match x with
  | none => none
  | some q => k q.1 q.2.1 q.2.2.1 q.2.2.2.1 q.2.2.2.2.1 q.2.2.2.2.2.1 q.2.2.2.2.2.2.1 q.2.2.2.2.2.2.2
theorem bn8_some {α0 α1 α2 α3 α4 α5 α6 α7 γ : Type} {x : Option (α0 × α1 × α2 × α3 × α4 × α5 × α6 × α7)} {k : α0 → α1 → α2 → α3 → α4 → α5 → α6 → α7 → Option γ} {o : γ} (h : bn8 x k = some o) : ∃ a0 a1 a2 a3 a4 a5 a6 a7, x = some (a0, a1, a2, a3, a4, a5, a6, a7) ∧ k a0 a1 a2 a3 a4 a5 a6 a7 = some o := by
  cases x with
  | none => cases h
  | some q => exact ⟨q.1, q.2.1, q.2.2.1, q.2.2.2.1, q.2.2.2.2.1, q.2.2.2.2.2.1, q.2.2.2.2.2.2.1, q.2.2.2.2.2.2.2, rfl, h⟩
theorem bx_one {α ε γ : Type} {x : Option (α ⊕ ε)} {g : ε → Option γ} {k : α → Option γ} {o : γ} (h : bx x g k = some o) : ∃ o1, x = some o1 ∧ (∀ a, o1 = .inl a → k a = some o) ∧ ∀ q, o1 = .inr q → g q = some o := by
  match x, h with
  | none, h => cases h
  | some (.inl a), h => exact ⟨_, rfl, fun b e => by cases e; exact h, fun q e => by cases e⟩
  | some (.inr q), h => exact ⟨_, rfl, fun b e => (by cases e), fun b e => by cases e; exact h⟩
def itk {σ ρ : Type} (f : σ → Option (σ ⊕ ρ)) (n : Nat) (r : ρ) (o : σ ⊕ ρ) : Prop := match o with
  | .inl y => iter f n y = some r
  | .inr q => q = r
theorem iter_one {σ ρ : Type} {f : σ → Option (σ ⊕ ρ)} {n : Nat} {x : σ} {r : ρ} (h : iter f (n + 1) x = some r) : ∃ o, f x = some o ∧ itk f n r o := by
  rcases iter_some h with ⟨y, h1, h2⟩ | h1
  · exact ⟨_, h1, h2⟩
  · exact ⟨_, h1, rfl⟩
/-! the judgement over worlds -/
def CS (p : Program) (l : Launch) (e : Env) (R : Room) (s : State) (m : MethodId) (args : Array Value) (below : List Frame) (meth : Method) (c : Code) (D : va_G) (A : Nat → Prop) (nL cells slots : Nat) (Q : State → Prop) (ws : va_W) (pc : Nat) (lv : List (Nat × Value)) (st : List Value) : Prop :=
  ∀ (H : Heap) (locs : List Loc) (ls : Array Slot), va_P D vwCl ws H → va_D A ws → va_S A s.heap H locs → lv_has ls nL lv → W p l e R s m args below meth c H locs cells slots Q (F0 m pc ls st)
abbrev tyS (kA : Nat → ClassId) : List (ClassId × FieldType) := [(kA 0, .int), (kA 1, .long), (kA 2, .boolean), (kA 3, .double)]
section FR
variable {p : Program} {l : Launch} {e : Env} {R : Room} {s : State} {m : MethodId} {args : Array Value} {below : List Frame} {meth : Method} {c : Code} {D : va_G} {kA : Nat → ClassId} {A : Nat → Prop} {nL cells slots : Nat} {Q : State → Prop} {cc : ByteArray} {own : String} {ws : va_W} {pc : Nat} {lv : List (Nat × Value)} {st : List Value}
abbrev CX (p : Program) (m : MethodId) (c : Code) (cc : ByteArray) (nL : Nat) (s : State) (args : Array Value) (own : String) : Prop := CallFix p m c cc nL s args WG own
theorem x_iconst (X : CX p m c cc nL s args own) {n : Int} {v : Int32} (hd : decode cc pc = .ok (.iconst n, 1)) (hv : Int32.ofInt n = v) (kk : CS p l e R s m args below meth c D A nL cells slots Q ws (pc + 1) lv (.int v :: st)) : CS p l e R s m args below meth c D A nL cells slots Q ws pc lv (st) := fun H locs ls hP hD hS hl => lv_iconst X.1 X.2.1 hd hv (kk H locs ls hP hD hS hl)
theorem x_bipush (X : CX p m c cc nL s args own) {n : Int} {v : Int32} (hd : decode cc pc = .ok (.bipush n, 2)) (hv : (Int8.ofInt n).toInt32 = v) (kk : CS p l e R s m args below meth c D A nL cells slots Q ws (pc + 2) lv (.int v :: st)) : CS p l e R s m args below meth c D A nL cells slots Q ws pc lv (st) := fun H locs ls hP hD hS hl => lv_bipush X.1 X.2.1 hd hv (kk H locs ls hP hD hS hl)
theorem x_sipush (X : CX p m c cc nL s args own) {n : Int} {v : Int32} (hd : decode cc pc = .ok (.sipush n, 3)) (hv : (Int16.ofInt n).toInt32 = v) (kk : CS p l e R s m args below meth c D A nL cells slots Q ws (pc + 3) lv (.int v :: st)) : CS p l e R s m args below meth c D A nL cells slots Q ws pc lv (st) := fun H locs ls hP hD hS hl => lv_sipush X.1 X.2.1 hd hv (kk H locs ls hP hD hS hl)
theorem x_lconst (X : CX p m c cc nL s args own) {n : Fin 2} {v : Int64} (hd : decode cc pc = .ok (.lconst n, 1)) (hv : Int64.ofNat (n : Nat) = v) (kk : CS p l e R s m args below meth c D A nL cells slots Q ws (pc + 1) lv (.long v :: st)) : CS p l e R s m args below meth c D A nL cells slots Q ws pc lv (st) := fun H locs ls hP hD hS hl => lv_lconst X.1 X.2.1 hd hv (kk H locs ls hP hD hS hl)
theorem x_iload_n (X : CX p m c cc nL s args own) {k : Fin 4} {x : Int32} (hd : decode cc pc = .ok (.iload_n k, 1)) (j : Nat) (hj : lv[j]? = some ((k : Nat), .int x)) (kk : CS p l e R s m args below meth c D A nL cells slots Q ws (pc + 1) lv (.int x :: st)) : CS p l e R s m args below meth c D A nL cells slots Q ws pc lv st := fun H locs ls hP hD hS hl => lv_iload_n X.1 X.2.1 hd rfl (lv_at hl j hj) (kk H locs ls hP hD hS hl)
theorem x_iload (X : CX p m c cc nL s args own) {i : Nat} {x : Int32} (hd : decode cc pc = .ok (.iload i, 2)) (j : Nat) (hj : lv[j]? = some (i, .int x)) (kk : CS p l e R s m args below meth c D A nL cells slots Q ws (pc + 2) lv (.int x :: st)) : CS p l e R s m args below meth c D A nL cells slots Q ws pc lv st := fun H locs ls hP hD hS hl => lv_iload X.1 X.2.1 hd (lv_at hl j hj) (kk H locs ls hP hD hS hl)
theorem x_istore_n (X : CX p m c cc nL s args own) {k : Fin 4} {x : Int32} {lv2 : List (Nat × Value)} (hd : decode cc pc = .ok (.istore_n k, 1)) (hn : (k : Nat) < nL) (hl2 : ((k : Nat), Value.int x) :: lv.filter (fun q => !(q.1 == (k : Nat)) && !(q.1 + 1 == (k : Nat) && q.2.category == 2)) = lv2) (kk : CS p l e R s m args below meth c D A nL cells slots Q ws (pc + 1) lv2 st) : CS p l e R s m args below meth c D A nL cells slots Q ws pc lv (.int x :: st) := fun H locs ls hP hD hS hl => lv_istore_n X.1 X.2.1 hd rfl hl hn hl2 (fun ls hl => kk H locs ls hP hD hS hl)
theorem x_istore (X : CX p m c cc nL s args own) {i : Nat} {x : Int32} {lv2 : List (Nat × Value)} (hd : decode cc pc = .ok (.istore i, 2)) (hn : i < nL) (hl2 : (i, Value.int x) :: lv.filter (fun q => !(q.1 == i) && !(q.1 + 1 == i && q.2.category == 2)) = lv2) (kk : CS p l e R s m args below meth c D A nL cells slots Q ws (pc + 2) lv2 st) : CS p l e R s m args below meth c D A nL cells slots Q ws pc lv (.int x :: st) := fun H locs ls hP hD hS hl => lv_istore X.1 X.2.1 hd  hl hn hl2 (fun ls hl => kk H locs ls hP hD hS hl)
theorem x_lload_n (X : CX p m c cc nL s args own) {k : Fin 4} {x : Int64} (hd : decode cc pc = .ok (.lload_n k, 1)) (j : Nat) (hj : lv[j]? = some ((k : Nat), .long x)) (kk : CS p l e R s m args below meth c D A nL cells slots Q ws (pc + 1) lv (.long x :: st)) : CS p l e R s m args below meth c D A nL cells slots Q ws pc lv st := fun H locs ls hP hD hS hl => lv_lload_n X.1 X.2.1 hd rfl (lv_at hl j hj) (kk H locs ls hP hD hS hl)
theorem x_lload (X : CX p m c cc nL s args own) {i : Nat} {x : Int64} (hd : decode cc pc = .ok (.lload i, 2)) (j : Nat) (hj : lv[j]? = some (i, .long x)) (kk : CS p l e R s m args below meth c D A nL cells slots Q ws (pc + 2) lv (.long x :: st)) : CS p l e R s m args below meth c D A nL cells slots Q ws pc lv st := fun H locs ls hP hD hS hl => lv_lload X.1 X.2.1 hd (lv_at hl j hj) (kk H locs ls hP hD hS hl)
theorem x_lstore_n (X : CX p m c cc nL s args own) {k : Fin 4} {x : Int64} {lv2 : List (Nat × Value)} (hd : decode cc pc = .ok (.lstore_n k, 1)) (hn : (k : Nat) + 1 < nL) (hl2 : ((k : Nat), Value.long x) :: lv.filter (fun q => !(q.1 == (k : Nat)) && (!(q.1 == (k : Nat) + 1) && !(q.1 + 1 == (k : Nat) && q.2.category == 2))) = lv2) (kk : CS p l e R s m args below meth c D A nL cells slots Q ws (pc + 1) lv2 st) : CS p l e R s m args below meth c D A nL cells slots Q ws pc lv (.long x :: st) := fun H locs ls hP hD hS hl => lv_lstore_n X.1 X.2.1 hd rfl hl hn hl2 (fun ls hl => kk H locs ls hP hD hS hl)
theorem x_lstore (X : CX p m c cc nL s args own) {i : Nat} {x : Int64} {lv2 : List (Nat × Value)} (hd : decode cc pc = .ok (.lstore i, 2)) (hn : i + 1 < nL) (hl2 : (i, Value.long x) :: lv.filter (fun q => !(q.1 == i) && (!(q.1 == i + 1) && !(q.1 + 1 == i && q.2.category == 2))) = lv2) (kk : CS p l e R s m args below meth c D A nL cells slots Q ws (pc + 2) lv2 st) : CS p l e R s m args below meth c D A nL cells slots Q ws pc lv (.long x :: st) := fun H locs ls hP hD hS hl => lv_lstore X.1 X.2.1 hd  hl hn hl2 (fun ls hl => kk H locs ls hP hD hS hl)
theorem x_dload_n (X : CX p m c cc nL s args own) {k : Fin 4} {x : UInt64} (hd : decode cc pc = .ok (.dload_n k, 1)) (j : Nat) (hj : lv[j]? = some ((k : Nat), .double x)) (kk : CS p l e R s m args below meth c D A nL cells slots Q ws (pc + 1) lv (.double x :: st)) : CS p l e R s m args below meth c D A nL cells slots Q ws pc lv st := fun H locs ls hP hD hS hl => lv_dload_n X.1 X.2.1 hd rfl (lv_at hl j hj) (kk H locs ls hP hD hS hl)
theorem x_dload (X : CX p m c cc nL s args own) {i : Nat} {x : UInt64} (hd : decode cc pc = .ok (.dload i, 2)) (j : Nat) (hj : lv[j]? = some (i, .double x)) (kk : CS p l e R s m args below meth c D A nL cells slots Q ws (pc + 2) lv (.double x :: st)) : CS p l e R s m args below meth c D A nL cells slots Q ws pc lv st := fun H locs ls hP hD hS hl => lv_dload X.1 X.2.1 hd (lv_at hl j hj) (kk H locs ls hP hD hS hl)
theorem x_dstore_n (X : CX p m c cc nL s args own) {k : Fin 4} {x : UInt64} {lv2 : List (Nat × Value)} (hd : decode cc pc = .ok (.dstore_n k, 1)) (hn : (k : Nat) + 1 < nL) (hl2 : ((k : Nat), Value.double x) :: lv.filter (fun q => !(q.1 == (k : Nat)) && (!(q.1 == (k : Nat) + 1) && !(q.1 + 1 == (k : Nat) && q.2.category == 2))) = lv2) (kk : CS p l e R s m args below meth c D A nL cells slots Q ws (pc + 1) lv2 st) : CS p l e R s m args below meth c D A nL cells slots Q ws pc lv (.double x :: st) := fun H locs ls hP hD hS hl => lv_dstore_n X.1 X.2.1 hd rfl hl hn hl2 (fun ls hl => kk H locs ls hP hD hS hl)
theorem x_dstore (X : CX p m c cc nL s args own) {i : Nat} {x : UInt64} {lv2 : List (Nat × Value)} (hd : decode cc pc = .ok (.dstore i, 2)) (hn : i + 1 < nL) (hl2 : (i, Value.double x) :: lv.filter (fun q => !(q.1 == i) && (!(q.1 == i + 1) && !(q.1 + 1 == i && q.2.category == 2))) = lv2) (kk : CS p l e R s m args below meth c D A nL cells slots Q ws (pc + 2) lv2 st) : CS p l e R s m args below meth c D A nL cells slots Q ws pc lv (.double x :: st) := fun H locs ls hP hD hS hl => lv_dstore X.1 X.2.1 hd  hl hn hl2 (fun ls hl => kk H locs ls hP hD hS hl)
theorem x_aload_n (X : CX p m c cc nL s args own) {k : Fin 4} {x : Nat} (hd : decode cc pc = .ok (.aload_n k, 1)) (j : Nat) (hj : lv[j]? = some ((k : Nat), .ref x)) (kk : CS p l e R s m args below meth c D A nL cells slots Q ws (pc + 1) lv (.ref x :: st)) : CS p l e R s m args below meth c D A nL cells slots Q ws pc lv st := fun H locs ls hP hD hS hl => lv_aload_n X.1 X.2.1 hd rfl (lv_at hl j hj) (kk H locs ls hP hD hS hl)
theorem x_aload (X : CX p m c cc nL s args own) {i : Nat} {x : Nat} (hd : decode cc pc = .ok (.aload i, 2)) (j : Nat) (hj : lv[j]? = some (i, .ref x)) (kk : CS p l e R s m args below meth c D A nL cells slots Q ws (pc + 2) lv (.ref x :: st)) : CS p l e R s m args below meth c D A nL cells slots Q ws pc lv st := fun H locs ls hP hD hS hl => lv_aload X.1 X.2.1 hd (lv_at hl j hj) (kk H locs ls hP hD hS hl)
theorem x_astore_n (X : CX p m c cc nL s args own) {k : Fin 4} {x : Nat} {lv2 : List (Nat × Value)} (hd : decode cc pc = .ok (.astore_n k, 1)) (hn : (k : Nat) < nL) (hl2 : ((k : Nat), Value.ref x) :: lv.filter (fun q => !(q.1 == (k : Nat)) && !(q.1 + 1 == (k : Nat) && q.2.category == 2)) = lv2) (kk : CS p l e R s m args below meth c D A nL cells slots Q ws (pc + 1) lv2 st) : CS p l e R s m args below meth c D A nL cells slots Q ws pc lv (.ref x :: st) := fun H locs ls hP hD hS hl => lv_astore_n X.1 X.2.1 hd rfl hl hn hl2 (fun ls hl => kk H locs ls hP hD hS hl)
theorem x_astore (X : CX p m c cc nL s args own) {i : Nat} {x : Nat} {lv2 : List (Nat × Value)} (hd : decode cc pc = .ok (.astore i, 2)) (hn : i < nL) (hl2 : (i, Value.ref x) :: lv.filter (fun q => !(q.1 == i) && !(q.1 + 1 == i && q.2.category == 2)) = lv2) (kk : CS p l e R s m args below meth c D A nL cells slots Q ws (pc + 2) lv2 st) : CS p l e R s m args below meth c D A nL cells slots Q ws pc lv (.ref x :: st) := fun H locs ls hP hD hS hl => lv_astore X.1 X.2.1 hd  hl hn hl2 (fun ls hl => kk H locs ls hP hD hS hl)
theorem x_iinc (X : CX p m c cc nL s args own) {i : Nat} {n : Int} {x : Int32} {α : Type} {kf : Int32 → α} {out : α} (hd : decode cc pc = .ok (.iinc i n, 3)) (j : Nat) (hj : lv[j]? = some (i, .int x)) (hn : i < nL) (v : Int32) (hv : x + Int32.ofInt n = v) (hf : nm v kf = out) (lvf : Int32 → List (Nat × Value)) (hl2 : ∀ v, (i, Value.int v) :: lv.filter (fun q => !(q.1 == i) && !(q.1 + 1 == i && q.2.category == 2)) = lvf v) (kk : ∀ v, kf v = out → CS p l e R s m args below meth c D A nL cells slots Q ws (pc + 3) (lvf v) st) : CS p l e R s m args below meth c D A nL cells slots Q ws pc lv st := fun H locs ls hP hD hS hl => lv_iinc X.1 X.2.1 hd hl hj hv hn (hl2 v) (fun ls hl => kk v hf H locs ls hP hD hS hl)
theorem x_iadd (X : CX p m c cc nL s args own) {x y : Int32} (hd : decode cc pc = .ok (.iadd, 1)) (kk : CS p l e R s m args below meth c D A nL cells slots Q ws (pc + 1) lv (.int (x + y) :: st)) : CS p l e R s m args below meth c D A nL cells slots Q ws pc lv (.int y :: .int x :: st) := fun H locs ls hP hD hS hl => lv_iadd X.1 X.2.1 hd (kk H locs ls hP hD hS hl)
theorem x_isub (X : CX p m c cc nL s args own) {x y : Int32} (hd : decode cc pc = .ok (.isub, 1)) (kk : CS p l e R s m args below meth c D A nL cells slots Q ws (pc + 1) lv (.int (x - y) :: st)) : CS p l e R s m args below meth c D A nL cells slots Q ws pc lv (.int y :: .int x :: st) := fun H locs ls hP hD hS hl => lv_isub X.1 X.2.1 hd (kk H locs ls hP hD hS hl)
theorem x_imul (X : CX p m c cc nL s args own) {x y : Int32} (hd : decode cc pc = .ok (.imul, 1)) (kk : CS p l e R s m args below meth c D A nL cells slots Q ws (pc + 1) lv (.int (x * y) :: st)) : CS p l e R s m args below meth c D A nL cells slots Q ws pc lv (.int y :: .int x :: st) := fun H locs ls hP hD hS hl => lv_imul X.1 X.2.1 hd (kk H locs ls hP hD hS hl)
theorem x_iand (X : CX p m c cc nL s args own) {x y : Int32} (hd : decode cc pc = .ok (.iand, 1)) (kk : CS p l e R s m args below meth c D A nL cells slots Q ws (pc + 1) lv (.int (x &&& y) :: st)) : CS p l e R s m args below meth c D A nL cells slots Q ws pc lv (.int y :: .int x :: st) := fun H locs ls hP hD hS hl => lv_iand X.1 X.2.1 hd (kk H locs ls hP hD hS hl)
theorem x_ixor (X : CX p m c cc nL s args own) {x y : Int32} (hd : decode cc pc = .ok (.ixor, 1)) (kk : CS p l e R s m args below meth c D A nL cells slots Q ws (pc + 1) lv (.int (x ^^^ y) :: st)) : CS p l e R s m args below meth c D A nL cells slots Q ws pc lv (.int y :: .int x :: st) := fun H locs ls hP hD hS hl => lv_ixor X.1 X.2.1 hd (kk H locs ls hP hD hS hl)
theorem x_ladd (X : CX p m c cc nL s args own) {x y : Int64} (hd : decode cc pc = .ok (.ladd, 1)) (kk : CS p l e R s m args below meth c D A nL cells slots Q ws (pc + 1) lv (.long (x + y) :: st)) : CS p l e R s m args below meth c D A nL cells slots Q ws pc lv (.long y :: .long x :: st) := fun H locs ls hP hD hS hl => lv_ladd X.1 X.2.1 hd (kk H locs ls hP hD hS hl)
theorem x_lsub (X : CX p m c cc nL s args own) {x y : Int64} (hd : decode cc pc = .ok (.lsub, 1)) (kk : CS p l e R s m args below meth c D A nL cells slots Q ws (pc + 1) lv (.long (x - y) :: st)) : CS p l e R s m args below meth c D A nL cells slots Q ws pc lv (.long y :: .long x :: st) := fun H locs ls hP hD hS hl => lv_lsub X.1 X.2.1 hd (kk H locs ls hP hD hS hl)
theorem x_lmul (X : CX p m c cc nL s args own) {x y : Int64} (hd : decode cc pc = .ok (.lmul, 1)) (kk : CS p l e R s m args below meth c D A nL cells slots Q ws (pc + 1) lv (.long (x * y) :: st)) : CS p l e R s m args below meth c D A nL cells slots Q ws pc lv (.long y :: .long x :: st) := fun H locs ls hP hD hS hl => lv_lmul X.1 X.2.1 hd (kk H locs ls hP hD hS hl)
theorem x_land (X : CX p m c cc nL s args own) {x y : Int64} (hd : decode cc pc = .ok (.land, 1)) (kk : CS p l e R s m args below meth c D A nL cells slots Q ws (pc + 1) lv (.long (x &&& y) :: st)) : CS p l e R s m args below meth c D A nL cells slots Q ws pc lv (.long y :: .long x :: st) := fun H locs ls hP hD hS hl => lv_land X.1 X.2.1 hd (kk H locs ls hP hD hS hl)
theorem x_lor (X : CX p m c cc nL s args own) {x y : Int64} (hd : decode cc pc = .ok (.lor, 1)) (kk : CS p l e R s m args below meth c D A nL cells slots Q ws (pc + 1) lv (.long (x ||| y) :: st)) : CS p l e R s m args below meth c D A nL cells slots Q ws pc lv (.long y :: .long x :: st) := fun H locs ls hP hD hS hl => lv_lor X.1 X.2.1 hd (kk H locs ls hP hD hS hl)
theorem x_lxor (X : CX p m c cc nL s args own) {x y : Int64} (hd : decode cc pc = .ok (.lxor, 1)) (kk : CS p l e R s m args below meth c D A nL cells slots Q ws (pc + 1) lv (.long (x ^^^ y) :: st)) : CS p l e R s m args below meth c D A nL cells slots Q ws pc lv (.long y :: .long x :: st) := fun H locs ls hP hD hS hl => lv_lxor X.1 X.2.1 hd (kk H locs ls hP hD hS hl)
theorem x_ishl (X : CX p m c cc nL s args own) {x y : Int32} (hd : decode cc pc = .ok (.ishl, 1)) (kk : CS p l e R s m args below meth c D A nL cells slots Q ws (pc + 1) lv (.int (x <<< (y &&& 31)) :: st)) : CS p l e R s m args below meth c D A nL cells slots Q ws pc lv (.int y :: .int x :: st) := fun H locs ls hP hD hS hl => lv_ishl X.1 X.2.1 hd (kk H locs ls hP hD hS hl)
theorem x_ishr (X : CX p m c cc nL s args own) {x y : Int32} (hd : decode cc pc = .ok (.ishr, 1)) (kk : CS p l e R s m args below meth c D A nL cells slots Q ws (pc + 1) lv (.int (x >>> (y &&& 31)) :: st)) : CS p l e R s m args below meth c D A nL cells slots Q ws pc lv (.int y :: .int x :: st) := fun H locs ls hP hD hS hl => lv_ishr X.1 X.2.1 hd (kk H locs ls hP hD hS hl)
theorem x_iushr (X : CX p m c cc nL s args own) {x y : Int32} (hd : decode cc pc = .ok (.iushr, 1)) (kk : CS p l e R s m args below meth c D A nL cells slots Q ws (pc + 1) lv (.int (x.toUInt32 >>> (y.toUInt32 &&& Int32.toUInt32 31)).toInt32 :: st)) : CS p l e R s m args below meth c D A nL cells slots Q ws pc lv (.int y :: .int x :: st) := fun H locs ls hP hD hS hl => lv_iushr X.1 X.2.1 hd rfl (kk H locs ls hP hD hS hl)
theorem x_lushr (X : CX p m c cc nL s args own) {x : Int64} {y : Int32} (hd : decode cc pc = .ok (.lushr, 1)) (kk : CS p l e R s m args below meth c D A nL cells slots Q ws (pc + 1) lv (.long (x.toUInt64 >>> (y.toInt64.toUInt64 &&& Int64.toUInt64 63)).toInt64 :: st)) : CS p l e R s m args below meth c D A nL cells slots Q ws pc lv (.int y :: .long x :: st) := fun H locs ls hP hD hS hl => lv_lushr X.1 X.2.1 hd rfl (kk H locs ls hP hD hS hl)
theorem x_lshl (X : CX p m c cc nL s args own) {x : Int64} {y : Int32} (hd : decode cc pc = .ok (.lshl, 1)) (kk : CS p l e R s m args below meth c D A nL cells slots Q ws (pc + 1) lv (.long (x <<< (y.toInt64 &&& 63)) :: st)) : CS p l e R s m args below meth c D A nL cells slots Q ws pc lv (.int y :: .long x :: st) := fun H locs ls hP hD hS hl => lv_lshl X.1 X.2.1 hd rfl (kk H locs ls hP hD hS hl)
theorem x_lshr (X : CX p m c cc nL s args own) {x : Int64} {y : Int32} (hd : decode cc pc = .ok (.lshr, 1)) (kk : CS p l e R s m args below meth c D A nL cells slots Q ws (pc + 1) lv (.long (x >>> (y.toInt64 &&& 63)) :: st)) : CS p l e R s m args below meth c D A nL cells slots Q ws pc lv (.int y :: .long x :: st) := fun H locs ls hP hD hS hl => lv_lshr X.1 X.2.1 hd rfl (kk H locs ls hP hD hS hl)
theorem x_i2l (X : CX p m c cc nL s args own) {x : Int32} (hd : decode cc pc = .ok (.i2l, 1)) (kk : CS p l e R s m args below meth c D A nL cells slots Q ws (pc + 1) lv (.long x.toInt64 :: st)) : CS p l e R s m args below meth c D A nL cells slots Q ws pc lv (.int x :: st) := fun H locs ls hP hD hS hl => lv_i2l X.1 X.2.1 hd rfl (kk H locs ls hP hD hS hl)
theorem x_l2i (X : CX p m c cc nL s args own) {x : Int64} (hd : decode cc pc = .ok (.l2i, 1)) (kk : CS p l e R s m args below meth c D A nL cells slots Q ws (pc + 1) lv (.int x.toInt32 :: st)) : CS p l e R s m args below meth c D A nL cells slots Q ws pc lv (.long x :: st) := fun H locs ls hP hD hS hl => lv_l2i X.1 X.2.1 hd rfl (kk H locs ls hP hD hS hl)
theorem x_i2d (X : CX p m c cc nL s args own) {x : Int32} (hd : decode cc pc = .ok (.i2d, 1)) (kk : CS p l e R s m args below meth c D A nL cells slots Q ws (pc + 1) lv (.double (FP.i2d x) :: st)) : CS p l e R s m args below meth c D A nL cells slots Q ws pc lv (.int x :: st) := fun H locs ls hP hD hS hl => lv_i2d X.1 X.2.1 hd (kk H locs ls hP hD hS hl)
theorem x_l2d (X : CX p m c cc nL s args own) {x : Int64} (hd : decode cc pc = .ok (.l2d, 1)) (kk : CS p l e R s m args below meth c D A nL cells slots Q ws (pc + 1) lv (.double (FP.l2d x) :: st)) : CS p l e R s m args below meth c D A nL cells slots Q ws pc lv (.long x :: st) := fun H locs ls hP hD hS hl => lv_l2d X.1 X.2.1 hd (kk H locs ls hP hD hS hl)
theorem x_dconst0 (X : CX p m c cc nL s args own) (hd : decode cc pc = .ok (.dconst 0, 1)) (kk : CS p l e R s m args below meth c D A nL cells slots Q ws (pc + 1) lv (.double FP.dconst0 :: st)) : CS p l e R s m args below meth c D A nL cells slots Q ws pc lv st := fun H locs ls hP hD hS hl => lv_dconst0 X.1 X.2.1 hd (kk H locs ls hP hD hS hl)
theorem x_ddiv (X : CX p m c cc nL s args own) {x y : UInt64} {α : Type} {kf : UInt64 → Option α} {out : α} (hd : decode cc pc = .ok (.ddiv, 1)) (hf : ck (vf_n64 (FP.ddiv x y)) (nm (FP.ddiv x y) kf) = some out) (kk : ∀ z, kf z = some out → CS p l e R s m args below meth c D A nL cells slots Q ws (pc + 1) lv (.double z :: st)) : CS p l e R s m args below meth c D A nL cells slots Q ws pc lv (.double y :: .double x :: st) := fun H locs ls hP hD hS hl => lv_ddiv X.1 X.2.1 hd (ck_some hf).1 (kk _ (ck_some hf).2 H locs ls hP hD hS hl)
theorem x_dup (X : CX p m c cc nL s args own) {va : Value} (hd : decode cc pc = .ok (.dup, 1)) (hc : va.category = 1) (kk : CS p l e R s m args below meth c D A nL cells slots Q ws (pc + 1) lv (va :: va :: st)) : CS p l e R s m args below meth c D A nL cells slots Q ws pc lv (va :: st) := fun H locs ls hP hD hS hl => lv_dup X.1 X.2.1 hd hc (kk H locs ls hP hD hS hl)
theorem x_pop (X : CX p m c cc nL s args own) {va : Value} (hd : decode cc pc = .ok (.pop, 1)) (hc : va.category = 1) (kk : CS p l e R s m args below meth c D A nL cells slots Q ws (pc + 1) lv st) : CS p l e R s m args below meth c D A nL cells slots Q ws pc lv (va :: st) := fun H locs ls hP hD hS hl => lv_pop X.1 X.2.1 hd hc (kk H locs ls hP hD hS hl)
theorem x_dup2 (X : CX p m c cc nL s args own) {va vb : Value} (hd : decode cc pc = .ok (.dup2, 1)) (hc : va.category = 1) (hc2 : vb.category = 1) (kk : CS p l e R s m args below meth c D A nL cells slots Q ws (pc + 1) lv (va :: vb :: va :: vb :: st)) : CS p l e R s m args below meth c D A nL cells slots Q ws pc lv (va :: vb :: st) := fun H locs ls hP hD hS hl => lv_dup2_11 X.1 X.2.1 hd hc hc2 (kk H locs ls hP hD hS hl)
theorem x_goto (X : CX p m c cc nL s args own) {off : Int} {tgt : Nat} (hd : decode cc pc = .ok (.goto off, 3)) (ht : (pc : Int) + off = (tgt : Int)) (kk : CS p l e R s m args below meth c D A nL cells slots Q ws tgt lv st) : CS p l e R s m args below meth c D A nL cells slots Q ws pc lv st := fun H locs ls hP hD hS hl => lv_goto X.1 X.2.1 hd ht (kk H locs ls hP hD hS hl)
theorem x_if_eq (X : CX p m c cc nL s args own) {x : Int32} {off : Int} {tgt : Nat} {α : Type} {FA FB out : α} (hd : decode cc pc = .ok (.ifCond .eq off, 3)) (ht : (pc : Int) + off = (tgt : Int)) (hf : (if x = 0 then FA else FB) = out) (k1 : FA = out → CS p l e R s m args below meth c D A nL cells slots Q ws tgt lv st) (k2 : FB = out → CS p l e R s m args below meth c D A nL cells slots Q ws (pc + 3) lv st) : CS p l e R s m args below meth c D A nL cells slots Q ws pc lv (.int x :: st) := fun H locs ls hP hD hS hl => lv_if_eq X.1 X.2.1 hd ht (fun h => k1 ((if_pos h).symm.trans hf) H locs ls hP hD hS hl) (fun h => k2 ((if_neg h).symm.trans hf) H locs ls hP hD hS hl)
theorem x_if_eq_t (X : CX p m c cc nL s args own) {x : Int32} {off : Int} {tgt : Nat} (hd : decode cc pc = .ok (.ifCond .eq off, 3)) (ht : (pc : Int) + off = (tgt : Int)) (hc : x = 0) (k1 : CS p l e R s m args below meth c D A nL cells slots Q ws tgt lv st) : CS p l e R s m args below meth c D A nL cells slots Q ws pc lv (.int x :: st) := fun H locs ls hP hD hS hl => lv_if_eq X.1 X.2.1 hd ht (fun _ => k1 H locs ls hP hD hS hl) (fun h => absurd hc (by first | exact h | exact not_not_intro h))
theorem x_if_eq_f (X : CX p m c cc nL s args own) {x : Int32} {off : Int} {tgt : Nat} (hd : decode cc pc = .ok (.ifCond .eq off, 3)) (ht : (pc : Int) + off = (tgt : Int)) (hc : ¬ x = 0) (k2 : CS p l e R s m args below meth c D A nL cells slots Q ws (pc + 3) lv st) : CS p l e R s m args below meth c D A nL cells slots Q ws pc lv (.int x :: st) := fun H locs ls hP hD hS hl => lv_if_eq X.1 X.2.1 hd ht (fun h => absurd hc (by first | exact h | exact not_not_intro h)) (fun _ => k2 H locs ls hP hD hS hl)
theorem x_icmp_eq (X : CX p m c cc nL s args own) {x y : Int32} {off : Int} {tgt : Nat} {α : Type} {FA FB out : α} (hd : decode cc pc = .ok (.if_icmp .eq off, 3)) (ht : (pc : Int) + off = (tgt : Int)) (hf : (if x = y then FA else FB) = out) (k1 : FA = out → CS p l e R s m args below meth c D A nL cells slots Q ws tgt lv st) (k2 : FB = out → CS p l e R s m args below meth c D A nL cells slots Q ws (pc + 3) lv st) : CS p l e R s m args below meth c D A nL cells slots Q ws pc lv (.int y :: .int x :: st) := fun H locs ls hP hD hS hl => lv_icmp_eq X.1 X.2.1 hd ht (fun h => k1 ((if_pos h).symm.trans hf) H locs ls hP hD hS hl) (fun h => k2 ((if_neg h).symm.trans hf) H locs ls hP hD hS hl)
theorem x_icmp_eq_t (X : CX p m c cc nL s args own) {x y : Int32} {off : Int} {tgt : Nat} (hd : decode cc pc = .ok (.if_icmp .eq off, 3)) (ht : (pc : Int) + off = (tgt : Int)) (hc : x = y) (k1 : CS p l e R s m args below meth c D A nL cells slots Q ws tgt lv st) : CS p l e R s m args below meth c D A nL cells slots Q ws pc lv (.int y :: .int x :: st) := fun H locs ls hP hD hS hl => lv_icmp_eq X.1 X.2.1 hd ht (fun _ => k1 H locs ls hP hD hS hl) (fun h => absurd hc (by first | exact h | exact not_not_intro h))
theorem x_icmp_eq_f (X : CX p m c cc nL s args own) {x y : Int32} {off : Int} {tgt : Nat} (hd : decode cc pc = .ok (.if_icmp .eq off, 3)) (ht : (pc : Int) + off = (tgt : Int)) (hc : ¬ x = y) (k2 : CS p l e R s m args below meth c D A nL cells slots Q ws (pc + 3) lv st) : CS p l e R s m args below meth c D A nL cells slots Q ws pc lv (.int y :: .int x :: st) := fun H locs ls hP hD hS hl => lv_icmp_eq X.1 X.2.1 hd ht (fun h => absurd hc (by first | exact h | exact not_not_intro h)) (fun _ => k2 H locs ls hP hD hS hl)
theorem x_if_ne (X : CX p m c cc nL s args own) {x : Int32} {off : Int} {tgt : Nat} {α : Type} {FA FB out : α} (hd : decode cc pc = .ok (.ifCond .ne off, 3)) (ht : (pc : Int) + off = (tgt : Int)) (hf : (if x = 0 then FA else FB) = out) (k1 : FB = out → CS p l e R s m args below meth c D A nL cells slots Q ws tgt lv st) (k2 : FA = out → CS p l e R s m args below meth c D A nL cells slots Q ws (pc + 3) lv st) : CS p l e R s m args below meth c D A nL cells slots Q ws pc lv (.int x :: st) := fun H locs ls hP hD hS hl => lv_if_ne X.1 X.2.1 hd ht (fun h => k1 ((if_neg h).symm.trans hf) H locs ls hP hD hS hl) (fun h => k2 ((if_pos h).symm.trans hf) H locs ls hP hD hS hl)
theorem x_if_ne_t (X : CX p m c cc nL s args own) {x : Int32} {off : Int} {tgt : Nat} (hd : decode cc pc = .ok (.ifCond .ne off, 3)) (ht : (pc : Int) + off = (tgt : Int)) (hc : ¬ x = 0) (k1 : CS p l e R s m args below meth c D A nL cells slots Q ws tgt lv st) : CS p l e R s m args below meth c D A nL cells slots Q ws pc lv (.int x :: st) := fun H locs ls hP hD hS hl => lv_if_ne X.1 X.2.1 hd ht (fun _ => k1 H locs ls hP hD hS hl) (fun h => absurd hc (by first | exact h | exact not_not_intro h))
theorem x_if_ne_f (X : CX p m c cc nL s args own) {x : Int32} {off : Int} {tgt : Nat} (hd : decode cc pc = .ok (.ifCond .ne off, 3)) (ht : (pc : Int) + off = (tgt : Int)) (hc : x = 0) (k2 : CS p l e R s m args below meth c D A nL cells slots Q ws (pc + 3) lv st) : CS p l e R s m args below meth c D A nL cells slots Q ws pc lv (.int x :: st) := fun H locs ls hP hD hS hl => lv_if_ne X.1 X.2.1 hd ht (fun h => absurd hc (by first | exact h | exact not_not_intro h)) (fun _ => k2 H locs ls hP hD hS hl)
theorem x_icmp_ne (X : CX p m c cc nL s args own) {x y : Int32} {off : Int} {tgt : Nat} {α : Type} {FA FB out : α} (hd : decode cc pc = .ok (.if_icmp .ne off, 3)) (ht : (pc : Int) + off = (tgt : Int)) (hf : (if x = y then FA else FB) = out) (k1 : FB = out → CS p l e R s m args below meth c D A nL cells slots Q ws tgt lv st) (k2 : FA = out → CS p l e R s m args below meth c D A nL cells slots Q ws (pc + 3) lv st) : CS p l e R s m args below meth c D A nL cells slots Q ws pc lv (.int y :: .int x :: st) := fun H locs ls hP hD hS hl => lv_icmp_ne X.1 X.2.1 hd ht (fun h => k1 ((if_neg h).symm.trans hf) H locs ls hP hD hS hl) (fun h => k2 ((if_pos h).symm.trans hf) H locs ls hP hD hS hl)
theorem x_icmp_ne_t (X : CX p m c cc nL s args own) {x y : Int32} {off : Int} {tgt : Nat} (hd : decode cc pc = .ok (.if_icmp .ne off, 3)) (ht : (pc : Int) + off = (tgt : Int)) (hc : ¬ x = y) (k1 : CS p l e R s m args below meth c D A nL cells slots Q ws tgt lv st) : CS p l e R s m args below meth c D A nL cells slots Q ws pc lv (.int y :: .int x :: st) := fun H locs ls hP hD hS hl => lv_icmp_ne X.1 X.2.1 hd ht (fun _ => k1 H locs ls hP hD hS hl) (fun h => absurd hc (by first | exact h | exact not_not_intro h))
theorem x_icmp_ne_f (X : CX p m c cc nL s args own) {x y : Int32} {off : Int} {tgt : Nat} (hd : decode cc pc = .ok (.if_icmp .ne off, 3)) (ht : (pc : Int) + off = (tgt : Int)) (hc : x = y) (k2 : CS p l e R s m args below meth c D A nL cells slots Q ws (pc + 3) lv st) : CS p l e R s m args below meth c D A nL cells slots Q ws pc lv (.int y :: .int x :: st) := fun H locs ls hP hD hS hl => lv_icmp_ne X.1 X.2.1 hd ht (fun h => absurd hc (by first | exact h | exact not_not_intro h)) (fun _ => k2 H locs ls hP hD hS hl)
theorem x_if_lt (X : CX p m c cc nL s args own) {x : Int32} {off : Int} {tgt : Nat} {α : Type} {FA FB out : α} (hd : decode cc pc = .ok (.ifCond .lt off, 3)) (ht : (pc : Int) + off = (tgt : Int)) (hf : (if x < 0 then FA else FB) = out) (k1 : FA = out → CS p l e R s m args below meth c D A nL cells slots Q ws tgt lv st) (k2 : FB = out → CS p l e R s m args below meth c D A nL cells slots Q ws (pc + 3) lv st) : CS p l e R s m args below meth c D A nL cells slots Q ws pc lv (.int x :: st) := fun H locs ls hP hD hS hl => lv_if_lt X.1 X.2.1 hd ht (fun h => k1 ((if_pos h).symm.trans hf) H locs ls hP hD hS hl) (fun h => k2 ((if_neg h).symm.trans hf) H locs ls hP hD hS hl)
theorem x_if_lt_t (X : CX p m c cc nL s args own) {x : Int32} {off : Int} {tgt : Nat} (hd : decode cc pc = .ok (.ifCond .lt off, 3)) (ht : (pc : Int) + off = (tgt : Int)) (hc : x < 0) (k1 : CS p l e R s m args below meth c D A nL cells slots Q ws tgt lv st) : CS p l e R s m args below meth c D A nL cells slots Q ws pc lv (.int x :: st) := fun H locs ls hP hD hS hl => lv_if_lt X.1 X.2.1 hd ht (fun _ => k1 H locs ls hP hD hS hl) (fun h => absurd hc (by first | exact h | exact not_not_intro h))
theorem x_if_lt_f (X : CX p m c cc nL s args own) {x : Int32} {off : Int} {tgt : Nat} (hd : decode cc pc = .ok (.ifCond .lt off, 3)) (ht : (pc : Int) + off = (tgt : Int)) (hc : ¬ x < 0) (k2 : CS p l e R s m args below meth c D A nL cells slots Q ws (pc + 3) lv st) : CS p l e R s m args below meth c D A nL cells slots Q ws pc lv (.int x :: st) := fun H locs ls hP hD hS hl => lv_if_lt X.1 X.2.1 hd ht (fun h => absurd hc (by first | exact h | exact not_not_intro h)) (fun _ => k2 H locs ls hP hD hS hl)
theorem x_icmp_lt (X : CX p m c cc nL s args own) {x y : Int32} {off : Int} {tgt : Nat} {α : Type} {FA FB out : α} (hd : decode cc pc = .ok (.if_icmp .lt off, 3)) (ht : (pc : Int) + off = (tgt : Int)) (hf : (if x < y then FA else FB) = out) (k1 : FA = out → CS p l e R s m args below meth c D A nL cells slots Q ws tgt lv st) (k2 : FB = out → CS p l e R s m args below meth c D A nL cells slots Q ws (pc + 3) lv st) : CS p l e R s m args below meth c D A nL cells slots Q ws pc lv (.int y :: .int x :: st) := fun H locs ls hP hD hS hl => lv_icmp_lt X.1 X.2.1 hd ht (fun h => k1 ((if_pos h).symm.trans hf) H locs ls hP hD hS hl) (fun h => k2 ((if_neg h).symm.trans hf) H locs ls hP hD hS hl)
theorem x_icmp_lt_t (X : CX p m c cc nL s args own) {x y : Int32} {off : Int} {tgt : Nat} (hd : decode cc pc = .ok (.if_icmp .lt off, 3)) (ht : (pc : Int) + off = (tgt : Int)) (hc : x < y) (k1 : CS p l e R s m args below meth c D A nL cells slots Q ws tgt lv st) : CS p l e R s m args below meth c D A nL cells slots Q ws pc lv (.int y :: .int x :: st) := fun H locs ls hP hD hS hl => lv_icmp_lt X.1 X.2.1 hd ht (fun _ => k1 H locs ls hP hD hS hl) (fun h => absurd hc (by first | exact h | exact not_not_intro h))
theorem x_icmp_lt_f (X : CX p m c cc nL s args own) {x y : Int32} {off : Int} {tgt : Nat} (hd : decode cc pc = .ok (.if_icmp .lt off, 3)) (ht : (pc : Int) + off = (tgt : Int)) (hc : ¬ x < y) (k2 : CS p l e R s m args below meth c D A nL cells slots Q ws (pc + 3) lv st) : CS p l e R s m args below meth c D A nL cells slots Q ws pc lv (.int y :: .int x :: st) := fun H locs ls hP hD hS hl => lv_icmp_lt X.1 X.2.1 hd ht (fun h => absurd hc (by first | exact h | exact not_not_intro h)) (fun _ => k2 H locs ls hP hD hS hl)
theorem x_if_ge (X : CX p m c cc nL s args own) {x : Int32} {off : Int} {tgt : Nat} {α : Type} {FA FB out : α} (hd : decode cc pc = .ok (.ifCond .ge off, 3)) (ht : (pc : Int) + off = (tgt : Int)) (hf : (if 0 ≤ x then FA else FB) = out) (k1 : FA = out → CS p l e R s m args below meth c D A nL cells slots Q ws tgt lv st) (k2 : FB = out → CS p l e R s m args below meth c D A nL cells slots Q ws (pc + 3) lv st) : CS p l e R s m args below meth c D A nL cells slots Q ws pc lv (.int x :: st) := fun H locs ls hP hD hS hl => lv_if_ge X.1 X.2.1 hd ht (fun h => k1 ((if_pos h).symm.trans hf) H locs ls hP hD hS hl) (fun h => k2 ((if_neg h).symm.trans hf) H locs ls hP hD hS hl)
theorem x_if_ge_t (X : CX p m c cc nL s args own) {x : Int32} {off : Int} {tgt : Nat} (hd : decode cc pc = .ok (.ifCond .ge off, 3)) (ht : (pc : Int) + off = (tgt : Int)) (hc : 0 ≤ x) (k1 : CS p l e R s m args below meth c D A nL cells slots Q ws tgt lv st) : CS p l e R s m args below meth c D A nL cells slots Q ws pc lv (.int x :: st) := fun H locs ls hP hD hS hl => lv_if_ge X.1 X.2.1 hd ht (fun _ => k1 H locs ls hP hD hS hl) (fun h => absurd hc (by first | exact h | exact not_not_intro h))
theorem x_if_ge_f (X : CX p m c cc nL s args own) {x : Int32} {off : Int} {tgt : Nat} (hd : decode cc pc = .ok (.ifCond .ge off, 3)) (ht : (pc : Int) + off = (tgt : Int)) (hc : ¬ 0 ≤ x) (k2 : CS p l e R s m args below meth c D A nL cells slots Q ws (pc + 3) lv st) : CS p l e R s m args below meth c D A nL cells slots Q ws pc lv (.int x :: st) := fun H locs ls hP hD hS hl => lv_if_ge X.1 X.2.1 hd ht (fun h => absurd hc (by first | exact h | exact not_not_intro h)) (fun _ => k2 H locs ls hP hD hS hl)
theorem x_icmp_ge (X : CX p m c cc nL s args own) {x y : Int32} {off : Int} {tgt : Nat} {α : Type} {FA FB out : α} (hd : decode cc pc = .ok (.if_icmp .ge off, 3)) (ht : (pc : Int) + off = (tgt : Int)) (hf : (if y ≤ x then FA else FB) = out) (k1 : FA = out → CS p l e R s m args below meth c D A nL cells slots Q ws tgt lv st) (k2 : FB = out → CS p l e R s m args below meth c D A nL cells slots Q ws (pc + 3) lv st) : CS p l e R s m args below meth c D A nL cells slots Q ws pc lv (.int y :: .int x :: st) := fun H locs ls hP hD hS hl => lv_icmp_ge X.1 X.2.1 hd ht (fun h => k1 ((if_pos h).symm.trans hf) H locs ls hP hD hS hl) (fun h => k2 ((if_neg h).symm.trans hf) H locs ls hP hD hS hl)
theorem x_icmp_ge_t (X : CX p m c cc nL s args own) {x y : Int32} {off : Int} {tgt : Nat} (hd : decode cc pc = .ok (.if_icmp .ge off, 3)) (ht : (pc : Int) + off = (tgt : Int)) (hc : y ≤ x) (k1 : CS p l e R s m args below meth c D A nL cells slots Q ws tgt lv st) : CS p l e R s m args below meth c D A nL cells slots Q ws pc lv (.int y :: .int x :: st) := fun H locs ls hP hD hS hl => lv_icmp_ge X.1 X.2.1 hd ht (fun _ => k1 H locs ls hP hD hS hl) (fun h => absurd hc (by first | exact h | exact not_not_intro h))
theorem x_icmp_ge_f (X : CX p m c cc nL s args own) {x y : Int32} {off : Int} {tgt : Nat} (hd : decode cc pc = .ok (.if_icmp .ge off, 3)) (ht : (pc : Int) + off = (tgt : Int)) (hc : ¬ y ≤ x) (k2 : CS p l e R s m args below meth c D A nL cells slots Q ws (pc + 3) lv st) : CS p l e R s m args below meth c D A nL cells slots Q ws pc lv (.int y :: .int x :: st) := fun H locs ls hP hD hS hl => lv_icmp_ge X.1 X.2.1 hd ht (fun h => absurd hc (by first | exact h | exact not_not_intro h)) (fun _ => k2 H locs ls hP hD hS hl)
theorem x_if_gt (X : CX p m c cc nL s args own) {x : Int32} {off : Int} {tgt : Nat} {α : Type} {FA FB out : α} (hd : decode cc pc = .ok (.ifCond .gt off, 3)) (ht : (pc : Int) + off = (tgt : Int)) (hf : (if 0 < x then FA else FB) = out) (k1 : FA = out → CS p l e R s m args below meth c D A nL cells slots Q ws tgt lv st) (k2 : FB = out → CS p l e R s m args below meth c D A nL cells slots Q ws (pc + 3) lv st) : CS p l e R s m args below meth c D A nL cells slots Q ws pc lv (.int x :: st) := fun H locs ls hP hD hS hl => lv_if_gt X.1 X.2.1 hd ht (fun h => k1 ((if_pos h).symm.trans hf) H locs ls hP hD hS hl) (fun h => k2 ((if_neg h).symm.trans hf) H locs ls hP hD hS hl)
theorem x_if_gt_t (X : CX p m c cc nL s args own) {x : Int32} {off : Int} {tgt : Nat} (hd : decode cc pc = .ok (.ifCond .gt off, 3)) (ht : (pc : Int) + off = (tgt : Int)) (hc : 0 < x) (k1 : CS p l e R s m args below meth c D A nL cells slots Q ws tgt lv st) : CS p l e R s m args below meth c D A nL cells slots Q ws pc lv (.int x :: st) := fun H locs ls hP hD hS hl => lv_if_gt X.1 X.2.1 hd ht (fun _ => k1 H locs ls hP hD hS hl) (fun h => absurd hc (by first | exact h | exact not_not_intro h))
theorem x_if_gt_f (X : CX p m c cc nL s args own) {x : Int32} {off : Int} {tgt : Nat} (hd : decode cc pc = .ok (.ifCond .gt off, 3)) (ht : (pc : Int) + off = (tgt : Int)) (hc : ¬ 0 < x) (k2 : CS p l e R s m args below meth c D A nL cells slots Q ws (pc + 3) lv st) : CS p l e R s m args below meth c D A nL cells slots Q ws pc lv (.int x :: st) := fun H locs ls hP hD hS hl => lv_if_gt X.1 X.2.1 hd ht (fun h => absurd hc (by first | exact h | exact not_not_intro h)) (fun _ => k2 H locs ls hP hD hS hl)
theorem x_icmp_gt (X : CX p m c cc nL s args own) {x y : Int32} {off : Int} {tgt : Nat} {α : Type} {FA FB out : α} (hd : decode cc pc = .ok (.if_icmp .gt off, 3)) (ht : (pc : Int) + off = (tgt : Int)) (hf : (if y < x then FA else FB) = out) (k1 : FA = out → CS p l e R s m args below meth c D A nL cells slots Q ws tgt lv st) (k2 : FB = out → CS p l e R s m args below meth c D A nL cells slots Q ws (pc + 3) lv st) : CS p l e R s m args below meth c D A nL cells slots Q ws pc lv (.int y :: .int x :: st) := fun H locs ls hP hD hS hl => lv_icmp_gt X.1 X.2.1 hd ht (fun h => k1 ((if_pos h).symm.trans hf) H locs ls hP hD hS hl) (fun h => k2 ((if_neg h).symm.trans hf) H locs ls hP hD hS hl)
theorem x_icmp_gt_t (X : CX p m c cc nL s args own) {x y : Int32} {off : Int} {tgt : Nat} (hd : decode cc pc = .ok (.if_icmp .gt off, 3)) (ht : (pc : Int) + off = (tgt : Int)) (hc : y < x) (k1 : CS p l e R s m args below meth c D A nL cells slots Q ws tgt lv st) : CS p l e R s m args below meth c D A nL cells slots Q ws pc lv (.int y :: .int x :: st) := fun H locs ls hP hD hS hl => lv_icmp_gt X.1 X.2.1 hd ht (fun _ => k1 H locs ls hP hD hS hl) (fun h => absurd hc (by first | exact h | exact not_not_intro h))
theorem x_icmp_gt_f (X : CX p m c cc nL s args own) {x y : Int32} {off : Int} {tgt : Nat} (hd : decode cc pc = .ok (.if_icmp .gt off, 3)) (ht : (pc : Int) + off = (tgt : Int)) (hc : ¬ y < x) (k2 : CS p l e R s m args below meth c D A nL cells slots Q ws (pc + 3) lv st) : CS p l e R s m args below meth c D A nL cells slots Q ws pc lv (.int y :: .int x :: st) := fun H locs ls hP hD hS hl => lv_icmp_gt X.1 X.2.1 hd ht (fun h => absurd hc (by first | exact h | exact not_not_intro h)) (fun _ => k2 H locs ls hP hD hS hl)
theorem x_if_le (X : CX p m c cc nL s args own) {x : Int32} {off : Int} {tgt : Nat} {α : Type} {FA FB out : α} (hd : decode cc pc = .ok (.ifCond .le off, 3)) (ht : (pc : Int) + off = (tgt : Int)) (hf : (if x ≤ 0 then FA else FB) = out) (k1 : FA = out → CS p l e R s m args below meth c D A nL cells slots Q ws tgt lv st) (k2 : FB = out → CS p l e R s m args below meth c D A nL cells slots Q ws (pc + 3) lv st) : CS p l e R s m args below meth c D A nL cells slots Q ws pc lv (.int x :: st) := fun H locs ls hP hD hS hl => lv_if_le X.1 X.2.1 hd ht (fun h => k1 ((if_pos h).symm.trans hf) H locs ls hP hD hS hl) (fun h => k2 ((if_neg h).symm.trans hf) H locs ls hP hD hS hl)
theorem x_if_le_t (X : CX p m c cc nL s args own) {x : Int32} {off : Int} {tgt : Nat} (hd : decode cc pc = .ok (.ifCond .le off, 3)) (ht : (pc : Int) + off = (tgt : Int)) (hc : x ≤ 0) (k1 : CS p l e R s m args below meth c D A nL cells slots Q ws tgt lv st) : CS p l e R s m args below meth c D A nL cells slots Q ws pc lv (.int x :: st) := fun H locs ls hP hD hS hl => lv_if_le X.1 X.2.1 hd ht (fun _ => k1 H locs ls hP hD hS hl) (fun h => absurd hc (by first | exact h | exact not_not_intro h))
theorem x_if_le_f (X : CX p m c cc nL s args own) {x : Int32} {off : Int} {tgt : Nat} (hd : decode cc pc = .ok (.ifCond .le off, 3)) (ht : (pc : Int) + off = (tgt : Int)) (hc : ¬ x ≤ 0) (k2 : CS p l e R s m args below meth c D A nL cells slots Q ws (pc + 3) lv st) : CS p l e R s m args below meth c D A nL cells slots Q ws pc lv (.int x :: st) := fun H locs ls hP hD hS hl => lv_if_le X.1 X.2.1 hd ht (fun h => absurd hc (by first | exact h | exact not_not_intro h)) (fun _ => k2 H locs ls hP hD hS hl)
theorem x_icmp_le (X : CX p m c cc nL s args own) {x y : Int32} {off : Int} {tgt : Nat} {α : Type} {FA FB out : α} (hd : decode cc pc = .ok (.if_icmp .le off, 3)) (ht : (pc : Int) + off = (tgt : Int)) (hf : (if x ≤ y then FA else FB) = out) (k1 : FA = out → CS p l e R s m args below meth c D A nL cells slots Q ws tgt lv st) (k2 : FB = out → CS p l e R s m args below meth c D A nL cells slots Q ws (pc + 3) lv st) : CS p l e R s m args below meth c D A nL cells slots Q ws pc lv (.int y :: .int x :: st) := fun H locs ls hP hD hS hl => lv_icmp_le X.1 X.2.1 hd ht (fun h => k1 ((if_pos h).symm.trans hf) H locs ls hP hD hS hl) (fun h => k2 ((if_neg h).symm.trans hf) H locs ls hP hD hS hl)
theorem x_icmp_le_t (X : CX p m c cc nL s args own) {x y : Int32} {off : Int} {tgt : Nat} (hd : decode cc pc = .ok (.if_icmp .le off, 3)) (ht : (pc : Int) + off = (tgt : Int)) (hc : x ≤ y) (k1 : CS p l e R s m args below meth c D A nL cells slots Q ws tgt lv st) : CS p l e R s m args below meth c D A nL cells slots Q ws pc lv (.int y :: .int x :: st) := fun H locs ls hP hD hS hl => lv_icmp_le X.1 X.2.1 hd ht (fun _ => k1 H locs ls hP hD hS hl) (fun h => absurd hc (by first | exact h | exact not_not_intro h))
theorem x_icmp_le_f (X : CX p m c cc nL s args own) {x y : Int32} {off : Int} {tgt : Nat} (hd : decode cc pc = .ok (.if_icmp .le off, 3)) (ht : (pc : Int) + off = (tgt : Int)) (hc : ¬ x ≤ y) (k2 : CS p l e R s m args below meth c D A nL cells slots Q ws (pc + 3) lv st) : CS p l e R s m args below meth c D A nL cells slots Q ws pc lv (.int y :: .int x :: st) := fun H locs ls hP hD hS hl => lv_icmp_le X.1 X.2.1 hd ht (fun h => absurd hc (by first | exact h | exact not_not_intro h)) (fun _ => k2 H locs ls hP hD hS hl)
theorem x_lcmp (X : CX p m c cc nL s args own) {x y : Int64} (hd : decode cc pc = .ok (.lcmp, 1)) (kk : CS p l e R s m args below meth c D A nL cells slots Q ws (pc + 1) lv (.int (lg_cmp x y) :: st)) : CS p l e R s m args below meth c D A nL cells slots Q ws pc lv (.long y :: .long x :: st) := fun H locs ls hP hD hS hl => W.lcmp X.1 X.2.1 hd (kk H locs ls hP hD hS hl)
theorem x_dcmp (X : CX p m c cc nL s args own) {x y : UInt64} {op : CmpOp} (hd : decode cc pc = .ok (.dcmp op, 1)) (kk : CS p l e R s m args below meth c D A nL cells slots Q ws (pc + 1) lv (.int (Op.cmpValue (FP.dcmp x y) op) :: st)) : CS p l e R s m args below meth c D A nL cells slots Q ws pc lv (.double y :: .double x :: st) := fun H locs ls hP hD hS hl => lv_dcmp X.1 X.2.1 hd (kk H locs ls hP hD hS hl)
theorem x_ldc (X : CX p m c cc nL s args own) {index : Nat} {v : Int32} (hw : Cond.constant own index v ∈ WG) (hd : decode cc pc = .ok (.ldc index, 2)) (kk : CS p l e R s m args below meth c D A nL cells slots Q ws (pc + 2) lv (.int v :: st)) : CS p l e R s m args below meth c D A nL cells slots Q ws pc lv st := fun H locs ls hP hD hS hl => lv_ldc X.1 X.2.1 X.2.2.2.1 (X.2.2.2.2 _ hw) hd (kk H locs ls hP hD hS hl)
theorem x_ldcw (X : CX p m c cc nL s args own) {index : Nat} {v : Int32} (hw : Cond.constant own index v ∈ WG) (hd : decode cc pc = .ok (.ldc_w index, 3)) (kk : CS p l e R s m args below meth c D A nL cells slots Q ws (pc + 3) lv (.int v :: st)) : CS p l e R s m args below meth c D A nL cells slots Q ws pc lv st := fun H locs ls hP hD hS hl => lv_ldcw X.1 X.2.1 X.2.2.2.1 (X.2.2.2.2 _ hw) hd (kk H locs ls hP hD hS hl)
theorem x_ldc2 (X : CX p m c cc nL s args own) {index : Nat} {v : Int64} (hw : Cond.constantLong own index v ∈ WG) (hd : decode cc pc = .ok (.ldc2_w index, 3)) (kk : CS p l e R s m args below meth c D A nL cells slots Q ws (pc + 3) lv (.long v :: st)) : CS p l e R s m args below meth c D A nL cells slots Q ws pc lv st := fun H locs ls hP hD hS hl => lv_ldc2 X.1 X.2.1 X.2.2.2.1 (X.2.2.2.2 _ hw) hd (kk H locs ls hP hD hS hl)
theorem x_nmI {x : Int32} {α : Type} {kf : Int32 → α} {out : α} (hf : nm x kf = out) (kk : ∀ y, kf y = out → CS p l e R s m args below meth c D A nL cells slots Q ws pc lv (.int y :: st)) : CS p l e R s m args below meth c D A nL cells slots Q ws pc lv (.int x :: st) := kk x hf
theorem x_nmL {x : Int64} {α : Type} {kf : Int64 → α} {out : α} (hf : nm x kf = out) (kk : ∀ y, kf y = out → CS p l e R s m args below meth c D A nL cells slots Q ws pc lv (.long y :: st)) : CS p l e R s m args below meth c D A nL cells slots Q ws pc lv (.long x :: st) := kk x hf
theorem x_nmD {x : UInt64} {α : Type} {kf : UInt64 → α} {out : α} (hf : nm x kf = out) (kk : ∀ y, kf y = out → CS p l e R s m args below meth c D A nL cells slots Q ws pc lv (.double y :: st)) : CS p l e R s m args below meth c D A nL cells slots Q ws pc lv (.double x :: st) := kk x hf
theorem x_nmW {τ : Type} {pic : τ → va_W} {u : τ} {α : Type} {kf : τ → α} {out : α} (hf : nm u kf = out) (kk : ∀ u, kf u = out → CS p l e R s m args below meth c D A nL cells slots Q (pic u) pc lv st) : CS p l e R s m args below meth c D A nL cells slots Q (pic u) pc lv st := kk u hf
theorem x_lpick {lv2 : List (Nat × Value)} (ks : List Nat) (h : lv_pick lv ks = lv2) (kk : CS p l e R s m args below meth c D A nL cells slots Q ws pc lv2 st) : CS p l e R s m args below meth c D A nL cells slots Q ws pc lv st := fun H locs ls hP hD hS hl => kk H locs ls hP hD hS (lv_sub hl ks h)
theorem x_get (X : CX p m c cc nL s args own) (hK : va_K D vwCl (tyS kA) s) {ref C : String} {T : u_T} {N ci index a : Nat} (hin : ∀ w ∈ u_ws C T N, w ∈ WG) (q0 : Nat) {fs : List Value} (he : ws[q0]? = some (a, .inr (ci, fs))) (hc : vwCl[ci]? = some (C, T, N)) (k : Nat) (hk : k < N) (hw : Cond.fieldLink own index ref (T k).2.1 (T k).2.2.1 ∈ WG) (hsame : ref = (T k).1) {v : Value} (hv : fs[k]? = some v) (hd : decode cc pc = .ok (.getfield index, 3)) (kk : CS p l e R s m args below meth c D A nL cells slots Q ws (pc + 3) lv (v :: st)) : CS p l e R s m args below meth c D A nL cells slots Q ws pc lv (.ref a :: st) := fun H locs ls hP hD hS hl => va_get X.1 X.2.1 X.2.2.2.2 hin X.2.2.2.1 hK hP q0 he hc k hk (X.2.2.2.2 _ hw) (fun x h => by rw [hsame]; exact h) hv hd (kk H locs ls hP hD hS hl)
theorem x_put (X : CX p m c cc nL s args own) (hK : va_K D vwCl (tyS kA) s) {ref C : String} {T : u_T} {N ci index a : Nat} (hin : ∀ w ∈ u_ws C T N, w ∈ WG) (ty0 : Nat → FieldType) (hty : ∀ k, k < N → parseFieldDescriptor (T k).2.2.1 = some (ty0 k)) (hnm : ∀ a, a < N → ∀ b, b < N → a ≠ b → (T a).2.1 ≠ (T b).2.1) (q0 : Nat) {fs : List Value} (he : ws[q0]? = some (a, .inr (ci, fs))) (hc : vwCl[ci]? = some (C, T, N)) (k : Nat) (hk : k < N) (hw : Cond.fieldLink own index ref (T k).2.1 (T k).2.2.1 ∈ WG) (hsame : ref = (T k).1) (hfin : (T k).2.2.2 = false) {ty : FieldType} {v : Value} (hdd : parseFieldDescriptor (T k).2.2.1 = some ty) (hn : narrow ty v = v) (hfit : fits ty v = true) (hlen : k < fs.length) (hd : decode cc pc = .ok (.putfield index, 3)) (ws2 : va_W) (hws : ws.set q0 (a, .inr (ci, fs.set k v)) = ws2) (kk : CS p l e R s m args below meth c D A nL cells slots Q ws2 (pc + 3) lv st) : CS p l e R s m args below meth c D A nL cells slots Q ws pc lv (v :: .ref a :: st) := fun H locs ls hP hD hS hl => va_put X.1 X.2.1 X.2.2.2.2 hin ty0 hty hnm X.2.2.2.1 hK hP hD hS q0 he hc k hk (X.2.2.2.2 _ hw) (fun x h => by rw [hsame]; exact h) hfin hdd hn hfit hlen hd (fun H1 locs1 hP hD hS => by rw [hws] at hP hD; exact kk H1 locs1 ls hP hD hS hl)
theorem x_putF (X : CX p m c cc nL s args own) (hK : va_K D vwCl (tyS kA) s) (hini : meth.name = "<init>") {ref C : String} {T : u_T} {N ci index a : Nat} (hin : ∀ w ∈ u_ws C T N, w ∈ WG) (ty0 : Nat → FieldType) (hty : ∀ k, k < N → parseFieldDescriptor (T k).2.2.1 = some (ty0 k)) (hnm : ∀ a, a < N → ∀ b, b < N → a ≠ b → (T a).2.1 ≠ (T b).2.1) (q0 : Nat) {fs : List Value} (he : ws[q0]? = some (a, .inr (ci, fs))) (hc : vwCl[ci]? = some (C, T, N)) (k : Nat) (hk : k < N) (hw : Cond.fieldLink own index ref (T k).2.1 (T k).2.2.1 ∈ WG) (hsame : ref = (T k).1) (hfin : (T k).2.2.2 = true) (hdecl : (T k).1 = own) {ty : FieldType} {v : Value} (hdd : parseFieldDescriptor (T k).2.2.1 = some ty) (hn : narrow ty v = v) (hfit : fits ty v = true) (hlen : k < fs.length) (hd : decode cc pc = .ok (.putfield index, 3)) (ws2 : va_W) (hws : ws.set q0 (a, .inr (ci, fs.set k v)) = ws2) (kk : CS p l e R s m args below meth c D A nL cells slots Q ws2 (pc + 3) lv st) : CS p l e R s m args below meth c D A nL cells slots Q ws pc lv (v :: .ref a :: st) := fun H locs ls hP hD hS hl => va_putF X.1 X.2.1 X.2.2.2.2 hin ty0 hty hnm X.2.2.2.1 hK hP hD hS q0 he hc k hk (X.2.2.2.2 _ hw) (fun x h => by rw [hsame]; exact h) hfin hini hdecl hdd hn hfit hlen hd (fun H1 locs1 hP hD hS => by rw [hws] at hP hD; exact kk H1 locs1 ls hP hD hS hl)
theorem x_iald (X : CX p m c cc nL s args own) (hK : va_K D vwCl (tyS kA) s) (q0 : Nat) {a n : Nat} {f : Nat → Int32} (he : ws[q0]? = some (a, .inl (kA 0, n, .inl f))) {i : Int32} {α : Type} {kf : Int32 → Option α} {out : α} (hd : decode cc pc = .ok (.iaload, 1)) (hf : ck (vp_in i n) (nm (f i.toNatClampNeg) kf) = some out) (kk : ∀ x, kf x = some out → CS p l e R s m args below meth c D A nL cells slots Q ws (pc + 1) lv (.int x :: st)) : CS p l e R s m args below meth c D A nL cells slots Q ws pc lv (.int i :: .ref a :: st) := fun H locs ls hP hD hS hl => va_iald X.1 X.2.1 hK hP q0 0 he rfl (ck_some hf).1 hd (kk _ (ck_some hf).2 H locs ls hP hD hS hl)
theorem x_zald (X : CX p m c cc nL s args own) (hK : va_K D vwCl (tyS kA) s) (q0 : Nat) {a n : Nat} {f : Nat → Int32} (he : ws[q0]? = some (a, .inl (kA 2, n, .inl f))) {i : Int32} {α : Type} {kf : Int32 → Option α} {out : α} (hd : decode cc pc = .ok (.baload, 1)) (hf : ck (vp_in i n) (nm (f i.toNatClampNeg) kf) = some out) (kk : ∀ x, kf x = some out → CS p l e R s m args below meth c D A nL cells slots Q ws (pc + 1) lv (.int x :: st)) : CS p l e R s m args below meth c D A nL cells slots Q ws pc lv (.int i :: .ref a :: st) := fun H locs ls hP hD hS hl => va_zald X.1 X.2.1 hK hP q0 2 he rfl (ck_some hf).1 hd (kk _ (ck_some hf).2 H locs ls hP hD hS hl)
theorem x_lald (X : CX p m c cc nL s args own) (hK : va_K D vwCl (tyS kA) s) (q0 : Nat) {a n : Nat} {f : Nat → Int64} (he : ws[q0]? = some (a, .inl (kA 1, n, .inr (.inl f)))) {i : Int32} {α : Type} {kf : Int64 → Option α} {out : α} (hd : decode cc pc = .ok (.laload, 1)) (hf : ck (vp_in i n) (nm (f i.toNatClampNeg) kf) = some out) (kk : ∀ x, kf x = some out → CS p l e R s m args below meth c D A nL cells slots Q ws (pc + 1) lv (.long x :: st)) : CS p l e R s m args below meth c D A nL cells slots Q ws pc lv (.int i :: .ref a :: st) := fun H locs ls hP hD hS hl => va_lald X.1 X.2.1 hK hP q0 1 he rfl (ck_some hf).1 hd (kk _ (ck_some hf).2 H locs ls hP hD hS hl)
theorem x_dald (X : CX p m c cc nL s args own) (hK : va_K D vwCl (tyS kA) s) (q0 : Nat) {a n : Nat} {f : Nat → UInt64} (he : ws[q0]? = some (a, .inl (kA 3, n, .inr (.inr (.inr (.inl f)))))) {i : Int32} {α : Type} {kf : UInt64 → Option α} {out : α} (hd : decode cc pc = .ok (.daload, 1)) (hf : ck (vp_in i n) (nm (f i.toNatClampNeg) kf) = some out) (kk : ∀ x, kf x = some out → CS p l e R s m args below meth c D A nL cells slots Q ws (pc + 1) lv (.double x :: st)) : CS p l e R s m args below meth c D A nL cells slots Q ws pc lv (.int i :: .ref a :: st) := fun H locs ls hP hD hS hl => va_dald X.1 X.2.1 hK hP q0 3 he rfl (ck_some hf).1 hd (kk _ (ck_some hf).2 H locs ls hP hD hS hl)
theorem x_iast (X : CX p m c cc nL s args own) (hK : va_K D vwCl (tyS kA) s) (q0 : Nat) {a n : Nat} {f : Nat → Int32} (he : ws[q0]? = some (a, .inl (kA 0, n, .inl (f)))) {i : Int32} {x : Int32} {α τ : Type} {u : τ} {kf : τ → Option α} {out : α} (hd : decode cc pc = .ok (.iastore, 1)) (hf : ck (vp_in i n) (nm u kf) = some out) (ws2 : τ → va_W) (hws : ws.set q0 (a, .inl (kA 0, n, .inl (upd f i.toNatClampNeg x))) = ws2 u) (kk : ∀ u, kf u = some out → CS p l e R s m args below meth c D A nL cells slots Q (ws2 u) (pc + 1) lv st) : CS p l e R s m args below meth c D A nL cells slots Q ws pc lv (.int x :: .int i :: .ref a :: st) := fun H locs ls hP hD hS hl => va_iast X.1 X.2.1 hK hP hD hS q0 0 he rfl (ck_some hf).1 hd (fun H1 locs1 hP hD hS => by rw [hws] at hP hD; exact kk u (ck_some hf).2 H1 locs1 ls hP hD hS hl)
theorem x_zast (X : CX p m c cc nL s args own) (hK : va_K D vwCl (tyS kA) s) (q0 : Nat) {a n : Nat} {f : Nat → Int32} (he : ws[q0]? = some (a, .inl (kA 2, n, .inl (f)))) {i : Int32} {x : Int32} {α τ : Type} {u : τ} {kf : τ → Option α} {out : α} (hd : decode cc pc = .ok (.bastore, 1)) (hf : ck (vp_in i n) (nm u kf) = some out) (ws2 : τ → va_W) (hws : ws.set q0 (a, .inl (kA 2, n, .inl (upd f i.toNatClampNeg (vp_nar .boolean x)))) = ws2 u) (kk : ∀ u, kf u = some out → CS p l e R s m args below meth c D A nL cells slots Q (ws2 u) (pc + 1) lv st) : CS p l e R s m args below meth c D A nL cells slots Q ws pc lv (.int x :: .int i :: .ref a :: st) := fun H locs ls hP hD hS hl => va_zast X.1 X.2.1 hK hP hD hS q0 2 he rfl (ck_some hf).1 hd (fun H1 locs1 hP hD hS => by rw [hws] at hP hD; exact kk u (ck_some hf).2 H1 locs1 ls hP hD hS hl)
theorem x_last (X : CX p m c cc nL s args own) (hK : va_K D vwCl (tyS kA) s) (q0 : Nat) {a n : Nat} {f : Nat → Int64} (he : ws[q0]? = some (a, .inl (kA 1, n, .inr (.inl (f))))) {i : Int32} {x : Int64} {α τ : Type} {u : τ} {kf : τ → Option α} {out : α} (hd : decode cc pc = .ok (.lastore, 1)) (hf : ck (vp_in i n) (nm u kf) = some out) (ws2 : τ → va_W) (hws : ws.set q0 (a, .inl (kA 1, n, .inr (.inl (vp_updL f i.toNatClampNeg x)))) = ws2 u) (kk : ∀ u, kf u = some out → CS p l e R s m args below meth c D A nL cells slots Q (ws2 u) (pc + 1) lv st) : CS p l e R s m args below meth c D A nL cells slots Q ws pc lv (.long x :: .int i :: .ref a :: st) := fun H locs ls hP hD hS hl => va_last X.1 X.2.1 hK hP hD hS q0 1 he rfl (ck_some hf).1 hd (fun H1 locs1 hP hD hS => by rw [hws] at hP hD; exact kk u (ck_some hf).2 H1 locs1 ls hP hD hS hl)
theorem x_dast (X : CX p m c cc nL s args own) (hK : va_K D vwCl (tyS kA) s) (q0 : Nat) {a n : Nat} {f : Nat → UInt64} (he : ws[q0]? = some (a, .inl (kA 3, n, .inr (.inr (.inr (.inl (f))))))) {i : Int32} {x : UInt64} {α τ : Type} {u : τ} {kf : τ → Option α} {out : α} (hd : decode cc pc = .ok (.dastore, 1)) (hf : ck (vp_in i n) (nm u kf) = some out) (ws2 : τ → va_W) (hws : ws.set q0 (a, .inl (kA 3, n, .inr (.inr (.inr (.inl (vf_upd f i.toNatClampNeg x)))))) = ws2 u) (kk : ∀ u, kf u = some out → CS p l e R s m args below meth c D A nL cells slots Q (ws2 u) (pc + 1) lv st) : CS p l e R s m args below meth c D A nL cells slots Q ws pc lv (.double x :: .int i :: .ref a :: st) := fun H locs ls hP hD hS hl => va_dast X.1 X.2.1 hK hP hD hS q0 3 he rfl (ck_some hf).1 hd (fun H1 locs1 hP hD hS => by rw [hws] at hP hD; exact kk u (ck_some hf).2 H1 locs1 ls hP hD hS hl)
theorem x_alen (X : CX p m c cc nL s args own) (hK : va_K D vwCl (tyS kA) s) (q0 t0 : Nat) {a : Nat} {cA : ClassId} {y : vp_A} (he : ws[q0]? = some (a, .inl (cA, y))) {ty : FieldType} (ht : (tyS kA)[t0]? = some (cA, ty)) {v : Int32} (hv : Int32.ofNat y.1 = v) (hd : decode cc pc = .ok (.arraylength, 1)) (kk : CS p l e R s m args below meth c D A nL cells slots Q ws (pc + 1) lv (.int v :: st)) : CS p l e R s m args below meth c D A nL cells slots Q ws pc lv (.ref a :: st) := fun H locs ls hP hD hS hl => va_alen X.1 X.2.1 hK hP q0 t0 he ht hv hd (kk H locs ls hP hD hS hl)
theorem x_mmin (X : CX p m c cc nL s args own) {index : Nat} (h1 : Cond.methodLink own index Lib.Math.min.name ∈ WG) (h2 : Cond.static Lib.Math.min.name ∈ WG) (h3 : Cond.initialized "java/lang/Math" ∈ WG) (h4 : Cond.code Lib.Math.min.name Lib.Math.min.code 2 (some .int) ∈ WG) (hfr : 1 ≤ R.frames) (hlo : (st.map fun v => v.category).sum + 13 ≤ R.locals) (hc : cells ≤ R.cells) (hs : slots ≤ R.slots) {x y : Int32} (hd : decode cc pc = .ok (.invokestatic index, 3)) (kk : CS p l e R s m args below meth c D A nL cells slots Q ws (pc + 3) lv (.int (if y < x then y else x) :: st)) : CS p l e R s m args below meth c D A nL cells slots Q ws pc lv (.int y :: .int x :: st) := fun H locs ls hP hD hS hl => va_mmin X.1 X.2.1 (X.2.2.1.trans hl.1.symm) X.2.2.2.1 (X.2.2.2.2 _ h1) (X.2.2.2.2 _ h2) (X.2.2.2.2 _ h3) (X.2.2.2.2 _ h4) hfr hlo hc hs hd (kk H locs ls hP hD hS hl)
theorem x_mminL (X : CX p m c cc nL s args own) {index : Nat} (h1 : Cond.methodLink own index Lib.MathLoose.min_long.x ∈ WG) (h2 : Cond.static Lib.MathLoose.min_long.x ∈ WG) (h3 : Cond.initialized "java/lang/Math" ∈ WG) (h4 : Cond.code Lib.MathLoose.min_long.x Lib.MathLoose.min_long.code 4 (some .long) ∈ WG) (hfr : 1 ≤ R.frames) (hlo : (st.map fun v => v.category).sum + 15 ≤ R.locals) (hc : cells ≤ R.cells) (hs : slots ≤ R.slots) {x y : Int64} (hd : decode cc pc = .ok (.invokestatic index, 3)) (kk : CS p l e R s m args below meth c D A nL cells slots Q ws (pc + 3) lv (.long (if y < x then y else x) :: st)) : CS p l e R s m args below meth c D A nL cells slots Q ws pc lv (.long y :: .long x :: st) := fun H locs ls hP hD hS hl => va_mmin_long X.1 X.2.1 (X.2.2.1.trans hl.1.symm) X.2.2.2.1 (X.2.2.2.2 _ h1) (X.2.2.2.2 _ h2) (X.2.2.2.2 _ h3) (X.2.2.2.2 _ h4) hfr hlo hc hs hd (kk H locs ls hP hD hS hl)
theorem x_copyi (X : CX p m c cc nL s args own) (hK : va_K D vwCl (tyS kA) s) {index : Nat} (h1 : Cond.methodLink own index arraycopyName ∈ WG) (h2 : Cond.native arraycopyName ∈ WG) (h3 : Cond.static arraycopyName ∈ WG) (h4 : Cond.initialized "java/lang/System" ∈ WG) (q0 q1 : Nat) {a0 a n0 n1 : Nat} {f g : Nat → Int32} (he0 : ws[q0]? = some (a0, .inl (kA 0, n0, .inl f))) (he1 : ws[q1]? = some (a, .inl (kA 0, n1, .inl g))) {sp dp n : Int32} {α τ : Type} {u : τ} {kf : τ → Option α} {out : α} (hf : ck (¬ sp < 0 ∧ ¬ dp < 0 ∧ ¬ n < 0 ∧ sp.toNatClampNeg + n.toNatClampNeg ≤ n0 ∧ dp.toNatClampNeg + n.toNatClampNeg ≤ n1) (nm u kf) = some out) (hfr : 1 ≤ R.frames) (hlo : (st.map fun v => v.category).sum + (nativeFrameWords "java/lang/System" "arraycopy" 5 + 11) ≤ R.locals) (hd : decode cc pc = .ok (.invokestatic index, 3)) (ws2 : τ → va_W) (hws : ws.set q1 (a, .inl (kA 0, n1, .inl (va_cpy f g sp.toNatClampNeg dp.toNatClampNeg n.toNatClampNeg))) = ws2 u) (kk : ∀ u, kf u = some out → CS p l e R s m args below meth c D A nL cells slots Q (ws2 u) (pc + 3) lv st) : CS p l e R s m args below meth c D A nL cells slots Q ws pc lv (.int n :: .int dp :: .ref a :: .int sp :: .ref a0 :: st) := fun H locs ls hP hD hS hl => va_copyi X.1 X.2.1 (X.2.2.1.trans hl.1.symm) X.2.2.2.1 (X.2.2.2.2 _ h1) (X.2.2.2.2 _ h2) (X.2.2.2.2 _ h3) (X.2.2.2.2 _ h4) hK hP hD hS q0 q1 0 0 he0 he1 rfl rfl rfl (ck_some hf).1.1 (ck_some hf).1.2.1 (ck_some hf).1.2.2.1 (ck_some hf).1.2.2.2.1 (ck_some hf).1.2.2.2.2 (fun _ _ => rfl) hfr hlo hd (fun H1 locs1 hP hD hS => by rw [hws] at hP hD; exact kk u (ck_some hf).2 H1 locs1 ls hP hD hS hl)
end FR

def STRL : List (String × Nat × String) := [("RoadOracle", 138, "there are no roads"), ("RoadOracle", 267, "there is no hierarchy"), ("RoadOracle", 251, "no such junction"), ("RoadOracle", 58, "no more junctions"), ("RoadOracle", 69, "a road ends at another junction"), ("RoadOracle", 265, "a weight is 1 to 10000"), ("RoadOracle", 78, "no more roads"), ("RoadOracle", 253, "no such road"), ("RoadOracle", 261, "the second road does not follow the first"), ("RoadOracle", 106, "a setting is -2 to 1000"), ("RoadOracle", 118, "a U-turn penalty is -1 to 1000"), ("RoadOracle", 161, "there is no such arc")]
/-! the words that are no good words: nest links, casts, declarations; String constants; two statics -/
def NWk : Cond → Bool
  | .methodLinkNest .. => true
  | .castable .. => true
  | .declares _ => true
  | _ => false
def NWL : List Cond := lw_tbl.filter NWk
theorem NWL_in (i : Nat) {w : Cond} (h : lw_tbl[i]? = some w) (g : NWk w = true) : w ∈ NWL := List.mem_filter.mpr ⟨List.mem_of_getElem? h, g⟩
theorem NW_warm {w : Cond} (hw : NWk w = true) {s U : State} (hW : s.WarmedH U.vm) (h : va_Nw w s) : va_Nw w U := by
  cases w <;> first | exact va_Nw.warmM hW h | exact va_Nw.warmC hW h | exact va_Nw.warmD hW h | (exfalso; cases hw)
theorem NW_same {w : Cond} (hw : NWk w = true) {u U : State} (e : u.vm = U.vm) (h : va_Nw w u) : va_Nw w U := by
  refine va_Nw.same ?_ e h
  cases w <;> first | rfl | (exfalso; cases hw)
def EV (D : va_G) (kA : Nat → ClassId) (U : State) : Prop := va_K D vwCl (tyS kA) U ∧ (∀ w ∈ NWL, va_Nw w U) ∧ ∀ q ∈ STRL, ∃ a, vk_R q.1 q.2.1 q.2.2 a U
theorem EV.warm {D : va_G} {kA : Nat → ClassId} {s U : State} (hW : s.WarmedH U.vm) (h : EV D kA s) : EV D kA U :=
  ⟨va_K.moved hW.alike h.1, fun w hw => NW_warm (List.mem_filter.mp hw).2 hW (h.2.1 w hw), fun q hq => (h.2.2 q hq).imp (fun a ha => vk_R.warm hW ha)⟩
theorem EV.same {D : va_G} {kA : Nat → ClassId} {u U : State} (e : u.vm = U.vm) (ha : u.vm.Alike U.vm) (h : EV D kA u) : EV D kA U :=
  ⟨va_K.moved ha h.1, fun w hw => NW_same (List.mem_filter.mp hw).2 e (h.2.1 w hw), fun q hq => (h.2.2 q hq).imp (fun a hx => vk_R.same e.symm hx)⟩
def ZZ (A : Nat → Prop) (U : State) (H : Heap) : Prop := vx_Zq Bundle.tN "UNASSIGNED_STACK" Bundle.steD A U H ∧ vx_Zq Bundle.tN "SUPPRESSED_SENTINEL" Bundle.listD A U H
theorem ZZ.moved {A : Nat → Prop} {u U : State} {H : Heap} (hvm : u.vm.Alike U.vm) (h : ZZ A u H) : ZZ A U H := ⟨vx_Zq.moved hvm h.1, vx_Zq.moved hvm h.2⟩
theorem ZZ.kept {A : Nat → Prop} {U : State} {H H1 : Heap} (h : ZZ A U H) (hq : ∀ a : Nat, a < H.size → ¬ A a → H1[a]? = H[a]?) : ZZ A U H1 := ⟨h.1.kept hq, h.2.kept hq⟩
theorem ZZ.narrow {A B : Nat → Prop} {U : State} {H : Heap} (h : ZZ A U H) (hAB : ∀ q, B q → A q) : ZZ B U H := ⟨h.1.narrow hAB, h.2.narrow hAB⟩
def PreG (D : va_G) (kA : Nat → ClassId) (ws : va_W) (sz : Nat) : State → Prop := fun U => U.heap.size = sz ∧ va_P D vwCl ws U.heap ∧ va_D (fun _ => True) ws ∧ EV D kA U ∧ ZZ (va_A ws sz) U U.heap
def PosG (D : va_G) (A : Nat → Prop) (ws : va_W) (t : State) : Prop := va_P D vwCl ws t.heap ∧ va_D A ws
abbrev EX (l : Launch) (s : State) (D : va_G) (kA : Nat → ClassId) (A : Nat → Prop) : Prop := EV D kA s ∧ ZZ A s s.heap ∧ (∀ q : Nat, s.heap.size ≤ q → A q) ∧ l.stackTraces = false
theorem pre_blind {D : va_G} {kA : Nat → ClassId} {ws : va_W} {sz : Nat} {As : List Value} : FrameBlind (va_Pc As (PreG D kA ws sz)) := fun a U g mk h =>
  ⟨h.1, h.2.1, h.2.2.1, h.2.2.2.1, EV.same (u := U) (U := U.calling g mk a) rfl (Vm.Alike.refl U.vm) h.2.2.2.2.1, ZZ.moved (u := U) (U := U.calling g mk a) (Vm.Alike.refl U.vm) h.2.2.2.2.2⟩
theorem fr_self {A : Nat → Prop} {ws : va_W} {H0 H : Heap} {locs : List Loc} (hD : va_D A ws) (hS : va_S A H0 H locs) (hA : ∀ q, H0.size ≤ q → A q) : ∀ q, va_A ws H.size q → A q := by
  intro q h
  rcases h with ⟨k, e, h⟩ | h
  · exact hD.2 k (q, e) h
  · exact hA q (Nat.le_trans hS.1 h)
theorem pre_at {l : Launch} {s : State} {D : va_G} {kA : Nat → ClassId} {A : Nat → Prop} {ws : va_W} {H : Heap} {locs : List Loc} {As : List Value} (E : EX l s D kA A) (hP : va_P D vwCl ws H) (hD : va_D A ws) (hS : va_S A s.heap H locs) : ∀ U : State, U.heap = H → s.WarmedH U.vm → va_Pc As (PreG D kA ws H.size) As.toArray U := by
  intro U hU hW
  refine ⟨rfl, by rw [hU], by rw [hU]; exact hP, hD.weaken (fun _ _ _ _ => trivial), E.1.warm hW, ?_⟩
  rw [hU]
  exact ((E.2.1.kept hS.2.1).narrow (fr_self hD hS E.2.2.1)).moved hW.alike
theorem pre_seg {l : Launch} {s : State} {D : va_G} {kA : Nat → ClassId} {A : Nat → Prop} {w1 w2 w3 : va_W} {H : Heap} {locs : List Loc} (hP : va_P D vwCl (w1 ++ (w2 ++ w3)) H) (hD : va_D A (w1 ++ (w2 ++ w3))) : va_P D vwCl w2 H ∧ va_D A w2 := by
  have key : ∀ (k : Nat) (q : Nat × va_E), w2[k]? = some q → (w1 ++ (w2 ++ w3))[w1.length + k]? = some q := by
    intro k q h
    have hl := (List.getElem?_eq_some_iff.mp h).1
    rw [List.getElem?_append_right (by omega), Nat.add_sub_cancel_left, List.getElem?_append_left hl]
    exact h
  exact ⟨fun k q h => hP _ q (key k q h), fun i j p q hi hj e => by have := hD.1 _ _ p q (key i p hi) (key j q hj) e; omega, fun k q h => hD.2 _ q (key k q h)⟩
section FC
variable {p : Program} {l : Launch} {e : Env} {R : Room} {s : State} {m : MethodId} {args : Array Value} {below : List Frame} {meth : Method} {c : Code} {D : va_G} {kA : Nat → ClassId} {A : Nat → Prop} {nL cells slots : Nat} {Q : State → Prop} {cc : ByteArray} {own : String} {ws : va_W} {pc : Nat} {lv : List (Nat × Value)} {st : List Value}
theorem x_callS_i (X : CX p m c cc nL s args own) {y : MethodName} {bytes : ByteArray} {maxL n index : Nat} {rm : Room} {As rest : List Value} {ret : Option FieldType} {v : Int32} (hG : GoodIn WG (va_wsS own index y (wsY y bytes maxL ret))) (hM : Met l y (wsY y bytes maxL ret) rm (va_Pc As (fun _ => True)) (va_Qi (fun (r : Int32) (_ : Unit) => r = v) (fun _ _ => True) (fun _ => False)) 0 0 (fun _ => False)) (hrc : rm.cells = 0) (hrs : rm.slots = 0) (hy : y.cls ≠ "java/lang/invoke/MethodHandle" ∧ y.cls ≠ "java/lang/invoke/VarHandle" ∧ (parseMethodDescriptor y.desc).map (fun d => d.parameters.length) = some n) (hR : rm.frames + 1 ≤ R.frames ∧ 8 + (maxL + 11) + rm.locals ≤ R.locals) (hn : As.length = n) (hst : st = As.reverse ++ rest) (hcat : (rest.map fun v => v.category).sum ≤ 8) (hd : decode cc pc = .ok (.invokestatic index, 3)) (hcs : cells ≤ R.cells ∧ slots ≤ R.slots) (kk : CS p l e R s m args below meth c D A nL cells slots Q ws (pc + 3) lv (.int v :: rest)) : CS p l e R s m args below meth c D A nL cells slots Q ws pc lv st := by
  intro H locs ls hP hD hS hl
  refine va_calli (va_runS (As := As) (rest := rest) X hM (va_cwS n X.2.2.2.2 hG rfl hrc hrs hy hR) ⟨fun _ _ _ _ q => q, fun _ _ _ => ⟨rfl, trivial⟩⟩ rfl hn hl.1 hst (lv_room hcat) hd hcs) hS (fun q _ h => h.elim) (fun q h => h.elim) (fun r u t H1 locs1 ht hvm hw hB hz1 hk1 hS1 => ?_)
  have hP1 : va_P D vwCl ws H1 := hP.kept (fun k q hq => hk1 q.1 (hP k q hq).lt (fun h => h.elim))
  subst hw; exact kk H1 locs1 ls hP1 hD hS1 hl
theorem x_callSN_i (X : CX p m c cc nL s args own) {y : MethodName} {bytes : ByteArray} {maxL n index : Nat} {rm : Room} {As rest : List Value} {ret : Option FieldType} {v : Int32} {host : String} (hG : GoodIn WG (wsY y bytes maxL ret)) (hst1 : Cond.static y ∈ WG) (hini : Cond.initialized y.cls ∈ WG) (hnw : va_Nw (.methodLinkNest own index y host) s) (hM : Met l y (wsY y bytes maxL ret) rm (va_Pc As (fun _ => True)) (va_Qi (fun (r : Int32) (_ : Unit) => r = v) (fun _ _ => True) (fun _ => False)) 0 0 (fun _ => False)) (hrc : rm.cells = 0) (hrs : rm.slots = 0) (hy : y.cls ≠ "java/lang/invoke/MethodHandle" ∧ y.cls ≠ "java/lang/invoke/VarHandle" ∧ (parseMethodDescriptor y.desc).map (fun d => d.parameters.length) = some n) (hR : rm.frames + 1 ≤ R.frames ∧ 8 + (maxL + 11) + rm.locals ≤ R.locals) (hn : As.length = n) (hst : st = As.reverse ++ rest) (hcat : (rest.map fun v => v.category).sum ≤ 8) (hd : decode cc pc = .ok (.invokestatic index, 3)) (hcs : cells ≤ R.cells ∧ slots ≤ R.slots) (kk : CS p l e R s m args below meth c D A nL cells slots Q ws (pc + 3) lv (.int v :: rest)) : CS p l e R s m args below meth c D A nL cells slots Q ws pc lv st := by
  intro H locs ls hP hD hS hl
  refine va_calli (va_runSN (As := As) (rest := rest) X hM ⟨va_cnB n X.2.2.2.2 hG rfl hrc hrs hnw (X.2.2.2.2 _ hini) hy hR, X.2.2.2.2 _ hst1, trivial⟩ ⟨fun _ _ _ _ q => q, fun _ _ _ => ⟨rfl, trivial⟩⟩ rfl hn hl.1 hst (lv_room hcat) hd hcs) hS (fun q _ h => h.elim) (fun q h => h.elim) (fun r u t H1 locs1 ht hvm hw hB hz1 hk1 hS1 => ?_)
  have hP1 : va_P D vwCl ws H1 := hP.kept (fun k q hq => hk1 q.1 (hP k q hq).lt (fun h => h.elim))
  subst hw; exact kk H1 locs1 ls hP1 hD hS1 hl
theorem x_callV_i (X : CX p m c cc nL s args own) (E : EX l s D kA A) {y : MethodName} {bytes : ByteArray} {maxL n index : Nat} {rm : Room} {As rest : List Value} {ret : Option FieldType} {v : Int32} {C : String} {b ci : Nat} {qc : vw_C} {fs : List Value} {ws2 : va_W} (hG : GoodIn WG (wsV own index C y (wsY y bytes maxL ret))) (hM : ∀ sz, Met l y (wsY y bytes maxL ret) rm (va_Pc (.ref b :: As) (PreG D kA ws sz)) (va_Qi (fun (r : Int32) (_ : Unit) => r = v) (fun _ t => PosG D (va_A ws sz) ws2 t) (va_A ws sz)) 0 0 (va_A ws sz)) (hrc : rm.cells = 0) (hrs : rm.slots = 0) (hy : y.cls = C ∧ y.cls ≠ "java/lang/invoke/MethodHandle" ∧ y.cls ≠ "java/lang/invoke/VarHandle" ∧ (parseMethodDescriptor y.desc).map (fun d => d.parameters.length) = some n) (hR : rm.frames + 1 ≤ R.frames ∧ 8 + (maxL + 11) + rm.locals ≤ R.locals) (q0 : Nat) (he : ws[q0]? = some (b, .inr (ci, fs))) (hc : vwCl[ci]? = some qc) (hqc : qc.1 = C) (hn : As.length = n) (hst : st = As.reverse ++ .ref b :: rest) (hcat : (rest.map fun v => v.category).sum ≤ 8) (hd : decode cc pc = .ok (.invokevirtual index, 3)) (hcs : cells ≤ R.cells ∧ slots ≤ R.slots) (kk : CS p l e R s m args below meth c D A nL cells slots Q ws2 (pc + 3) lv (.int v :: rest)) : CS p l e R s m args below meth c D A nL cells slots Q ws pc lv st := by
  intro H locs ls hP hD hS hl
  have hF := fr_self hD hS E.2.2.1
  refine va_calli (va_runV (As := As) (rest := rest) (C := C) X (hM H.size) (cwV n X.2.2.2.2 hG rfl hrc hrs hy hR) ⟨pre_blind, hqc ▸ va_recv E.1.1 hP hc he, pre_at E hP hD hS⟩ rfl hn hl.1 hst (lv_room hcat) hd hcs) hS (fun q _ h => hF q h) hF (fun r u t H1 locs1 ht hvm hw hB hz1 hk1 hS1 => ?_)
  obtain ⟨hP1, hD1⟩ := hB
  rw [ht] at hP1
  subst hw; exact kk H1 locs1 ls hP1 (hD1.weaken (fun _ q _ h => hF q.1 h)) hS1 hl
theorem x_callX_i (X : CX p m c cc nL s args own) (E : EX l s D kA A) {y : MethodName} {bytes : ByteArray} {maxL n index : Nat} {rm : Room} {As rest : List Value} {ret : Option FieldType} {C : String} {b ci mc ms : Nat} {qc : vw_C} {fs : List Value} {pic : WS → va_W} {w0 : WS} {o : (Int32 × WS) ⊕ (String × WS)} (hG : GoodIn WG (wsV own index C y (wsY y bytes maxL ret))) (hM : ∀ sz, vx_Met l y (wsY y bytes maxL ret) rm (va_Pc (.ref b :: As) (PreG D kA (pic w0) sz)) (va_Qi (fun (r : Int32) (w : WS) => o = .inl (r, w)) (fun w t => PosG D (va_A (pic w0) sz) (pic w) t) (va_A (pic w0) sz)) (vx_X (fun q : String × WS => o = .inr q) (fun E q t => E = q.1 ∧ PosG D (va_A (pic w0) sz) (pic q.2) t) (va_A (pic w0) sz)) mc ms (va_A (pic w0) sz)) (hrc : rm.cells = mc) (hrs : rm.slots = ms) (hy : y.cls = C ∧ y.cls ≠ "java/lang/invoke/MethodHandle" ∧ y.cls ≠ "java/lang/invoke/VarHandle" ∧ (parseMethodDescriptor y.desc).map (fun d => d.parameters.length) = some n) (hR : rm.frames + 1 ≤ R.frames ∧ 8 + (maxL + 11) + rm.locals ≤ R.locals) (q0 : Nat) (he : (pic w0)[q0]? = some (b, .inr (ci, fs))) (hc : vwCl[ci]? = some qc) (hqc : qc.1 = C) (hn : As.length = n) (hst : st = As.reverse ++ .ref b :: rest) (hcat : (rest.map fun v => v.category).sum ≤ 8) (hd : decode cc pc = .ok (.invokevirtual index, 3)) (hcs : cells + mc ≤ R.cells ∧ slots + ms ≤ R.slots) (kx : ∀ (q : String × WS) (ce : Cell) (q9 : Addr) (H1 : Heap) (locs1 : List Loc) (ls : Array Slot), o = .inr q → va_P D vwCl (pic q.2) H1 → va_D A (pic q.2) → va_S A s.heap H1 locs1 → lv_has ls nL lv → H1[q9]? = some ce → ce.vm = .none → s.vm.findClass q.1 = some ce.cls → vx_W p l e R s m args below meth c H1 locs1 (cells + mc) (slots + ms) Q (F0 m pc ls rest) q9) (kk : ∀ v w, o = .inl (v, w) → CS p l e R s m args below meth c D A nL (cells + mc) (slots + ms) Q (pic w) (pc + 3) lv (.int v :: rest)) : CS p l e R s m args below meth c D A nL cells slots Q (pic w0) pc lv st := by
  intro H locs ls hP hD hS hl
  have hF := fr_self hD hS E.2.2.1
  refine vx_calli (vx_runV (As := As) (rest := rest) (C := C) X (hM H.size) (cwV n X.2.2.2.2 hG rfl hrc hrs hy hR) ⟨pre_blind, hqc ▸ va_recv E.1.1 hP hc he, pre_at E hP hD hS⟩ rfl hn hl.1 hst (lv_room hcat) hd hcs) hS (fun q _ h => hF q h) hF (fun q _ h => hF q h) (fun E1 ce q9 u t H1 locs1 ht hvm hw hB hz1 hk1 hS1 hce hcv hcl => ?_) (fun r u t H1 locs1 ht hvm hw hB hz1 hk1 hS1 => ?_)
  · obtain ⟨rfl, hP1, hD1⟩ := hB
    rw [ht] at hP1
    exact kx u ce q9 H1 locs1 ls hw hP1 (hD1.weaken (fun _ q _ h => hF q.1 h)) hS1 hl hce hcv hcl
  · obtain ⟨hP1, hD1⟩ := hB
    rw [ht] at hP1
    exact kk r u hw H1 locs1 ls hP1 (hD1.weaken (fun _ q _ h => hF q.1 h)) hS1 hl
theorem x_callS_l (X : CX p m c cc nL s args own) {y : MethodName} {bytes : ByteArray} {maxL n index : Nat} {rm : Room} {As rest : List Value} {ret : Option FieldType} {v : Int64} (hG : GoodIn WG (va_wsS own index y (wsY y bytes maxL ret))) (hM : Met l y (wsY y bytes maxL ret) rm (va_Pc As (fun _ => True)) (va_Ql (fun (r : Int64) (_ : Unit) => r = v) (fun _ _ => True) (fun _ => False)) 0 0 (fun _ => False)) (hrc : rm.cells = 0) (hrs : rm.slots = 0) (hy : y.cls ≠ "java/lang/invoke/MethodHandle" ∧ y.cls ≠ "java/lang/invoke/VarHandle" ∧ (parseMethodDescriptor y.desc).map (fun d => d.parameters.length) = some n) (hR : rm.frames + 1 ≤ R.frames ∧ 8 + (maxL + 11) + rm.locals ≤ R.locals) (hn : As.length = n) (hst : st = As.reverse ++ rest) (hcat : (rest.map fun v => v.category).sum ≤ 8) (hd : decode cc pc = .ok (.invokestatic index, 3)) (hcs : cells ≤ R.cells ∧ slots ≤ R.slots) (kk : CS p l e R s m args below meth c D A nL cells slots Q ws (pc + 3) lv (.long v :: rest)) : CS p l e R s m args below meth c D A nL cells slots Q ws pc lv st := by
  intro H locs ls hP hD hS hl
  refine va_calll (va_runS (As := As) (rest := rest) X hM (va_cwS n X.2.2.2.2 hG rfl hrc hrs hy hR) ⟨fun _ _ _ _ q => q, fun _ _ _ => ⟨rfl, trivial⟩⟩ rfl hn hl.1 hst (lv_room hcat) hd hcs) hS (fun q _ h => h.elim) (fun q h => h.elim) (fun r u t H1 locs1 ht hvm hw hB hz1 hk1 hS1 => ?_)
  have hP1 : va_P D vwCl ws H1 := hP.kept (fun k q hq => hk1 q.1 (hP k q hq).lt (fun h => h.elim))
  subst hw; exact kk H1 locs1 ls hP1 hD hS1 hl
theorem x_callSN_l (X : CX p m c cc nL s args own) {y : MethodName} {bytes : ByteArray} {maxL n index : Nat} {rm : Room} {As rest : List Value} {ret : Option FieldType} {v : Int64} {host : String} (hG : GoodIn WG (wsY y bytes maxL ret)) (hst1 : Cond.static y ∈ WG) (hini : Cond.initialized y.cls ∈ WG) (hnw : va_Nw (.methodLinkNest own index y host) s) (hM : Met l y (wsY y bytes maxL ret) rm (va_Pc As (fun _ => True)) (va_Ql (fun (r : Int64) (_ : Unit) => r = v) (fun _ _ => True) (fun _ => False)) 0 0 (fun _ => False)) (hrc : rm.cells = 0) (hrs : rm.slots = 0) (hy : y.cls ≠ "java/lang/invoke/MethodHandle" ∧ y.cls ≠ "java/lang/invoke/VarHandle" ∧ (parseMethodDescriptor y.desc).map (fun d => d.parameters.length) = some n) (hR : rm.frames + 1 ≤ R.frames ∧ 8 + (maxL + 11) + rm.locals ≤ R.locals) (hn : As.length = n) (hst : st = As.reverse ++ rest) (hcat : (rest.map fun v => v.category).sum ≤ 8) (hd : decode cc pc = .ok (.invokestatic index, 3)) (hcs : cells ≤ R.cells ∧ slots ≤ R.slots) (kk : CS p l e R s m args below meth c D A nL cells slots Q ws (pc + 3) lv (.long v :: rest)) : CS p l e R s m args below meth c D A nL cells slots Q ws pc lv st := by
  intro H locs ls hP hD hS hl
  refine va_calll (va_runSN (As := As) (rest := rest) X hM ⟨va_cnB n X.2.2.2.2 hG rfl hrc hrs hnw (X.2.2.2.2 _ hini) hy hR, X.2.2.2.2 _ hst1, trivial⟩ ⟨fun _ _ _ _ q => q, fun _ _ _ => ⟨rfl, trivial⟩⟩ rfl hn hl.1 hst (lv_room hcat) hd hcs) hS (fun q _ h => h.elim) (fun q h => h.elim) (fun r u t H1 locs1 ht hvm hw hB hz1 hk1 hS1 => ?_)
  have hP1 : va_P D vwCl ws H1 := hP.kept (fun k q hq => hk1 q.1 (hP k q hq).lt (fun h => h.elim))
  subst hw; exact kk H1 locs1 ls hP1 hD hS1 hl
theorem x_callV_l (X : CX p m c cc nL s args own) (E : EX l s D kA A) {y : MethodName} {bytes : ByteArray} {maxL n index : Nat} {rm : Room} {As rest : List Value} {ret : Option FieldType} {v : Int64} {C : String} {b ci : Nat} {qc : vw_C} {fs : List Value} {ws2 : va_W} (hG : GoodIn WG (wsV own index C y (wsY y bytes maxL ret))) (hM : ∀ sz, Met l y (wsY y bytes maxL ret) rm (va_Pc (.ref b :: As) (PreG D kA ws sz)) (va_Ql (fun (r : Int64) (_ : Unit) => r = v) (fun _ t => PosG D (va_A ws sz) ws2 t) (va_A ws sz)) 0 0 (va_A ws sz)) (hrc : rm.cells = 0) (hrs : rm.slots = 0) (hy : y.cls = C ∧ y.cls ≠ "java/lang/invoke/MethodHandle" ∧ y.cls ≠ "java/lang/invoke/VarHandle" ∧ (parseMethodDescriptor y.desc).map (fun d => d.parameters.length) = some n) (hR : rm.frames + 1 ≤ R.frames ∧ 8 + (maxL + 11) + rm.locals ≤ R.locals) (q0 : Nat) (he : ws[q0]? = some (b, .inr (ci, fs))) (hc : vwCl[ci]? = some qc) (hqc : qc.1 = C) (hn : As.length = n) (hst : st = As.reverse ++ .ref b :: rest) (hcat : (rest.map fun v => v.category).sum ≤ 8) (hd : decode cc pc = .ok (.invokevirtual index, 3)) (hcs : cells ≤ R.cells ∧ slots ≤ R.slots) (kk : CS p l e R s m args below meth c D A nL cells slots Q ws2 (pc + 3) lv (.long v :: rest)) : CS p l e R s m args below meth c D A nL cells slots Q ws pc lv st := by
  intro H locs ls hP hD hS hl
  have hF := fr_self hD hS E.2.2.1
  refine va_calll (va_runV (As := As) (rest := rest) (C := C) X (hM H.size) (cwV n X.2.2.2.2 hG rfl hrc hrs hy hR) ⟨pre_blind, hqc ▸ va_recv E.1.1 hP hc he, pre_at E hP hD hS⟩ rfl hn hl.1 hst (lv_room hcat) hd hcs) hS (fun q _ h => hF q h) hF (fun r u t H1 locs1 ht hvm hw hB hz1 hk1 hS1 => ?_)
  obtain ⟨hP1, hD1⟩ := hB
  rw [ht] at hP1
  subst hw; exact kk H1 locs1 ls hP1 (hD1.weaken (fun _ q _ h => hF q.1 h)) hS1 hl
theorem x_callX_l (X : CX p m c cc nL s args own) (E : EX l s D kA A) {y : MethodName} {bytes : ByteArray} {maxL n index : Nat} {rm : Room} {As rest : List Value} {ret : Option FieldType} {C : String} {b ci mc ms : Nat} {qc : vw_C} {fs : List Value} {pic : WS → va_W} {w0 : WS} {o : (Int64 × WS) ⊕ (String × WS)} (hG : GoodIn WG (wsV own index C y (wsY y bytes maxL ret))) (hM : ∀ sz, vx_Met l y (wsY y bytes maxL ret) rm (va_Pc (.ref b :: As) (PreG D kA (pic w0) sz)) (va_Ql (fun (r : Int64) (w : WS) => o = .inl (r, w)) (fun w t => PosG D (va_A (pic w0) sz) (pic w) t) (va_A (pic w0) sz)) (vx_X (fun q : String × WS => o = .inr q) (fun E q t => E = q.1 ∧ PosG D (va_A (pic w0) sz) (pic q.2) t) (va_A (pic w0) sz)) mc ms (va_A (pic w0) sz)) (hrc : rm.cells = mc) (hrs : rm.slots = ms) (hy : y.cls = C ∧ y.cls ≠ "java/lang/invoke/MethodHandle" ∧ y.cls ≠ "java/lang/invoke/VarHandle" ∧ (parseMethodDescriptor y.desc).map (fun d => d.parameters.length) = some n) (hR : rm.frames + 1 ≤ R.frames ∧ 8 + (maxL + 11) + rm.locals ≤ R.locals) (q0 : Nat) (he : (pic w0)[q0]? = some (b, .inr (ci, fs))) (hc : vwCl[ci]? = some qc) (hqc : qc.1 = C) (hn : As.length = n) (hst : st = As.reverse ++ .ref b :: rest) (hcat : (rest.map fun v => v.category).sum ≤ 8) (hd : decode cc pc = .ok (.invokevirtual index, 3)) (hcs : cells + mc ≤ R.cells ∧ slots + ms ≤ R.slots) (kx : ∀ (q : String × WS) (ce : Cell) (q9 : Addr) (H1 : Heap) (locs1 : List Loc) (ls : Array Slot), o = .inr q → va_P D vwCl (pic q.2) H1 → va_D A (pic q.2) → va_S A s.heap H1 locs1 → lv_has ls nL lv → H1[q9]? = some ce → ce.vm = .none → s.vm.findClass q.1 = some ce.cls → vx_W p l e R s m args below meth c H1 locs1 (cells + mc) (slots + ms) Q (F0 m pc ls rest) q9) (kk : ∀ v w, o = .inl (v, w) → CS p l e R s m args below meth c D A nL (cells + mc) (slots + ms) Q (pic w) (pc + 3) lv (.long v :: rest)) : CS p l e R s m args below meth c D A nL cells slots Q (pic w0) pc lv st := by
  intro H locs ls hP hD hS hl
  have hF := fr_self hD hS E.2.2.1
  refine vx_calll (vx_runV (As := As) (rest := rest) (C := C) X (hM H.size) (cwV n X.2.2.2.2 hG rfl hrc hrs hy hR) ⟨pre_blind, hqc ▸ va_recv E.1.1 hP hc he, pre_at E hP hD hS⟩ rfl hn hl.1 hst (lv_room hcat) hd hcs) hS (fun q _ h => hF q h) hF (fun q _ h => hF q h) (fun E1 ce q9 u t H1 locs1 ht hvm hw hB hz1 hk1 hS1 hce hcv hcl => ?_) (fun r u t H1 locs1 ht hvm hw hB hz1 hk1 hS1 => ?_)
  · obtain ⟨rfl, hP1, hD1⟩ := hB
    rw [ht] at hP1
    exact kx u ce q9 H1 locs1 ls hw hP1 (hD1.weaken (fun _ q _ h => hF q.1 h)) hS1 hl hce hcv hcl
  · obtain ⟨hP1, hD1⟩ := hB
    rw [ht] at hP1
    exact kk r u hw H1 locs1 ls hP1 (hD1.weaken (fun _ q _ h => hF q.1 h)) hS1 hl
theorem x_callS_d (X : CX p m c cc nL s args own) {y : MethodName} {bytes : ByteArray} {maxL n index : Nat} {rm : Room} {As rest : List Value} {ret : Option FieldType} {v : UInt64} (hG : GoodIn WG (va_wsS own index y (wsY y bytes maxL ret))) (hM : Met l y (wsY y bytes maxL ret) rm (va_Pc As (fun _ => True)) (va_Qd (fun (r : UInt64) (_ : Unit) => r = v) (fun _ _ => True) (fun _ => False)) 0 0 (fun _ => False)) (hrc : rm.cells = 0) (hrs : rm.slots = 0) (hy : y.cls ≠ "java/lang/invoke/MethodHandle" ∧ y.cls ≠ "java/lang/invoke/VarHandle" ∧ (parseMethodDescriptor y.desc).map (fun d => d.parameters.length) = some n) (hR : rm.frames + 1 ≤ R.frames ∧ 8 + (maxL + 11) + rm.locals ≤ R.locals) (hn : As.length = n) (hst : st = As.reverse ++ rest) (hcat : (rest.map fun v => v.category).sum ≤ 8) (hd : decode cc pc = .ok (.invokestatic index, 3)) (hcs : cells ≤ R.cells ∧ slots ≤ R.slots) (kk : CS p l e R s m args below meth c D A nL cells slots Q ws (pc + 3) lv (.double v :: rest)) : CS p l e R s m args below meth c D A nL cells slots Q ws pc lv st := by
  intro H locs ls hP hD hS hl
  refine va_calld (va_runS (As := As) (rest := rest) X hM (va_cwS n X.2.2.2.2 hG rfl hrc hrs hy hR) ⟨fun _ _ _ _ q => q, fun _ _ _ => ⟨rfl, trivial⟩⟩ rfl hn hl.1 hst (lv_room hcat) hd hcs) hS (fun q _ h => h.elim) (fun q h => h.elim) (fun r u t H1 locs1 ht hvm hw hB hz1 hk1 hS1 => ?_)
  have hP1 : va_P D vwCl ws H1 := hP.kept (fun k q hq => hk1 q.1 (hP k q hq).lt (fun h => h.elim))
  subst hw; exact kk H1 locs1 ls hP1 hD hS1 hl
theorem x_callSN_d (X : CX p m c cc nL s args own) {y : MethodName} {bytes : ByteArray} {maxL n index : Nat} {rm : Room} {As rest : List Value} {ret : Option FieldType} {v : UInt64} {host : String} (hG : GoodIn WG (wsY y bytes maxL ret)) (hst1 : Cond.static y ∈ WG) (hini : Cond.initialized y.cls ∈ WG) (hnw : va_Nw (.methodLinkNest own index y host) s) (hM : Met l y (wsY y bytes maxL ret) rm (va_Pc As (fun _ => True)) (va_Qd (fun (r : UInt64) (_ : Unit) => r = v) (fun _ _ => True) (fun _ => False)) 0 0 (fun _ => False)) (hrc : rm.cells = 0) (hrs : rm.slots = 0) (hy : y.cls ≠ "java/lang/invoke/MethodHandle" ∧ y.cls ≠ "java/lang/invoke/VarHandle" ∧ (parseMethodDescriptor y.desc).map (fun d => d.parameters.length) = some n) (hR : rm.frames + 1 ≤ R.frames ∧ 8 + (maxL + 11) + rm.locals ≤ R.locals) (hn : As.length = n) (hst : st = As.reverse ++ rest) (hcat : (rest.map fun v => v.category).sum ≤ 8) (hd : decode cc pc = .ok (.invokestatic index, 3)) (hcs : cells ≤ R.cells ∧ slots ≤ R.slots) (kk : CS p l e R s m args below meth c D A nL cells slots Q ws (pc + 3) lv (.double v :: rest)) : CS p l e R s m args below meth c D A nL cells slots Q ws pc lv st := by
  intro H locs ls hP hD hS hl
  refine va_calld (va_runSN (As := As) (rest := rest) X hM ⟨va_cnB n X.2.2.2.2 hG rfl hrc hrs hnw (X.2.2.2.2 _ hini) hy hR, X.2.2.2.2 _ hst1, trivial⟩ ⟨fun _ _ _ _ q => q, fun _ _ _ => ⟨rfl, trivial⟩⟩ rfl hn hl.1 hst (lv_room hcat) hd hcs) hS (fun q _ h => h.elim) (fun q h => h.elim) (fun r u t H1 locs1 ht hvm hw hB hz1 hk1 hS1 => ?_)
  have hP1 : va_P D vwCl ws H1 := hP.kept (fun k q hq => hk1 q.1 (hP k q hq).lt (fun h => h.elim))
  subst hw; exact kk H1 locs1 ls hP1 hD hS1 hl
theorem x_callV_d (X : CX p m c cc nL s args own) (E : EX l s D kA A) {y : MethodName} {bytes : ByteArray} {maxL n index : Nat} {rm : Room} {As rest : List Value} {ret : Option FieldType} {v : UInt64} {C : String} {b ci : Nat} {qc : vw_C} {fs : List Value} {ws2 : va_W} (hG : GoodIn WG (wsV own index C y (wsY y bytes maxL ret))) (hM : ∀ sz, Met l y (wsY y bytes maxL ret) rm (va_Pc (.ref b :: As) (PreG D kA ws sz)) (va_Qd (fun (r : UInt64) (_ : Unit) => r = v) (fun _ t => PosG D (va_A ws sz) ws2 t) (va_A ws sz)) 0 0 (va_A ws sz)) (hrc : rm.cells = 0) (hrs : rm.slots = 0) (hy : y.cls = C ∧ y.cls ≠ "java/lang/invoke/MethodHandle" ∧ y.cls ≠ "java/lang/invoke/VarHandle" ∧ (parseMethodDescriptor y.desc).map (fun d => d.parameters.length) = some n) (hR : rm.frames + 1 ≤ R.frames ∧ 8 + (maxL + 11) + rm.locals ≤ R.locals) (q0 : Nat) (he : ws[q0]? = some (b, .inr (ci, fs))) (hc : vwCl[ci]? = some qc) (hqc : qc.1 = C) (hn : As.length = n) (hst : st = As.reverse ++ .ref b :: rest) (hcat : (rest.map fun v => v.category).sum ≤ 8) (hd : decode cc pc = .ok (.invokevirtual index, 3)) (hcs : cells ≤ R.cells ∧ slots ≤ R.slots) (kk : CS p l e R s m args below meth c D A nL cells slots Q ws2 (pc + 3) lv (.double v :: rest)) : CS p l e R s m args below meth c D A nL cells slots Q ws pc lv st := by
  intro H locs ls hP hD hS hl
  have hF := fr_self hD hS E.2.2.1
  refine va_calld (va_runV (As := As) (rest := rest) (C := C) X (hM H.size) (cwV n X.2.2.2.2 hG rfl hrc hrs hy hR) ⟨pre_blind, hqc ▸ va_recv E.1.1 hP hc he, pre_at E hP hD hS⟩ rfl hn hl.1 hst (lv_room hcat) hd hcs) hS (fun q _ h => hF q h) hF (fun r u t H1 locs1 ht hvm hw hB hz1 hk1 hS1 => ?_)
  obtain ⟨hP1, hD1⟩ := hB
  rw [ht] at hP1
  subst hw; exact kk H1 locs1 ls hP1 (hD1.weaken (fun _ q _ h => hF q.1 h)) hS1 hl
theorem x_callX_d (X : CX p m c cc nL s args own) (E : EX l s D kA A) {y : MethodName} {bytes : ByteArray} {maxL n index : Nat} {rm : Room} {As rest : List Value} {ret : Option FieldType} {C : String} {b ci mc ms : Nat} {qc : vw_C} {fs : List Value} {pic : WS → va_W} {w0 : WS} {o : (UInt64 × WS) ⊕ (String × WS)} (hG : GoodIn WG (wsV own index C y (wsY y bytes maxL ret))) (hM : ∀ sz, vx_Met l y (wsY y bytes maxL ret) rm (va_Pc (.ref b :: As) (PreG D kA (pic w0) sz)) (va_Qd (fun (r : UInt64) (w : WS) => o = .inl (r, w)) (fun w t => PosG D (va_A (pic w0) sz) (pic w) t) (va_A (pic w0) sz)) (vx_X (fun q : String × WS => o = .inr q) (fun E q t => E = q.1 ∧ PosG D (va_A (pic w0) sz) (pic q.2) t) (va_A (pic w0) sz)) mc ms (va_A (pic w0) sz)) (hrc : rm.cells = mc) (hrs : rm.slots = ms) (hy : y.cls = C ∧ y.cls ≠ "java/lang/invoke/MethodHandle" ∧ y.cls ≠ "java/lang/invoke/VarHandle" ∧ (parseMethodDescriptor y.desc).map (fun d => d.parameters.length) = some n) (hR : rm.frames + 1 ≤ R.frames ∧ 8 + (maxL + 11) + rm.locals ≤ R.locals) (q0 : Nat) (he : (pic w0)[q0]? = some (b, .inr (ci, fs))) (hc : vwCl[ci]? = some qc) (hqc : qc.1 = C) (hn : As.length = n) (hst : st = As.reverse ++ .ref b :: rest) (hcat : (rest.map fun v => v.category).sum ≤ 8) (hd : decode cc pc = .ok (.invokevirtual index, 3)) (hcs : cells + mc ≤ R.cells ∧ slots + ms ≤ R.slots) (kx : ∀ (q : String × WS) (ce : Cell) (q9 : Addr) (H1 : Heap) (locs1 : List Loc) (ls : Array Slot), o = .inr q → va_P D vwCl (pic q.2) H1 → va_D A (pic q.2) → va_S A s.heap H1 locs1 → lv_has ls nL lv → H1[q9]? = some ce → ce.vm = .none → s.vm.findClass q.1 = some ce.cls → vx_W p l e R s m args below meth c H1 locs1 (cells + mc) (slots + ms) Q (F0 m pc ls rest) q9) (kk : ∀ v w, o = .inl (v, w) → CS p l e R s m args below meth c D A nL (cells + mc) (slots + ms) Q (pic w) (pc + 3) lv (.double v :: rest)) : CS p l e R s m args below meth c D A nL cells slots Q (pic w0) pc lv st := by
  intro H locs ls hP hD hS hl
  have hF := fr_self hD hS E.2.2.1
  refine vx_calld (vx_runV (As := As) (rest := rest) (C := C) X (hM H.size) (cwV n X.2.2.2.2 hG rfl hrc hrs hy hR) ⟨pre_blind, hqc ▸ va_recv E.1.1 hP hc he, pre_at E hP hD hS⟩ rfl hn hl.1 hst (lv_room hcat) hd hcs) hS (fun q _ h => hF q h) hF (fun q _ h => hF q h) (fun E1 ce q9 u t H1 locs1 ht hvm hw hB hz1 hk1 hS1 hce hcv hcl => ?_) (fun r u t H1 locs1 ht hvm hw hB hz1 hk1 hS1 => ?_)
  · obtain ⟨rfl, hP1, hD1⟩ := hB
    rw [ht] at hP1
    exact kx u ce q9 H1 locs1 ls hw hP1 (hD1.weaken (fun _ q _ h => hF q.1 h)) hS1 hl hce hcv hcl
  · obtain ⟨hP1, hD1⟩ := hB
    rw [ht] at hP1
    exact kk r u hw H1 locs1 ls hP1 (hD1.weaken (fun _ q _ h => hF q.1 h)) hS1 hl
theorem x_callS_v (X : CX p m c cc nL s args own) {y : MethodName} {bytes : ByteArray} {maxL n index : Nat} {rm : Room} {As rest : List Value} {ret : Option FieldType}  (hG : GoodIn WG (va_wsS own index y (wsY y bytes maxL ret))) (hM : Met l y (wsY y bytes maxL ret) rm (va_Pc As (fun _ => True)) (va_Qv (fun (_ : Unit) => True) (fun _ _ => True) (fun _ => False)) 0 0 (fun _ => False)) (hrc : rm.cells = 0) (hrs : rm.slots = 0) (hy : y.cls ≠ "java/lang/invoke/MethodHandle" ∧ y.cls ≠ "java/lang/invoke/VarHandle" ∧ (parseMethodDescriptor y.desc).map (fun d => d.parameters.length) = some n) (hR : rm.frames + 1 ≤ R.frames ∧ 8 + (maxL + 11) + rm.locals ≤ R.locals) (hn : As.length = n) (hst : st = As.reverse ++ rest) (hcat : (rest.map fun v => v.category).sum ≤ 8) (hd : decode cc pc = .ok (.invokestatic index, 3)) (hcs : cells ≤ R.cells ∧ slots ≤ R.slots) (kk : CS p l e R s m args below meth c D A nL cells slots Q ws (pc + 3) lv rest) : CS p l e R s m args below meth c D A nL cells slots Q ws pc lv st := by
  intro H locs ls hP hD hS hl
  refine va_callv (va_runS (As := As) (rest := rest) X hM (va_cwS n X.2.2.2.2 hG rfl hrc hrs hy hR) ⟨fun _ _ _ _ q => q, fun _ _ _ => ⟨rfl, trivial⟩⟩ rfl hn hl.1 hst (lv_room hcat) hd hcs) hS (fun q _ h => h.elim) (fun q h => h.elim) (fun u t H1 locs1 ht hvm hw hB hz1 hk1 hS1 => ?_)
  have hP1 : va_P D vwCl ws H1 := hP.kept (fun k q hq => hk1 q.1 (hP k q hq).lt (fun h => h.elim))
  exact kk H1 locs1 ls hP1 hD hS1 hl
theorem x_callSN_v (X : CX p m c cc nL s args own) {y : MethodName} {bytes : ByteArray} {maxL n index : Nat} {rm : Room} {As rest : List Value} {ret : Option FieldType}  {host : String} (hG : GoodIn WG (wsY y bytes maxL ret)) (hst1 : Cond.static y ∈ WG) (hini : Cond.initialized y.cls ∈ WG) (hnw : va_Nw (.methodLinkNest own index y host) s) (hM : Met l y (wsY y bytes maxL ret) rm (va_Pc As (fun _ => True)) (va_Qv (fun (_ : Unit) => True) (fun _ _ => True) (fun _ => False)) 0 0 (fun _ => False)) (hrc : rm.cells = 0) (hrs : rm.slots = 0) (hy : y.cls ≠ "java/lang/invoke/MethodHandle" ∧ y.cls ≠ "java/lang/invoke/VarHandle" ∧ (parseMethodDescriptor y.desc).map (fun d => d.parameters.length) = some n) (hR : rm.frames + 1 ≤ R.frames ∧ 8 + (maxL + 11) + rm.locals ≤ R.locals) (hn : As.length = n) (hst : st = As.reverse ++ rest) (hcat : (rest.map fun v => v.category).sum ≤ 8) (hd : decode cc pc = .ok (.invokestatic index, 3)) (hcs : cells ≤ R.cells ∧ slots ≤ R.slots) (kk : CS p l e R s m args below meth c D A nL cells slots Q ws (pc + 3) lv rest) : CS p l e R s m args below meth c D A nL cells slots Q ws pc lv st := by
  intro H locs ls hP hD hS hl
  refine va_callv (va_runSN (As := As) (rest := rest) X hM ⟨va_cnB n X.2.2.2.2 hG rfl hrc hrs hnw (X.2.2.2.2 _ hini) hy hR, X.2.2.2.2 _ hst1, trivial⟩ ⟨fun _ _ _ _ q => q, fun _ _ _ => ⟨rfl, trivial⟩⟩ rfl hn hl.1 hst (lv_room hcat) hd hcs) hS (fun q _ h => h.elim) (fun q h => h.elim) (fun u t H1 locs1 ht hvm hw hB hz1 hk1 hS1 => ?_)
  have hP1 : va_P D vwCl ws H1 := hP.kept (fun k q hq => hk1 q.1 (hP k q hq).lt (fun h => h.elim))
  exact kk H1 locs1 ls hP1 hD hS1 hl
theorem x_callV_v (X : CX p m c cc nL s args own) (E : EX l s D kA A) {y : MethodName} {bytes : ByteArray} {maxL n index : Nat} {rm : Room} {As rest : List Value} {ret : Option FieldType}  {C : String} {b ci : Nat} {qc : vw_C} {fs : List Value} {ws2 : va_W} (hG : GoodIn WG (wsV own index C y (wsY y bytes maxL ret))) (hM : ∀ sz, Met l y (wsY y bytes maxL ret) rm (va_Pc (.ref b :: As) (PreG D kA ws sz)) (va_Qv (fun (_ : Unit) => True) (fun _ t => PosG D (va_A ws sz) ws2 t) (va_A ws sz)) 0 0 (va_A ws sz)) (hrc : rm.cells = 0) (hrs : rm.slots = 0) (hy : y.cls = C ∧ y.cls ≠ "java/lang/invoke/MethodHandle" ∧ y.cls ≠ "java/lang/invoke/VarHandle" ∧ (parseMethodDescriptor y.desc).map (fun d => d.parameters.length) = some n) (hR : rm.frames + 1 ≤ R.frames ∧ 8 + (maxL + 11) + rm.locals ≤ R.locals) (q0 : Nat) (he : ws[q0]? = some (b, .inr (ci, fs))) (hc : vwCl[ci]? = some qc) (hqc : qc.1 = C) (hn : As.length = n) (hst : st = As.reverse ++ .ref b :: rest) (hcat : (rest.map fun v => v.category).sum ≤ 8) (hd : decode cc pc = .ok (.invokevirtual index, 3)) (hcs : cells ≤ R.cells ∧ slots ≤ R.slots) (kk : CS p l e R s m args below meth c D A nL cells slots Q ws2 (pc + 3) lv rest) : CS p l e R s m args below meth c D A nL cells slots Q ws pc lv st := by
  intro H locs ls hP hD hS hl
  have hF := fr_self hD hS E.2.2.1
  refine va_callv (va_runV (As := As) (rest := rest) (C := C) X (hM H.size) (cwV n X.2.2.2.2 hG rfl hrc hrs hy hR) ⟨pre_blind, hqc ▸ va_recv E.1.1 hP hc he, pre_at E hP hD hS⟩ rfl hn hl.1 hst (lv_room hcat) hd hcs) hS (fun q _ h => hF q h) hF (fun u t H1 locs1 ht hvm hw hB hz1 hk1 hS1 => ?_)
  obtain ⟨hP1, hD1⟩ := hB
  rw [ht] at hP1
  exact kk H1 locs1 ls hP1 (hD1.weaken (fun _ q _ h => hF q.1 h)) hS1 hl
theorem x_callX_v (X : CX p m c cc nL s args own) (E : EX l s D kA A) {y : MethodName} {bytes : ByteArray} {maxL n index : Nat} {rm : Room} {As rest : List Value} {ret : Option FieldType} {C : String} {b ci mc ms : Nat} {qc : vw_C} {fs : List Value} {pic : WS → va_W} {w0 : WS} {o : WS ⊕ (String × WS)} (hG : GoodIn WG (wsV own index C y (wsY y bytes maxL ret))) (hM : ∀ sz, vx_Met l y (wsY y bytes maxL ret) rm (va_Pc (.ref b :: As) (PreG D kA (pic w0) sz)) (va_Qv (fun (w : WS) => o = .inl w) (fun w t => PosG D (va_A (pic w0) sz) (pic w) t) (va_A (pic w0) sz)) (vx_X (fun q : String × WS => o = .inr q) (fun E q t => E = q.1 ∧ PosG D (va_A (pic w0) sz) (pic q.2) t) (va_A (pic w0) sz)) mc ms (va_A (pic w0) sz)) (hrc : rm.cells = mc) (hrs : rm.slots = ms) (hy : y.cls = C ∧ y.cls ≠ "java/lang/invoke/MethodHandle" ∧ y.cls ≠ "java/lang/invoke/VarHandle" ∧ (parseMethodDescriptor y.desc).map (fun d => d.parameters.length) = some n) (hR : rm.frames + 1 ≤ R.frames ∧ 8 + (maxL + 11) + rm.locals ≤ R.locals) (q0 : Nat) (he : (pic w0)[q0]? = some (b, .inr (ci, fs))) (hc : vwCl[ci]? = some qc) (hqc : qc.1 = C) (hn : As.length = n) (hst : st = As.reverse ++ .ref b :: rest) (hcat : (rest.map fun v => v.category).sum ≤ 8) (hd : decode cc pc = .ok (.invokevirtual index, 3)) (hcs : cells + mc ≤ R.cells ∧ slots + ms ≤ R.slots) (kx : ∀ (q : String × WS) (ce : Cell) (q9 : Addr) (H1 : Heap) (locs1 : List Loc) (ls : Array Slot), o = .inr q → va_P D vwCl (pic q.2) H1 → va_D A (pic q.2) → va_S A s.heap H1 locs1 → lv_has ls nL lv → H1[q9]? = some ce → ce.vm = .none → s.vm.findClass q.1 = some ce.cls → vx_W p l e R s m args below meth c H1 locs1 (cells + mc) (slots + ms) Q (F0 m pc ls rest) q9) (kk : ∀ w, o = .inl w → CS p l e R s m args below meth c D A nL (cells + mc) (slots + ms) Q (pic w) (pc + 3) lv rest) : CS p l e R s m args below meth c D A nL cells slots Q (pic w0) pc lv st := by
  intro H locs ls hP hD hS hl
  have hF := fr_self hD hS E.2.2.1
  refine vx_callv (vx_runV (As := As) (rest := rest) (C := C) X (hM H.size) (cwV n X.2.2.2.2 hG rfl hrc hrs hy hR) ⟨pre_blind, hqc ▸ va_recv E.1.1 hP hc he, pre_at E hP hD hS⟩ rfl hn hl.1 hst (lv_room hcat) hd hcs) hS (fun q _ h => hF q h) hF (fun q _ h => hF q h) (fun E1 ce q9 u t H1 locs1 ht hvm hw hB hz1 hk1 hS1 hce hcv hcl => ?_) (fun u t H1 locs1 ht hvm hw hB hz1 hk1 hS1 => ?_)
  · obtain ⟨rfl, hP1, hD1⟩ := hB
    rw [ht] at hP1
    exact kx u ce q9 H1 locs1 ls hw hP1 (hD1.weaken (fun _ q _ h => hF q.1 h)) hS1 hl hce hcv hcl
  · obtain ⟨hP1, hD1⟩ := hB
    rw [ht] at hP1
    exact kk u hw H1 locs1 ls hP1 (hD1.weaken (fun _ q _ h => hF q.1 h)) hS1 hl
theorem x_iret (X : CX p m c cc nL s args own) (hr : meth.sig.returnType = some .int) (hlk : meth.locks = false) {B : Nat → Prop} (hAB : A = B) {v v0 : Int32} (hv : v = v0) (hd : decode cc pc = .ok (.ireturn, 1)) : CS p l e R s m args below meth c D A nL cells slots (MQ below (va_Qi (fun (r : Int32) (_ : Unit) => r = v0) (fun _ t => PosG D B ws t) B) args s cells slots B) ws pc lv [.int v] := by
  subst hAB
  intro H locs ls hP hD hS hl
  exact W.iret X.1 X.2.1 hr (fun t ht hW => ⟨⟨v, (), rfl, hv, by rw [ht]; exact hP, hD⟩, hS.F ht⟩) hS.2.2 hd hlk
theorem x_iretS (X : CX p m c cc nL s args own) (hr : meth.sig.returnType = some .int) (hlk : meth.locks = false) {v v0 : Int32} (hv : v = v0) (hd : decode cc pc = .ok (.ireturn, 1)) : CS p l e R s m args below meth c D (fun _ => False) nL cells slots (MQ below (va_Qi (fun (r : Int32) (_ : Unit) => r = v0) (fun _ _ => True) (fun _ => False)) args s cells slots (fun _ => False)) ws pc lv [.int v] := by
  intro H locs ls hP hD hS hl
  exact W.iret X.1 X.2.1 hr (fun t ht hW => ⟨⟨v, (), rfl, hv, trivial⟩, hS.F ht⟩) hS.2.2 hd hlk
theorem x_iretX (X : CX p m c cc nL s args own) (hr : meth.sig.returnType = some .int) (hlk : meth.locks = false) {B : Nat → Prop} (hAB : A = B) {pic : WS → va_W} {v : Int32} {w : WS} {o : (Int32 × WS) ⊕ (String × WS)} (ho : .inl (v, w) = o) {XC : String → State → State → Prop} {mc ms : Nat} (h1 : cells ≤ mc) (h2 : slots ≤ ms) (hd : decode cc pc = .ok (.ireturn, 1)) : CS p l e R s m args below meth c D A nL cells slots (vx_MQ below (va_Qi (fun (r : Int32) (w : WS) => o = .inl (r, w)) (fun w t => PosG D B (pic w) t) B) XC args s mc ms B) (pic w) pc lv [.int v] := by
  subst hAB
  intro H locs ls hP hD hS hl
  refine W.widen h1 h2 (vx_ret ?_)
  exact W.iret X.1 X.2.1 hr (fun t ht hW => ⟨⟨v, w, rfl, ho.symm, by rw [ht]; exact hP, hD⟩, hS.F ht⟩) hS.2.2 hd hlk
theorem x_lret (X : CX p m c cc nL s args own) (hr : meth.sig.returnType = some .long) (hlk : meth.locks = false) {B : Nat → Prop} (hAB : A = B) {v v0 : Int64} (hv : v = v0) (hd : decode cc pc = .ok (.lreturn, 1)) : CS p l e R s m args below meth c D A nL cells slots (MQ below (va_Ql (fun (r : Int64) (_ : Unit) => r = v0) (fun _ t => PosG D B ws t) B) args s cells slots B) ws pc lv [.long v] := by
  subst hAB
  intro H locs ls hP hD hS hl
  exact W.lret X.1 X.2.1 hr (fun t ht hW => ⟨⟨v, (), rfl, hv, by rw [ht]; exact hP, hD⟩, hS.F ht⟩) hS.2.2 hd hlk
theorem x_lretS (X : CX p m c cc nL s args own) (hr : meth.sig.returnType = some .long) (hlk : meth.locks = false) {v v0 : Int64} (hv : v = v0) (hd : decode cc pc = .ok (.lreturn, 1)) : CS p l e R s m args below meth c D (fun _ => False) nL cells slots (MQ below (va_Ql (fun (r : Int64) (_ : Unit) => r = v0) (fun _ _ => True) (fun _ => False)) args s cells slots (fun _ => False)) ws pc lv [.long v] := by
  intro H locs ls hP hD hS hl
  exact W.lret X.1 X.2.1 hr (fun t ht hW => ⟨⟨v, (), rfl, hv, trivial⟩, hS.F ht⟩) hS.2.2 hd hlk
theorem x_lretX (X : CX p m c cc nL s args own) (hr : meth.sig.returnType = some .long) (hlk : meth.locks = false) {B : Nat → Prop} (hAB : A = B) {pic : WS → va_W} {v : Int64} {w : WS} {o : (Int64 × WS) ⊕ (String × WS)} (ho : .inl (v, w) = o) {XC : String → State → State → Prop} {mc ms : Nat} (h1 : cells ≤ mc) (h2 : slots ≤ ms) (hd : decode cc pc = .ok (.lreturn, 1)) : CS p l e R s m args below meth c D A nL cells slots (vx_MQ below (va_Ql (fun (r : Int64) (w : WS) => o = .inl (r, w)) (fun w t => PosG D B (pic w) t) B) XC args s mc ms B) (pic w) pc lv [.long v] := by
  subst hAB
  intro H locs ls hP hD hS hl
  refine W.widen h1 h2 (vx_ret ?_)
  exact W.lret X.1 X.2.1 hr (fun t ht hW => ⟨⟨v, w, rfl, ho.symm, by rw [ht]; exact hP, hD⟩, hS.F ht⟩) hS.2.2 hd hlk
theorem x_dret (X : CX p m c cc nL s args own) (hr : meth.sig.returnType = some .double) (hlk : meth.locks = false) {B : Nat → Prop} (hAB : A = B) {v v0 : UInt64} (hv : v = v0) (hd : decode cc pc = .ok (.dreturn, 1)) : CS p l e R s m args below meth c D A nL cells slots (MQ below (va_Qd (fun (r : UInt64) (_ : Unit) => r = v0) (fun _ t => PosG D B ws t) B) args s cells slots B) ws pc lv [.double v] := by
  subst hAB
  intro H locs ls hP hD hS hl
  exact W.dret X.1 X.2.1 hr (fun t ht hW => ⟨⟨v, (), rfl, hv, by rw [ht]; exact hP, hD⟩, hS.F ht⟩) hS.2.2 hd hlk
theorem x_dretS (X : CX p m c cc nL s args own) (hr : meth.sig.returnType = some .double) (hlk : meth.locks = false) {v v0 : UInt64} (hv : v = v0) (hd : decode cc pc = .ok (.dreturn, 1)) : CS p l e R s m args below meth c D (fun _ => False) nL cells slots (MQ below (va_Qd (fun (r : UInt64) (_ : Unit) => r = v0) (fun _ _ => True) (fun _ => False)) args s cells slots (fun _ => False)) ws pc lv [.double v] := by
  intro H locs ls hP hD hS hl
  exact W.dret X.1 X.2.1 hr (fun t ht hW => ⟨⟨v, (), rfl, hv, trivial⟩, hS.F ht⟩) hS.2.2 hd hlk
theorem x_dretX (X : CX p m c cc nL s args own) (hr : meth.sig.returnType = some .double) (hlk : meth.locks = false) {B : Nat → Prop} (hAB : A = B) {pic : WS → va_W} {v : UInt64} {w : WS} {o : (UInt64 × WS) ⊕ (String × WS)} (ho : .inl (v, w) = o) {XC : String → State → State → Prop} {mc ms : Nat} (h1 : cells ≤ mc) (h2 : slots ≤ ms) (hd : decode cc pc = .ok (.dreturn, 1)) : CS p l e R s m args below meth c D A nL cells slots (vx_MQ below (va_Qd (fun (r : UInt64) (w : WS) => o = .inl (r, w)) (fun w t => PosG D B (pic w) t) B) XC args s mc ms B) (pic w) pc lv [.double v] := by
  subst hAB
  intro H locs ls hP hD hS hl
  refine W.widen h1 h2 (vx_ret ?_)
  exact W.dret X.1 X.2.1 hr (fun t ht hW => ⟨⟨v, w, rfl, ho.symm, by rw [ht]; exact hP, hD⟩, hS.F ht⟩) hS.2.2 hd hlk
theorem x_vret (X : CX p m c cc nL s args own) (hr : meth.sig.returnType = none) (hlk : meth.locks = false) {B : Nat → Prop} (hAB : A = B)  (hd : decode cc pc = .ok (.return_, 1)) : CS p l e R s m args below meth c D A nL cells slots (MQ below (va_Qv (fun (_ : Unit) => True) (fun _ t => PosG D B ws t) B) args s cells slots B) ws pc lv [] := by
  subst hAB
  intro H locs ls hP hD hS hl
  exact W.vret X.1 X.2.1 hr (fun t ht hW => ⟨⟨(), rfl, trivial, by rw [ht]; exact hP, hD⟩, hS.F ht⟩) hS.2.2 hd hlk
theorem x_vretX (X : CX p m c cc nL s args own) (hr : meth.sig.returnType = none) (hlk : meth.locks = false) {B : Nat → Prop} (hAB : A = B) {pic : WS → va_W} {w : WS} {o : WS ⊕ (String × WS)} (ho : .inl w = o) {XC : String → State → State → Prop} {mc ms : Nat} (h1 : cells ≤ mc) (h2 : slots ≤ ms) (hd : decode cc pc = .ok (.return_, 1)) : CS p l e R s m args below meth c D A nL cells slots (vx_MQ below (va_Qv (fun (w : WS) => o = .inl w) (fun w t => PosG D B (pic w) t) B) XC args s mc ms B) (pic w) pc lv [] := by
  subst hAB
  intro H locs ls hP hD hS hl
  refine W.widen h1 h2 (vx_ret ?_)
  exact W.vret X.1 X.2.1 hr (fun t ht hW => ⟨⟨w, rfl, ho.symm, by rw [ht]; exact hP, hD⟩, hS.F ht⟩) hS.2.2 hd hlk
theorem nar_b {v : Int32} (h : v = 0 ∨ v = 1) : narrow .boolean (.int v) = .int v := by rcases h with rfl | rfl <;> decide +kernel
theorem x_zret (X : CX p m c cc nL s args own) (hr : meth.sig.returnType = some .boolean) (hlk : meth.locks = false) {B : Nat → Prop} (hAB : A = B) {v v0 : Int32} (hb : v = 0 ∨ v = 1) (hv : v = v0) (hd : decode cc pc = .ok (.ireturn, 1)) : CS p l e R s m args below meth c D A nL cells slots (MQ below (va_Qi (fun (r : Int32) (_ : Unit) => r = v0) (fun _ t => PosG D B ws t) B) args s cells slots B) ws pc lv [.int v] := by
  subst hAB
  intro H locs ls hP hD hS hl
  exact W.zret X.1 X.2.1 hr (nar_b hb) (fun t ht hW => ⟨⟨v, (), rfl, hv, by rw [ht]; exact hP, hD⟩, hS.F ht⟩) hS.2.2 hd hlk
theorem x_zretS (X : CX p m c cc nL s args own) (hr : meth.sig.returnType = some .boolean) (hlk : meth.locks = false) {v v0 : Int32} (hb : v = 0 ∨ v = 1) (hv : v = v0) (hd : decode cc pc = .ok (.ireturn, 1)) : CS p l e R s m args below meth c D (fun _ => False) nL cells slots (MQ below (va_Qi (fun (r : Int32) (_ : Unit) => r = v0) (fun _ _ => True) (fun _ => False)) args s cells slots (fun _ => False)) ws pc lv [.int v] := by
  intro H locs ls hP hD hS hl
  exact W.zret X.1 X.2.1 hr (nar_b hb) (fun t ht hW => ⟨⟨v, (), rfl, hv, trivial⟩, hS.F ht⟩) hS.2.2 hd hlk
theorem x_zretX (X : CX p m c cc nL s args own) (hr : meth.sig.returnType = some .boolean) (hlk : meth.locks = false) {B : Nat → Prop} (hAB : A = B) {pic : WS → va_W} {v : Int32} {w : WS} (hb : v = 0 ∨ v = 1) {o : (Int32 × WS) ⊕ (String × WS)} (ho : .inl (v, w) = o) {XC : String → State → State → Prop} {mc ms : Nat} (h1 : cells ≤ mc) (h2 : slots ≤ ms) (hd : decode cc pc = .ok (.ireturn, 1)) : CS p l e R s m args below meth c D A nL cells slots (vx_MQ below (va_Qi (fun (r : Int32) (w : WS) => o = .inl (r, w)) (fun w t => PosG D B (pic w) t) B) XC args s mc ms B) (pic w) pc lv [.int v] := by
  subst hAB
  intro H locs ls hP hD hS hl
  refine W.widen h1 h2 (vx_ret ?_)
  exact W.zret X.1 X.2.1 hr (nar_b hb) (fun t ht hW => ⟨⟨v, w, rfl, ho.symm, by rw [ht]; exact hP, hD⟩, hS.F ht⟩) hS.2.2 hd hlk
theorem x_thru {β : Type} {o1 : β ⊕ (String × WS)} {pic : WS → va_W} {Qc : Array Value → State → Outcome → State → Prop} {mc ms : Nat} {q : String × WS} {ce : Cell} {q9 : Addr} {H1 : Heap} {locs1 : List Loc} {ls : Array Slot} {rest : List Value} (hout : ∀ x ∈ c.exceptionTable.toList, False) (hlk : meth.locks = false) {B : Nat → Prop} (hAB : A = B) (ho : o1 = .inr q) (hP : va_P D vwCl (pic q.2) H1) (hD : va_D A (pic q.2)) (hS : va_S A s.heap H1 locs1) (hce : H1[q9]? = some ce) (hcv : ce.vm = .none) (hcl : s.vm.findClass q.1 = some ce.cls) (h1 : cells ≤ mc) (h2 : slots ≤ ms) : vx_W p l e R s m args below meth c H1 locs1 cells slots (vx_MQ below Qc (vx_X (fun q : String × WS => o1 = .inr q) (fun E q t => E = q.1 ∧ PosG D B (pic q.2) t) B) args s mc ms B) (F0 m pc ls rest) q9 := by
  subst hAB
  exact vx_out (fun x hx => (hout x hx).elim) hlk hce hcv hcl (fun t ht hW => ⟨q, ho, ⟨rfl, by rw [ht]; exact hP, hD⟩, hS.F ht⟩) hS.2.2 h1 h2
/-- throw new E(text) in a method of RoadOracle -/
theorem x_throw (X : CX p m c cc nL s args own) (E : EX l s D kA A) {β : Type} {o1 : β ⊕ (String × WS)} {pic : WS → va_W} {w : WS} {Qc : Array Value → State → Outcome → State → Prop} {mc ms : Nat} {cls text : String} {ik is ic : Nat} (hcls : Bundle.fit cls = true) (hk : Cond.classLink own ik cls ∈ WG) (hini : Cond.initialized cls ∈ WG) (hstr : (own, is, text) ∈ STRL) (hat : ∀ w ∈ (vx_atS own ic cls ["java/lang/RuntimeException", "java/lang/Exception"]), w ∈ WG ∨ w ∈ NWL) (hgood : ∀ w ∈ Cond.classLink own ik cls :: Cond.initialized cls :: vx_atS own ic cls ["java/lang/RuntimeException", "java/lang/Exception"], vx_ot w = true) (d0 : decode cc pc = .ok (.new ik, 3)) (d3 : decode cc (pc + 3) = .ok (.dup, 1)) (d4 : decode cc (pc + 4) = .ok (.ldc is, 2)) (d6 : decode cc (pc + 6) = .ok (.invokespecial ic, 3)) (d9 : decode cc (pc + 9) = .ok (.athrow, 1)) (hout : ∀ x ∈ c.exceptionTable.toList, False) (hlk : meth.locks = false) {B : Nat → Prop} (hAB : A = B) (hfr : 5 < R.frames) (hlo : (st.map fun v => v.category).sum + 82 ≤ R.locals) (hRc : cells + 1 ≤ R.cells) (hRs : slots + 6 ≤ R.slots) (h1 : cells + 1 ≤ mc) (h2 : slots + 6 ≤ ms) (ho : o1 = .inr (cls, w)) : CS p l e R s m args below meth c D A nL cells slots (vx_MQ below Qc (vx_X (fun q : String × WS => o1 = .inr q) (fun E q t => E = q.1 ∧ PosG D B (pic q.2) t) B) args s mc ms B) (pic w) pc lv st := by
  subst hAB
  intro H locs ls hP hD hS hl
  obtain ⟨sa, hsa⟩ := E.1.2.2 _ hstr
  refine vx_throwS (names := ["java/lang/RuntimeException", "java/lang/Exception"]) X.1 X.2.1 E.2.2.2 X.2.2.2.1 hcls (by decide +kernel) (X.2.2.2.2 _ hk) (X.2.2.2.2 _ hini) hsa (fun w hw => (hat w hw).elim (X.2.2.2.2 w) (fun h => va_Nw.use (by have := (List.mem_filter.mp h).2; cases w <;> first | rfl | (exfalso; cases this)) (E.1.2.1 w h))) hgood E.2.1.1 E.2.1.2 hS (hl.1.trans X.2.2.1.symm) d0 d3 d4 d6 d9 (fun x hx => (hout x hx).elim) hfr hlo hRc hRs hlk (fun t hW hz hk1 => ⟨(cls, w), ho, ⟨rfl, hP.kept (fun k q hq => hk1 q.1 (hP k q hq).lt), hD⟩, ?_⟩) hS.2.2 h1 h2
  exact ⟨Nat.le_trans hS.1 hz, fun q hq hA => (hk1 q (Nat.lt_of_lt_of_le hq hS.1)).trans (hS.2.1 q hq hA)⟩
/-- .. with a wide ldc -/
theorem x_throwW (X : CX p m c cc nL s args own) (E : EX l s D kA A) {β : Type} {o1 : β ⊕ (String × WS)} {pic : WS → va_W} {w : WS} {Qc : Array Value → State → Outcome → State → Prop} {mc ms : Nat} {cls text : String} {ik is ic : Nat} (hcls : Bundle.fit cls = true) (hk : Cond.classLink own ik cls ∈ WG) (hini : Cond.initialized cls ∈ WG) (hstr : (own, is, text) ∈ STRL) (hat : ∀ w ∈ (vx_atS own ic cls ["java/lang/RuntimeException", "java/lang/Exception"]), w ∈ WG ∨ w ∈ NWL) (hgood : ∀ w ∈ Cond.classLink own ik cls :: Cond.initialized cls :: vx_atS own ic cls ["java/lang/RuntimeException", "java/lang/Exception"], vx_ot w = true) (d0 : decode cc pc = .ok (.new ik, 3)) (d3 : decode cc (pc + 3) = .ok (.dup, 1)) (d4 : decode cc (pc + 4) = .ok (.ldc_w is, 3)) (d6 : decode cc (pc + 7) = .ok (.invokespecial ic, 3)) (d9 : decode cc (pc + 10) = .ok (.athrow, 1)) (hout : ∀ x ∈ c.exceptionTable.toList, False) (hlk : meth.locks = false) {B : Nat → Prop} (hAB : A = B) (hfr : 5 < R.frames) (hlo : (st.map fun v => v.category).sum + 82 ≤ R.locals) (hRc : cells + 1 ≤ R.cells) (hRs : slots + 6 ≤ R.slots) (h1 : cells + 1 ≤ mc) (h2 : slots + 6 ≤ ms) (ho : o1 = .inr (cls, w)) : CS p l e R s m args below meth c D A nL cells slots (vx_MQ below Qc (vx_X (fun q : String × WS => o1 = .inr q) (fun E q t => E = q.1 ∧ PosG D B (pic q.2) t) B) args s mc ms B) (pic w) pc lv st := by
  subst hAB
  intro H locs ls hP hD hS hl
  obtain ⟨sa, hsa⟩ := E.1.2.2 _ hstr
  refine vx_throwSW (names := ["java/lang/RuntimeException", "java/lang/Exception"]) X.1 X.2.1 E.2.2.2 X.2.2.2.1 hcls (by decide +kernel) (X.2.2.2.2 _ hk) (X.2.2.2.2 _ hini) hsa (fun w hw => (hat w hw).elim (X.2.2.2.2 w) (fun h => va_Nw.use (by have := (List.mem_filter.mp h).2; cases w <;> first | rfl | (exfalso; cases this)) (E.1.2.1 w h))) hgood E.2.1.1 E.2.1.2 hS (hl.1.trans X.2.2.1.symm) d0 d3 d4 d6 d9 (fun x hx => (hout x hx).elim) hfr hlo hRc hRs hlk (fun t hW hz hk1 => ⟨(cls, w), ho, ⟨rfl, hP.kept (fun k q hq => hk1 q.1 (hP k q hq).lt), hD⟩, ?_⟩) hS.2.2 h1 h2
  exact ⟨Nat.le_trans hS.1 hz, fun q hq hA => (hk1 q (Nat.lt_of_lt_of_le hq hS.1)).trans (hS.2.1 q hq hA)⟩
end FC
/-- a method of a class with a world, from its entry -/
theorem metG {l : Launch} {D : va_G} {kA : Nat → ClassId} {ws : va_W} {sz : Nat} {y : MethodName} {cc : ByteArray} {maxL : Nat} {ret : Option FieldType} {rm : Room} {As : List Value} {Qc : Array Value → State → Outcome → State → Prop} {mc ms : Nat} {lv0 : List (Nat × Value)} {own : String} (hst : l.stackTraces = false) (hy : plainName y.cls = true) (hown : y.cls = own) (hcat : (lg_sl As).length ≤ maxL) (hlv : lv_args 0 As = lv0)
    (body : ∀ (p : Program) (e : Env) (s : State) (m : MethodId) (below : List Frame) (meth : Method) (c : Code), CX p m c cc maxL s As.toArray own → meth.sig.returnType = ret → meth.locks = false → EX l s D kA (va_A ws sz) → (meth.name = y.name) → CS p l e rm s m As.toArray below meth c D (va_A ws sz) maxL 0 0 (MQ below Qc As.toArray s mc ms (va_A ws sz)) ws 0 lv0 []) :
    Met l y (wsY y cc maxL ret) rm (va_Pc As (PreG D kA ws sz)) Qc mc ms (va_A ws sz) := by
  refine Met.ofW (cc := cc) (maxL := maxL) (ret := ret) hy rfl ?_
  intro p e s m args below meth c s₁ B hml hv
  obtain ⟨rfl, hsz, hP, hD0, hE, hZ⟩ := hv
  have hts := atoms_spec (ws := wsY y cc maxL ret) B.pre
  rw [lg_entry_eq]
  have hl := lv_entry As hcat
  rw [hlv] at hl
  subst hsz
  subst hown
  exact body p e s m below meth c ⟨B.exec, B.bytes, hml, findClass_of_methodNamed B.named, fun w h => hts w (List.mem_cons_of_mem _ h)⟩ B.returns B.notSynchronized ⟨hE, hZ, fun q h => Or.inr h, hst⟩ (name_of_methodNamed B.named B.method).1 s.heap [] _ hP hD0.self va_S.rf hl
theorem metX {l : Launch} {D : va_G} {kA : Nat → ClassId} {ws : va_W} {sz : Nat} {y : MethodName} {cc : ByteArray} {maxL : Nat} {ret : Option FieldType} {rm : Room} {As : List Value} {Qc : Array Value → State → Outcome → State → Prop} {XC : String → State → State → Prop} {mc ms : Nat} {lv0 : List (Nat × Value)} {own : String} (hst : l.stackTraces = false) (hy : plainName y.cls = true) (hown : y.cls = own) (hcat : (lg_sl As).length ≤ maxL) (hlv : lv_args 0 As = lv0)
    (body : ∀ (p : Program) (e : Env) (s : State) (m : MethodId) (below : List Frame) (meth : Method) (c : Code), CX p m c cc maxL s As.toArray own → meth.sig.returnType = ret → meth.locks = false → EX l s D kA (va_A ws sz) → (∀ x ∈ c.exceptionTable.toList, False) → CS p l e rm s m As.toArray below meth c D (va_A ws sz) maxL 0 0 (vx_MQ below Qc XC As.toArray s mc ms (va_A ws sz)) ws 0 lv0 []) :
    vx_Met l y (wsY y cc maxL ret) rm (va_Pc As (PreG D kA ws sz)) Qc XC mc ms (va_A ws sz) := by
  refine vx_ofW (cc := cc) (maxL := maxL) (ret := ret) hy rfl ?_
  intro p e s m args below meth c s₁ B hml htab hv
  obtain ⟨rfl, hsz, hP, hD0, hE, hZ⟩ := hv
  have hts := atoms_spec (ws := wsY y cc maxL ret) B.pre
  rw [lg_entry_eq]
  have hl := lv_entry As hcat
  rw [hlv] at hl
  subst hsz
  subst hown
  exact body p e s m below meth c ⟨B.exec, B.bytes, hml, findClass_of_methodNamed B.named, fun w h => hts w (List.mem_cons_of_mem _ h)⟩ B.returns B.notSynchronized ⟨hE, hZ, fun q h => Or.inr h, hst⟩ htab s.heap [] _ hP hD0.self va_S.rf hl
/-- a static helper without a world -/
theorem metS {l : Launch} {y : MethodName} {cc : ByteArray} {maxL : Nat} {ret : Option FieldType} {rm : Room} {As : List Value} {Qc : Array Value → State → Outcome → State → Prop} {mc ms : Nat} {lv0 : List (Nat × Value)} {own : String} (hy : plainName y.cls = true) (hown : y.cls = own) (hcat : (lg_sl As).length ≤ maxL) (hlv : lv_args 0 As = lv0)
    (body : ∀ (p : Program) (e : Env) (s : State) (m : MethodId) (below : List Frame) (meth : Method) (c : Code), CX p m c cc maxL s As.toArray own → meth.sig.returnType = ret → meth.locks = false → CS p l e rm s m As.toArray below meth c (fun _ => 0, fun _ _ => 0) (fun _ => False) maxL 0 0 (MQ below Qc As.toArray s mc ms (fun _ => False)) [] 0 lv0 []) :
    Met l y (wsY y cc maxL ret) rm (va_Pc As (fun _ => True)) Qc mc ms (fun _ => False) := by
  refine Met.ofW (cc := cc) (maxL := maxL) (ret := ret) hy rfl ?_
  intro p e s m args below meth c s₁ B hml hv
  obtain ⟨rfl, -⟩ := hv
  have hts := atoms_spec (ws := wsY y cc maxL ret) B.pre
  rw [lg_entry_eq]
  have hl := lv_entry As hcat
  rw [hlv] at hl
  subst hown
  exact body p e s m below meth c ⟨B.exec, B.bytes, hml, findClass_of_methodNamed B.named, fun w h => hts w (List.mem_cons_of_mem _ h)⟩ B.returns B.notSynchronized s.heap [] _ (fun k q h => by simp at h) ⟨fun i j p q h => by simp at h, fun k q h => by simp at h⟩ va_S.rf hl
end
section
def picC (kA : Nat → ClassId) (ad : Nat → Nat) (w : WS) : va_W := [(ad 0, .inr (3, [.ref (ad 1), .ref (ad 2), .ref (ad 3), .ref (ad 4), .ref (ad 5), .ref (ad 17), .ref (ad 6), .int (w.1 0 6), .int (w.1 0 7), .ref (ad 7), .ref (ad 8), .int (w.1 0 10)])),
  (ad 1, .inr (2, [.int (w.1 1 0), .int (w.1 1 1), .ref (ad 9), .ref (ad 10), .ref (ad 11), .ref (ad 12), .ref (ad 13), .ref (ad 14), .long (w.2 1 8), .int (w.1 1 9)])),
  (ad 2, .inr (0, [.ref (ad 1), .int (w.1 2 1), .int (w.1 2 2), .int (w.1 2 3), .int (w.1 2 4), .ref (ad 15), .ref (ad 16), .ref (ad 18), .ref (ad 19), .ref (ad 20), .ref (ad 21), .ref (ad 22), .ref (ad 23)])),
  (ad 3, .inr (1, [.int (w.1 3 0), .ref (ad 24), .ref (ad 25), .ref (ad 26), .ref (ad 27), .ref (ad 28)])),
  (ad 4, .inl (kA 2, 128, .inl (w.1 4))),
  (ad 5, .inl (kA 0, 64, .inl (w.1 5))),
  (ad 6, .inl (kA 0, 64, .inl (w.1 6))),
  (ad 7, .inl (kA 0, 32, .inl (w.1 7))),
  (ad 8, .inl (kA 0, 32, .inl (w.1 8))),
  (ad 9, .inl (kA 0, 64, .inl (w.1 9))),
  (ad 10, .inl (kA 0, 64, .inl (w.1 10))),
  (ad 11, .inl (kA 0, 64, .inl (w.1 11))),
  (ad 12, .inl (kA 0, 4096, .inl (w.1 12))),
  (ad 13, .inl (kA 1, 32, .inr (.inl (w.2 13)))),
  (ad 14, .inl (kA 1, 32, .inr (.inl (w.2 14)))),
  (ad 15, .inl (kA 0, 64, .inl (w.1 15))),
  (ad 16, .inl (kA 0, 64, .inl (w.1 16))),
  (ad 17, .inl (kA 0, 32, .inl (w.1 17))),
  (ad 18, .inl (kA 1, 64, .inr (.inl (w.2 18)))),
  (ad 19, .inl (kA 1, 64, .inr (.inl (w.2 19)))),
  (ad 20, .inl (kA 0, 4096, .inl (w.1 20))),
  (ad 21, .inl (kA 0, 4096, .inl (w.1 21))),
  (ad 22, .inl (kA 1, 64, .inr (.inl (w.2 22)))),
  (ad 23, .inl (kA 1, 64, .inr (.inl (w.2 23)))),
  (ad 24, .inl (kA 0, 8, .inl (w.1 24))),
  (ad 25, .inl (kA 0, 512, .inl (w.1 25))),
  (ad 26, .inl (kA 0, 32768, .inl (w.1 26))),
  (ad 27, .inl (kA 1, 8, .inr (.inl (w.2 27)))),
  (ad 28, .inl (kA 0, 8, .inl (w.1 28)))]
theorem setC_4 (kA : Nat → ClassId) (ad : Nat → Nat) (w : WS) (i : Nat) (v : Int32) : (picC kA ad w).set 4 (ad 4, .inl (kA 2, 128, .inl (upd (w.1 4) i (vp_nar .boolean v)))) = picC kA ad (wI w 4 i (vp_nar .boolean v)) := rfl
theorem setC_5 (kA : Nat → ClassId) (ad : Nat → Nat) (w : WS) (i : Nat) (v : Int32) : (picC kA ad w).set 5 (ad 5, .inl (kA 0, 64, .inl (upd (w.1 5) i v))) = picC kA ad (wI w 5 i v) := rfl
theorem setFC_5 (kA : Nat → ClassId) (ad : Nat → Nat) (w : WS) (f : Nat → Int32) : (picC kA ad w).set 5 (ad 5, .inl (kA 0, 64, .inl f)) = picC kA ad (wF w 5 f) := rfl
theorem setC_6 (kA : Nat → ClassId) (ad : Nat → Nat) (w : WS) (i : Nat) (v : Int32) : (picC kA ad w).set 6 (ad 6, .inl (kA 0, 64, .inl (upd (w.1 6) i v))) = picC kA ad (wI w 6 i v) := rfl
theorem setFC_6 (kA : Nat → ClassId) (ad : Nat → Nat) (w : WS) (f : Nat → Int32) : (picC kA ad w).set 6 (ad 6, .inl (kA 0, 64, .inl f)) = picC kA ad (wF w 6 f) := rfl
theorem setC_7 (kA : Nat → ClassId) (ad : Nat → Nat) (w : WS) (i : Nat) (v : Int32) : (picC kA ad w).set 7 (ad 7, .inl (kA 0, 32, .inl (upd (w.1 7) i v))) = picC kA ad (wI w 7 i v) := rfl
theorem setFC_7 (kA : Nat → ClassId) (ad : Nat → Nat) (w : WS) (f : Nat → Int32) : (picC kA ad w).set 7 (ad 7, .inl (kA 0, 32, .inl f)) = picC kA ad (wF w 7 f) := rfl
theorem setC_8 (kA : Nat → ClassId) (ad : Nat → Nat) (w : WS) (i : Nat) (v : Int32) : (picC kA ad w).set 8 (ad 8, .inl (kA 0, 32, .inl (upd (w.1 8) i v))) = picC kA ad (wI w 8 i v) := rfl
theorem setFC_8 (kA : Nat → ClassId) (ad : Nat → Nat) (w : WS) (f : Nat → Int32) : (picC kA ad w).set 8 (ad 8, .inl (kA 0, 32, .inl f)) = picC kA ad (wF w 8 f) := rfl
theorem setC_9 (kA : Nat → ClassId) (ad : Nat → Nat) (w : WS) (i : Nat) (v : Int32) : (picC kA ad w).set 9 (ad 9, .inl (kA 0, 64, .inl (upd (w.1 9) i v))) = picC kA ad (wI w 9 i v) := rfl
theorem setFC_9 (kA : Nat → ClassId) (ad : Nat → Nat) (w : WS) (f : Nat → Int32) : (picC kA ad w).set 9 (ad 9, .inl (kA 0, 64, .inl f)) = picC kA ad (wF w 9 f) := rfl
theorem setC_10 (kA : Nat → ClassId) (ad : Nat → Nat) (w : WS) (i : Nat) (v : Int32) : (picC kA ad w).set 10 (ad 10, .inl (kA 0, 64, .inl (upd (w.1 10) i v))) = picC kA ad (wI w 10 i v) := rfl
theorem setFC_10 (kA : Nat → ClassId) (ad : Nat → Nat) (w : WS) (f : Nat → Int32) : (picC kA ad w).set 10 (ad 10, .inl (kA 0, 64, .inl f)) = picC kA ad (wF w 10 f) := rfl
theorem setC_11 (kA : Nat → ClassId) (ad : Nat → Nat) (w : WS) (i : Nat) (v : Int32) : (picC kA ad w).set 11 (ad 11, .inl (kA 0, 64, .inl (upd (w.1 11) i v))) = picC kA ad (wI w 11 i v) := rfl
theorem setFC_11 (kA : Nat → ClassId) (ad : Nat → Nat) (w : WS) (f : Nat → Int32) : (picC kA ad w).set 11 (ad 11, .inl (kA 0, 64, .inl f)) = picC kA ad (wF w 11 f) := rfl
theorem setC_12 (kA : Nat → ClassId) (ad : Nat → Nat) (w : WS) (i : Nat) (v : Int32) : (picC kA ad w).set 12 (ad 12, .inl (kA 0, 4096, .inl (upd (w.1 12) i v))) = picC kA ad (wI w 12 i v) := rfl
theorem setFC_12 (kA : Nat → ClassId) (ad : Nat → Nat) (w : WS) (f : Nat → Int32) : (picC kA ad w).set 12 (ad 12, .inl (kA 0, 4096, .inl f)) = picC kA ad (wF w 12 f) := rfl
theorem setC_13 (kA : Nat → ClassId) (ad : Nat → Nat) (w : WS) (i : Nat) (v : Int64) : (picC kA ad w).set 13 (ad 13, .inl (kA 1, 32, .inr (.inl (vp_updL (w.2 13) i v)))) = picC kA ad (wL w 13 i v) := rfl
theorem setC_14 (kA : Nat → ClassId) (ad : Nat → Nat) (w : WS) (i : Nat) (v : Int64) : (picC kA ad w).set 14 (ad 14, .inl (kA 1, 32, .inr (.inl (vp_updL (w.2 14) i v)))) = picC kA ad (wL w 14 i v) := rfl
theorem setC_15 (kA : Nat → ClassId) (ad : Nat → Nat) (w : WS) (i : Nat) (v : Int32) : (picC kA ad w).set 15 (ad 15, .inl (kA 0, 64, .inl (upd (w.1 15) i v))) = picC kA ad (wI w 15 i v) := rfl
theorem setFC_15 (kA : Nat → ClassId) (ad : Nat → Nat) (w : WS) (f : Nat → Int32) : (picC kA ad w).set 15 (ad 15, .inl (kA 0, 64, .inl f)) = picC kA ad (wF w 15 f) := rfl
theorem setC_16 (kA : Nat → ClassId) (ad : Nat → Nat) (w : WS) (i : Nat) (v : Int32) : (picC kA ad w).set 16 (ad 16, .inl (kA 0, 64, .inl (upd (w.1 16) i v))) = picC kA ad (wI w 16 i v) := rfl
theorem setFC_16 (kA : Nat → ClassId) (ad : Nat → Nat) (w : WS) (f : Nat → Int32) : (picC kA ad w).set 16 (ad 16, .inl (kA 0, 64, .inl f)) = picC kA ad (wF w 16 f) := rfl
theorem setC_17 (kA : Nat → ClassId) (ad : Nat → Nat) (w : WS) (i : Nat) (v : Int32) : (picC kA ad w).set 17 (ad 17, .inl (kA 0, 32, .inl (upd (w.1 17) i v))) = picC kA ad (wI w 17 i v) := rfl
theorem setFC_17 (kA : Nat → ClassId) (ad : Nat → Nat) (w : WS) (f : Nat → Int32) : (picC kA ad w).set 17 (ad 17, .inl (kA 0, 32, .inl f)) = picC kA ad (wF w 17 f) := rfl
theorem setC_18 (kA : Nat → ClassId) (ad : Nat → Nat) (w : WS) (i : Nat) (v : Int64) : (picC kA ad w).set 18 (ad 18, .inl (kA 1, 64, .inr (.inl (vp_updL (w.2 18) i v)))) = picC kA ad (wL w 18 i v) := rfl
theorem setC_19 (kA : Nat → ClassId) (ad : Nat → Nat) (w : WS) (i : Nat) (v : Int64) : (picC kA ad w).set 19 (ad 19, .inl (kA 1, 64, .inr (.inl (vp_updL (w.2 19) i v)))) = picC kA ad (wL w 19 i v) := rfl
theorem setC_20 (kA : Nat → ClassId) (ad : Nat → Nat) (w : WS) (i : Nat) (v : Int32) : (picC kA ad w).set 20 (ad 20, .inl (kA 0, 4096, .inl (upd (w.1 20) i v))) = picC kA ad (wI w 20 i v) := rfl
theorem setFC_20 (kA : Nat → ClassId) (ad : Nat → Nat) (w : WS) (f : Nat → Int32) : (picC kA ad w).set 20 (ad 20, .inl (kA 0, 4096, .inl f)) = picC kA ad (wF w 20 f) := rfl
theorem setC_21 (kA : Nat → ClassId) (ad : Nat → Nat) (w : WS) (i : Nat) (v : Int32) : (picC kA ad w).set 21 (ad 21, .inl (kA 0, 4096, .inl (upd (w.1 21) i v))) = picC kA ad (wI w 21 i v) := rfl
theorem setFC_21 (kA : Nat → ClassId) (ad : Nat → Nat) (w : WS) (f : Nat → Int32) : (picC kA ad w).set 21 (ad 21, .inl (kA 0, 4096, .inl f)) = picC kA ad (wF w 21 f) := rfl
theorem setC_22 (kA : Nat → ClassId) (ad : Nat → Nat) (w : WS) (i : Nat) (v : Int64) : (picC kA ad w).set 22 (ad 22, .inl (kA 1, 64, .inr (.inl (vp_updL (w.2 22) i v)))) = picC kA ad (wL w 22 i v) := rfl
theorem setC_23 (kA : Nat → ClassId) (ad : Nat → Nat) (w : WS) (i : Nat) (v : Int64) : (picC kA ad w).set 23 (ad 23, .inl (kA 1, 64, .inr (.inl (vp_updL (w.2 23) i v)))) = picC kA ad (wL w 23 i v) := rfl
theorem setC_24 (kA : Nat → ClassId) (ad : Nat → Nat) (w : WS) (i : Nat) (v : Int32) : (picC kA ad w).set 24 (ad 24, .inl (kA 0, 8, .inl (upd (w.1 24) i v))) = picC kA ad (wI w 24 i v) := rfl
theorem setFC_24 (kA : Nat → ClassId) (ad : Nat → Nat) (w : WS) (f : Nat → Int32) : (picC kA ad w).set 24 (ad 24, .inl (kA 0, 8, .inl f)) = picC kA ad (wF w 24 f) := rfl
theorem setC_25 (kA : Nat → ClassId) (ad : Nat → Nat) (w : WS) (i : Nat) (v : Int32) : (picC kA ad w).set 25 (ad 25, .inl (kA 0, 512, .inl (upd (w.1 25) i v))) = picC kA ad (wI w 25 i v) := rfl
theorem setFC_25 (kA : Nat → ClassId) (ad : Nat → Nat) (w : WS) (f : Nat → Int32) : (picC kA ad w).set 25 (ad 25, .inl (kA 0, 512, .inl f)) = picC kA ad (wF w 25 f) := rfl
theorem setC_26 (kA : Nat → ClassId) (ad : Nat → Nat) (w : WS) (i : Nat) (v : Int32) : (picC kA ad w).set 26 (ad 26, .inl (kA 0, 32768, .inl (upd (w.1 26) i v))) = picC kA ad (wI w 26 i v) := rfl
theorem setFC_26 (kA : Nat → ClassId) (ad : Nat → Nat) (w : WS) (f : Nat → Int32) : (picC kA ad w).set 26 (ad 26, .inl (kA 0, 32768, .inl f)) = picC kA ad (wF w 26 f) := rfl
theorem setC_27 (kA : Nat → ClassId) (ad : Nat → Nat) (w : WS) (i : Nat) (v : Int64) : (picC kA ad w).set 27 (ad 27, .inl (kA 1, 8, .inr (.inl (vp_updL (w.2 27) i v)))) = picC kA ad (wL w 27 i v) := rfl
theorem setC_28 (kA : Nat → ClassId) (ad : Nat → Nat) (w : WS) (i : Nat) (v : Int32) : (picC kA ad w).set 28 (ad 28, .inl (kA 0, 8, .inl (upd (w.1 28) i v))) = picC kA ad (wI w 28 i v) := rfl
theorem setFC_28 (kA : Nat → ClassId) (ad : Nat → Nat) (w : WS) (f : Nat → Int32) : (picC kA ad w).set 28 (ad 28, .inl (kA 0, 8, .inl f)) = picC kA ad (wF w 28 f) := rfl
/-- the arrays of the law: from, to, weights, settings, open, uTurn, before, now, costs -/
def picL (kA : Nat → ClassId) (al : Nat → Nat) (v : WS) : va_W := [(al 0, .inl (kA 0, 9, .inl (v.1 0))), (al 1, .inl (kA 0, 9, .inl (v.1 1))), (al 2, .inl (kA 0, 9, .inl (v.1 2))), (al 3, .inl (kA 0, 81, .inl (v.1 3))), (al 4, .inl (kA 2, 9, .inl (v.1 4))), (al 5, .inl (kA 0, 1, .inl (v.1 5))), (al 6, .inl (kA 0, 81, .inl (v.1 6))), (al 7, .inl (kA 0, 81, .inl (v.1 7))), (al 8, .inl (kA 0, 9, .inl (v.1 8)))]
def picB (kA : Nat → ClassId) (al : Nat → Nat) (v : WS) : va_W := [(al 0, .inl (kA 0, 9, .inl (v.1 0))), (al 1, .inl (kA 0, 9, .inl (v.1 1))), (al 2, .inl (kA 0, 9, .inl (v.1 2)))]
theorem inW0 : ∀ w ∈ wsX00, w ∈ WG := by decide +kernel
theorem inW1 : ∀ w ∈ wsX10, w ∈ WG := by decide +kernel
theorem inW2 : ∀ w ∈ wsX20, w ∈ WG := by decide +kernel
theorem inW3 : ∀ w ∈ wsX30, w ∈ WG := by decide +kernel
end
section
/-- Arrays.fill of an int row -/
def fillF (n : Nat) (v : Int32) (f : Nat → Int32) : Nat → Int32 := fun j => if j < n then v else f j
theorem fillF_0 (v : Int32) (f : Nat → Int32) : fillF 0 v f = f := by funext j; simp [fillF]
theorem fillF_s (i : Nat) (v : Int32) (f : Nat → Int32) : upd (fillF i v f) i v = fillF (i + 1) v f := by
  funext j
  unfold upd fillF
  by_cases h : j = i
  · simp [h]
  · rw [if_neg h]
    by_cases h2 : j < i
    · rw [if_pos h2, if_pos (by omega)]
    · rw [if_neg h2, if_neg (by omega)]
abbrev rm_fill : Room := { frames := 0, cells := 0, slots := 0, locals := 0 }
section
variable {p : Program} {l : Launch} {e : Env} {s : State} {m : MethodId} {args : Array Value} {below : List Frame} {meth : Method} {c : Code} {D : va_G} {kA : Nat → ClassId} {A : Nat → Prop} {Q : State → Prop} {ad : Nat → Nat}
theorem lp_fill (X : CX p m c cJ7_fill_53178 4 s args RJ7) (hK : va_K D vwCl (tyS kA) s) {a n : Nat} (hn : n < 2 ^ 31) (f : Nat → Int32) (v : Int32) (kk : CS p l e rm_fill s m args below meth c D A 4 0 0 Q [(a, .inl (kA 0, n, .inl (fillF n v f)))] 20 [(0, .ref a), (1, .int v), (2, .int (nI n)), (3, .int (nI n))] []) :
    ∀ (k i : Nat), i + k = n → CS p l e rm_fill s m args below meth c D A 4 0 0 Q [(a, .inl (kA 0, n, .inl (fillF i v f)))] 5 [(0, .ref a), (1, .int v), (2, .int (nI i)), (3, .int (nI n))] [] := by
  intro k
  induction k with
  | zero =>
    intro i hi
    have e : i = n := by omega
    subst e
    refine x_iload_n X dJ7_fill_53178_5 2 rfl ?_
    refine x_iload_n X dJ7_fill_53178_6 3 rfl ?_
    refine x_icmp_ge_t X (tgt := 20) dJ7_fill_53178_7 (by decide) (nI_le (Nat.le_refl _) hn) ?_
    exact kk
  | succ k ih =>
    intro i hi
    have hin : vp_in (nI i) n := vp_in_nI (by omega) hn
    have hc : (nI i).toNatClampNeg = i := nI_clamp (by omega)
    refine x_iload_n X dJ7_fill_53178_5 2 rfl ?_
    refine x_iload_n X dJ7_fill_53178_6 3 rfl ?_
    refine x_icmp_ge_f X (tgt := 20) dJ7_fill_53178_7 (by decide) (nI_ge (by omega) hn) ?_
    refine x_aload_n X dJ7_fill_53178_10 0 rfl ?_
    refine x_iload_n X dJ7_fill_53178_11 2 rfl ?_
    refine x_iload_n X dJ7_fill_53178_12 1 rfl ?_
    refine x_iast X hK 0 rfl (kf := some) (u := ()) dJ7_fill_53178_13 (ck_t hin) (fun _ => [(a, .inl (kA 0, n, .inl (fillF (i + 1) v f)))]) (by rw [hc, fillF_s]; rfl) (fun _ _ => ?_)
    refine x_iinc X (kf := some) dJ7_fill_53178_14 2 rfl (by decide) (nI (i + 1)) (nI_1 i) rfl (fun z => [(2, .int z), (0, .ref a), (1, .int v), (3, .int (nI n))]) (fun _ => rfl) (fun z hz => ?_)
    cases hz
    refine x_lpick (lv2 := [(0, .ref a), (1, .int v), (2, .int (nI (i + 1))), (3, .int (nI n))]) [1, 2, 0, 3] rfl ?_
    refine x_goto X (tgt := 5) dJ7_fill_53178_17 (by decide) ?_
    exact ih (i + 1) (by omega)
end
theorem met_fill (l : Launch) (hst : l.stackTraces = false) (D : va_G) (kA : Nat → ClassId) (a n : Nat) (hn : n < 2 ^ 31) (f : Nat → Int32) (v : Int32) (sz : Nat) : Met l yJ7_fill_53178 (wsY yJ7_fill_53178 cJ7_fill_53178 4 none) rm_fill (va_Pc [.ref a, .int v] (PreG D kA [(a, .inl (kA 0, n, .inl f))] sz)) (va_Qv (fun (_ : Unit) => True) (fun _ t => PosG D (va_A [(a, .inl (kA 0, n, .inl f))] sz) [(a, .inl (kA 0, n, .inl (fillF n v f)))] t) (va_A [(a, .inl (kA 0, n, .inl f))] sz)) 0 0 (va_A [(a, .inl (kA 0, n, .inl f))] sz) := by
  refine metG (own := RJ7) hst (by decide +kernel) rfl (Nat.le_of_ble_eq_true rfl) rfl ?_
  intro p e s m below meth c X hr hlk E _
  refine x_iconst X (v := 0) dJ7_fill_53178_0 (by decide) ?_
  refine x_istore_n X (lv2 := [(2, .int 0), (0, .ref a), (1, .int v)]) dJ7_fill_53178_1 (by decide) rfl ?_
  refine x_aload_n X dJ7_fill_53178_2 1 rfl ?_
  refine x_alen X E.1.1 0 0 rfl rfl (v := nI n) rfl dJ7_fill_53178_3 ?_
  refine x_istore_n X (lv2 := [(3, .int (nI n)), (2, .int 0), (0, .ref a), (1, .int v)]) dJ7_fill_53178_4 (by decide) rfl ?_
  refine x_lpick (lv2 := [(0, .ref a), (1, .int v), (2, .int (nI 0)), (3, .int (nI n))]) [2, 3, 1, 0] (by rw [nI_0]; rfl) ?_
  have key := lp_fill (l := l) (e := e) (below := below) (meth := meth) (D := D) (kA := kA) (A := va_A [(a, .inl (kA 0, n, .inl f))] sz) (Q := MQ below (va_Qv (fun (_ : Unit) => True) (fun _ t => PosG D (va_A [(a, .inl (kA 0, n, .inl f))] sz) [(a, .inl (kA 0, n, .inl (fillF n v f)))] t) (va_A [(a, .inl (kA 0, n, .inl f))] sz)) [Value.ref a, Value.int v].toArray s 0 0 (va_A [(a, .inl (kA 0, n, .inl f))] sz)) X E.1.1 hn f v (x_vret X hr hlk rfl dJ7_fill_53178_20) n 0 (by omega)
  rw [fillF_0] at key
  exact key
section
variable {p : Program} {l : Launch} {e : Env} {s : State} {m : MethodId} {args : Array Value} {below : List Frame} {meth : Method} {c : Code} {D : va_G} {kA : Nat → ClassId} {A : Nat → Prop} {Q : State → Prop} {R : Room} {nL cells slots : Nat} {cc : ByteArray} {own : String} {ws : va_W} {pc : Nat} {lv : List (Nat × Value)} {st : List Value} {ad : Nat → Nat}
theorem x_fill (X : CX p m c cc nL s args own) (E : EX l s D kA A) {index : Nat} (h1 : Cond.methodLink own index yJ7_fill_53178 ∈ WG) (h2 : Cond.static yJ7_fill_53178 ∈ WG) (h3 : Cond.initialized yJ7_fill_53178.cls ∈ WG) (h5 : Cond.code yJ7_fill_53178 cJ7_fill_53178 4 none ∈ WG) (hfr : 1 ≤ R.frames) (hlo : 23 ≤ R.locals) (q0 : Nat) {a n : Nat} {f : Nat → Int32} {v : Int32} (he : ws[q0]? = some (a, .inl (kA 0, n, .inl f))) (hn : n < 2 ^ 31) (hd : decode cc pc = .ok (.invokestatic index, 3)) (hcs : cells ≤ R.cells ∧ slots ≤ R.slots) {α τ : Type} {u : τ} {kf : τ → α} {out : α} (hf : nm u kf = out) (ws2 : τ → va_W) (hws : ws.set q0 (a, .inl (kA 0, n, .inl (fillF n v f))) = ws2 u) (kk : ∀ u, kf u = out → CS p l e R s m args below meth c D A nL cells slots Q (ws2 u) (pc + 3) lv []) : CS p l e R s m args below meth c D A nL cells slots Q ws pc lv (.int v :: .ref a :: []) := by
  intro H locs ls hP hD hS hl
  have hone : [q0].map (fun i => ws[i]?) = ([(a, .inl (kA 0, n, .inl f))] : va_W).map some := by simp [he]
  have hPc : va_P D vwCl [(a, .inl (kA 0, n, .inl f))] H := hP.sub [q0] (by simp [he])
  have hDc : va_D A [(a, .inl (kA 0, n, .inl f))] := hD.sub [q0] rfl hone
  have hF := fr_self hDc hS E.2.2.1
  refine va_callv (va_runS (As := [.ref a, .int v]) (rest := []) X (met_fill l E.2.2.2 D kA a n hn f v H.size) (va_cwS 2 X.2.2.2.2 (goodS h1 h2 h3 h5) rfl rfl rfl (by decide +kernel) ⟨hfr, hlo⟩) ⟨pre_blind, pre_at E hPc hDc hS⟩ rfl rfl hl.1 rfl (lv_room (Nat.le_of_ble_eq_true rfl)) hd hcs) hS (fun q _ h => hF q h) hF (fun u1 t H1 locs1 ht hvm hw hB hz1 hk1 hS1 => ?_)
  obtain ⟨hP1, hD1⟩ := hB
  rw [ht] at hP1
  have hPn : va_P D vwCl (ws.set q0 (a, .inl (kA 0, n, .inl (fillF n v f)))) H1 := by
    have hlq := (List.getElem?_eq_some_iff.mp he).1
    intro k q hk
    by_cases hkp : k = q0
    · subst hkp
      rw [List.getElem?_set_self hlq] at hk
      cases hk
      exact hP1 0 _ rfl
    · rw [List.getElem?_set_ne (Ne.symm hkp)] at hk
      refine (hP k q hk).kept (hk1 q.1 (hP k q hk).lt (fun h => ?_))
      rcases h with ⟨k2, e2, h⟩ | h
      · match k2, h with
        | 0, h => cases h; exact hkp (hD.1 k q0 q _ hk he rfl)
      · have := (hP k q hk).lt
        omega
  have hDn := hD.set (e := .inl (kA 0, n, .inl (fillF n v f))) he
  rw [hws] at hPn hDn
  exact kk u hf H1 locs1 ls hPn hDn hS1 hl
end
end
section
theorem seg_at {w1 w2 w3 : va_W} {k : Nat} {q : Nat × va_E} (h : w2[k]? = some q) : (w1 ++ (w2 ++ w3))[w1.length + k]? = some q := by
  have hl := (List.getElem?_eq_some_iff.mp h).1
  rw [List.getElem?_append_right (by omega), Nat.add_sub_cancel_left, List.getElem?_append_left hl]
  exact h
theorem seg_l {w1 w2 : va_W} {k : Nat} {q : Nat × va_E} (h : w1[k]? = some q) : (w1 ++ w2)[k]? = some q := by
  rw [List.getElem?_append_left (List.getElem?_eq_some_iff.mp h).1]
  exact h
theorem seg_r {w1 w2 w3 : va_W} {k : Nat} {q : Nat × va_E} (h : w3[k]? = some q) : (w1 ++ (w2 ++ w3))[w1.length + (w2.length + k)]? = some q := by
  rw [List.getElem?_append_right (by omega), Nat.add_sub_cancel_left, List.getElem?_append_right (by omega), Nat.add_sub_cancel_left]
  exact h
/-- behind a call that has the middle of a world: the rest stays -/
theorem seg_join {A0 : Nat → Prop} {D : va_G} {w1 w2 w3 w2' : va_W} {H H1 : Heap} (hP : va_P D vwCl (w1 ++ (w2 ++ w3)) H) (hD : va_D A0 (w1 ++ (w2 ++ w3))) (hk : ∀ q : Nat, q < H.size → ¬ va_A w2 H.size q → H1[q]? = H[q]?) (hF : ∀ q, va_A w2 H.size q → A0 q) (hP1 : va_P D vwCl w2' H1) (hD1 : va_D (va_A w2 H.size) w2') : va_P D vwCl (w1 ++ (w2' ++ w3)) H1 ∧ va_D A0 (w1 ++ (w2' ++ w3)) := by
  have out : ∀ (i : Nat) (q : Nat × va_E), (w1 ++ (w2 ++ w3))[i]? = some q → (i < w1.length ∨ w1.length + w2.length ≤ i) → q.1 < H.size ∧ ¬ va_A w2 H.size q.1 := by
    intro i q hq hi
    have hl := (hP i q hq).lt
    refine ⟨hl, fun h => ?_⟩
    rcases h with ⟨k2, e, h⟩ | h
    · have h2 := (List.getElem?_eq_some_iff.mp h).1
      have := hD.1 i _ q (q.1, e) hq (seg_at (w1 := w1) (w3 := w3) h) rfl
      omega
    · omega
  have o1 : ∀ (k : Nat) (q : Nat × va_E), w1[k]? = some q → q.1 < H.size ∧ ¬ va_A w2 H.size q.1 := fun k q h => out k q (seg_l h) (Or.inl (List.getElem?_eq_some_iff.mp h).1)
  have o3 : ∀ (k : Nat) (q : Nat × va_E), w3[k]? = some q → q.1 < H.size ∧ ¬ va_A w2 H.size q.1 := fun k q h => out _ q (seg_r h) (Or.inr (by omega))
  have d1 : va_D A0 w1 := ⟨fun i j p q hi hj e => hD.1 i j p q (seg_l hi) (seg_l hj) e, fun k q h => hD.2 k q (seg_l h)⟩
  have d3 : va_D A0 w3 := ⟨fun i j p q hi hj e => by have := hD.1 _ _ p q (seg_r (w1 := w1) (w2 := w2) hi) (seg_r hj) e; omega, fun k q h => hD.2 _ q (seg_r h)⟩
  have x13 : ∀ (i j : Nat) (p q : Nat × va_E), w1[i]? = some p → w3[j]? = some q → p.1 ≠ q.1 := fun i j p q hi hj e => by
    have := hD.1 _ _ p q (seg_l hi) (seg_r (w1 := w1) (w2 := w2) hj) e
    have := (List.getElem?_eq_some_iff.mp hi).1
    omega
  refine ⟨va_P.app (fun k q h => (hP k q (seg_l h)).kept (hk q.1 (o1 k q h).1 (o1 k q h).2)) (va_P.app hP1 (fun k q h => (hP _ q (seg_r h)).kept (hk q.1 (o3 k q h).1 (o3 k q h).2))), ?_⟩
  refine va_D.app d1 (va_D.app (hD1.weaken (fun k q _ h => hF q.1 h)) d3 (fun i j p q hi hj e => (o3 j q hj).2 (by rw [← e]; exact hD1.2 i p hi))) (fun i j p q hi hj e => ?_)
  rcases List.mem_append.mp (List.mem_of_getElem? hj) with h | h
  · obtain ⟨k, hk2⟩ := List.getElem?_of_mem h
    exact (o1 i p hi).2 (by rw [e]; exact hD1.2 k q hk2)
  · obtain ⟨k, hk2⟩ := List.getElem?_of_mem h
    exact x13 i k p q hi hk2 e
theorem seg_P {D : va_G} {A : Nat → Prop} {w1 w2 w3 : va_W} {H : Heap} (hP : va_P D vwCl (w1 ++ (w2 ++ w3)) H) (hD : va_D A (w1 ++ (w2 ++ w3))) : va_P D vwCl w2 H ∧ va_D A w2 :=
  ⟨fun k q h => hP _ q (seg_at h), fun i j p q hi hj e => by have := hD.1 _ _ p q (seg_at (w1 := w1) (w3 := w3) hi) (seg_at hj) e; omega, fun k q h => hD.2 _ q (seg_at h)⟩
section SG
variable {p : Program} {l : Launch} {e : Env} {R : Room} {s : State} {m : MethodId} {args : Array Value} {below : List Frame} {meth : Method} {c : Code} {D : va_G} {kA : Nat → ClassId} {A : Nat → Prop} {nL cells slots : Nat} {Q : State → Prop} {cc : ByteArray} {own : String} {ws : va_W} {pc : Nat} {lv : List (Nat × Value)} {st : List Value}
theorem x_callVs_i (X : CX p m c cc nL s args own) (E : EX l s D kA A) {y : MethodName} {bytes : ByteArray} {maxL n index : Nat} {rm : Room} {As rest : List Value} {ret : Option FieldType} {v : Int32} {C : String} {b ci : Nat} {qc : vw_C} {fs : List Value} {u u2 : va_W} (w1 w3 : va_W) (hws : ws = w1 ++ (u ++ w3)) (hG : GoodIn WG (wsV own index C y (wsY y bytes maxL ret))) (hM : ∀ sz, Met l y (wsY y bytes maxL ret) rm (va_Pc (.ref b :: As) (PreG D kA u sz)) (va_Qi (fun (r : Int32) (_ : Unit) => r = v) (fun _ t => PosG D (va_A u sz) u2 t) (va_A u sz)) 0 0 (va_A u sz)) (hrc : rm.cells = 0) (hrs : rm.slots = 0) (hy : y.cls = C ∧ y.cls ≠ "java/lang/invoke/MethodHandle" ∧ y.cls ≠ "java/lang/invoke/VarHandle" ∧ (parseMethodDescriptor y.desc).map (fun d => d.parameters.length) = some n) (hR : rm.frames + 1 ≤ R.frames ∧ 8 + (maxL + 11) + rm.locals ≤ R.locals) (q0 : Nat) (he : u[q0]? = some (b, .inr (ci, fs))) (hc : vwCl[ci]? = some qc) (hqc : qc.1 = C) (hn : As.length = n) (hst : st = As.reverse ++ .ref b :: rest) (hcat : (rest.map fun v => v.category).sum ≤ 8) (hd : decode cc pc = .ok (.invokevirtual index, 3)) (hcs : cells ≤ R.cells ∧ slots ≤ R.slots) (ws2 : va_W) (hws2 : w1 ++ (u2 ++ w3) = ws2) (kk : CS p l e R s m args below meth c D A nL cells slots Q ws2 (pc + 3) lv (.int v :: rest)) : CS p l e R s m args below meth c D A nL cells slots Q ws pc lv st := by
  subst hws
  intro H locs ls hP hD hS hl
  obtain ⟨hPu, hDu⟩ := seg_P hP hD
  have hF := fr_self hDu hS E.2.2.1
  refine va_calli (va_runV (As := As) (rest := rest) (C := C) X (hM H.size) (cwV n X.2.2.2.2 hG rfl hrc hrs hy hR) ⟨pre_blind, hqc ▸ va_recv E.1.1 hPu hc he, pre_at E hPu hDu hS⟩ rfl hn hl.1 hst (lv_room hcat) hd hcs) hS (fun q _ h => hF q h) hF (fun r z t H1 locs1 ht hvm hw hB hz1 hk1 hS1 => ?_)
  obtain ⟨hP1, hD1⟩ := hB
  rw [ht] at hP1
  obtain ⟨hP2, hD2⟩ := seg_join hP hD hk1 hF hP1 hD1
  rw [hws2] at hP2 hD2
  subst hw; exact kk H1 locs1 ls hP2 hD2 hS1 hl
theorem x_callVs_v (X : CX p m c cc nL s args own) (E : EX l s D kA A) {y : MethodName} {bytes : ByteArray} {maxL n index : Nat} {rm : Room} {As rest : List Value} {ret : Option FieldType}  {C : String} {b ci : Nat} {qc : vw_C} {fs : List Value} {u u2 : va_W} (w1 w3 : va_W) (hws : ws = w1 ++ (u ++ w3)) (hG : GoodIn WG (wsV own index C y (wsY y bytes maxL ret))) (hM : ∀ sz, Met l y (wsY y bytes maxL ret) rm (va_Pc (.ref b :: As) (PreG D kA u sz)) (va_Qv (fun (_ : Unit) => True) (fun _ t => PosG D (va_A u sz) u2 t) (va_A u sz)) 0 0 (va_A u sz)) (hrc : rm.cells = 0) (hrs : rm.slots = 0) (hy : y.cls = C ∧ y.cls ≠ "java/lang/invoke/MethodHandle" ∧ y.cls ≠ "java/lang/invoke/VarHandle" ∧ (parseMethodDescriptor y.desc).map (fun d => d.parameters.length) = some n) (hR : rm.frames + 1 ≤ R.frames ∧ 8 + (maxL + 11) + rm.locals ≤ R.locals) (q0 : Nat) (he : u[q0]? = some (b, .inr (ci, fs))) (hc : vwCl[ci]? = some qc) (hqc : qc.1 = C) (hn : As.length = n) (hst : st = As.reverse ++ .ref b :: rest) (hcat : (rest.map fun v => v.category).sum ≤ 8) (hd : decode cc pc = .ok (.invokevirtual index, 3)) (hcs : cells ≤ R.cells ∧ slots ≤ R.slots) (ws2 : va_W) (hws2 : w1 ++ (u2 ++ w3) = ws2) (kk : CS p l e R s m args below meth c D A nL cells slots Q ws2 (pc + 3) lv rest) : CS p l e R s m args below meth c D A nL cells slots Q ws pc lv st := by
  subst hws
  intro H locs ls hP hD hS hl
  obtain ⟨hPu, hDu⟩ := seg_P hP hD
  have hF := fr_self hDu hS E.2.2.1
  refine va_callv (va_runV (As := As) (rest := rest) (C := C) X (hM H.size) (cwV n X.2.2.2.2 hG rfl hrc hrs hy hR) ⟨pre_blind, hqc ▸ va_recv E.1.1 hPu hc he, pre_at E hPu hDu hS⟩ rfl hn hl.1 hst (lv_room hcat) hd hcs) hS (fun q _ h => hF q h) hF (fun z t H1 locs1 ht hvm hw hB hz1 hk1 hS1 => ?_)
  obtain ⟨hP1, hD1⟩ := hB
  rw [ht] at hP1
  obtain ⟨hP2, hD2⟩ := seg_join hP hD hk1 hF hP1 hD1
  rw [hws2] at hP2 hD2
  exact kk H1 locs1 ls hP2 hD2 hS1 hl
theorem x_widen {k n : Nat} (h1 : cells ≤ k) (h2 : slots ≤ n) (kk : CS p l e R s m args below meth c D A nL k n Q ws pc lv st) : CS p l e R s m args below meth c D A nL cells slots Q ws pc lv st := fun H locs ls hP hD hS hl => W.widen h1 h2 (kk H locs ls hP hD hS hl)
theorem x_perm (is : List Nat) (hn : va_nd is = true) (ws2 : va_W) (h : is.map (fun i => ws[i]?) = ws2.map some) (kk : CS p l e R s m args below meth c D A nL cells slots Q ws2 pc lv st) : CS p l e R s m args below meth c D A nL cells slots Q ws pc lv st := by
  intro H locs ls hP hD hS hl
  refine kk H locs ls (hP.sub is ?_) (hD.sub is hn h) hS hl
  have key : ∀ (l1 : List (Option (Nat × va_E))) (l2 : va_W), l1 = l2.map some → l1.filterMap id = l2 := by
    intro l1 l2 e
    subst e
    induction l2 with
    | nil => rfl
    | cons a b ih => simp
  have := key _ _ h
  rw [List.filterMap_map] at this
  exact this
end SG
end
section
/-! rules for the law's own methods -/
def bxn2 {α β ε γ : Type} (x : Option ((α × β) ⊕ ε)) (k : α → β → Option γ) : Option γ := match x with
  | some (.inl q) => k q.1 q.2
  | _ => none
theorem bxn2_some {α β ε γ : Type} {x : Option ((α × β) ⊕ ε)} {k : α → β → Option γ} {o : γ} (h : bxn2 x k = some o) : ∃ a b, x = some (.inl (a, b)) ∧ k a b = some o := by
  match x, h with
  | none, h => cases h
  | some (.inl a), h => exact ⟨a.1, a.2, rfl, h⟩
  | some (.inr q), h => cases h
theorem bxn2_e {α β ε γ : Type} (a : α) (b : β) (k : α → β → Option γ) : bxn2 (some (.inl (a, b)) : Option ((α × β) ⊕ ε)) k = k a b := rfl
theorem bxr_some {α ε γ : Type} {x : Option (α ⊕ ε)} {k : α → Option (γ ⊕ ε)} {o : γ} (h : bx x (fun q => some (.inr q)) k = some (.inl o)) : ∃ a, x = some (.inl a) ∧ k a = some (.inl o) := by
  match x, h with
  | none, h => cases h
  | some (.inl a), h => exact ⟨a, rfl, h⟩
  | some (.inr q), h => cases h
section RU
variable {p : Program} {l : Launch} {e : Env} {R : Room} {s : State} {m : MethodId} {args : Array Value} {below : List Frame} {meth : Method} {c : Code} {D : va_G} {kA : Nat → ClassId} {A : Nat → Prop} {nL cells slots : Nat} {Q : State → Prop} {cc : ByteArray} {own : String} {ws : va_W} {pc : Nat} {lv : List (Nat × Value)} {st : List Value}
theorem x_irem (X : CX p m c cc nL s args own) {x y : Int32} {α : Type} {kf : Int32 → Option α} {out : α} (hd : decode cc pc = .ok (.irem, 1)) (hf : ck (¬ y = 0) (nm (x % y) kf) = some out) (kk : ∀ v, kf v = some out → CS p l e R s m args below meth c D A nL cells slots Q ws (pc + 1) lv (.int v :: st)) : CS p l e R s m args below meth c D A nL cells slots Q ws pc lv (.int y :: .int x :: st) := by
  obtain ⟨hne, hf⟩ := ck_some hf
  intro H locs ls hP hD hS hl
  refine lv_irem X.1 X.2.1 hd hne ?_
  rw [irem_eq_mod]
  exact kk _ hf H locs ls hP hD hS hl
theorem x_callSw_i (X : CX p m c cc nL s args own) (E : EX l s D kA A) {y : MethodName} {bytes : ByteArray} {maxL n index : Nat} {rm : Room} {As rest : List Value} {ret : Option FieldType} {v : Int32} {ws2 : va_W} (hG : GoodIn WG (va_wsS own index y (wsY y bytes maxL ret))) (hM : ∀ sz, Met l y (wsY y bytes maxL ret) rm (va_Pc As (PreG D kA ws sz)) (va_Qi (fun (r : Int32) (_ : Unit) => r = v) (fun _ t => PosG D (va_A ws sz) ws2 t) (va_A ws sz)) 0 0 (va_A ws sz)) (hrc : rm.cells = 0) (hrs : rm.slots = 0) (hy : y.cls ≠ "java/lang/invoke/MethodHandle" ∧ y.cls ≠ "java/lang/invoke/VarHandle" ∧ (parseMethodDescriptor y.desc).map (fun d => d.parameters.length) = some n) (hR : rm.frames + 1 ≤ R.frames ∧ 8 + (maxL + 11) + rm.locals ≤ R.locals) (hn : As.length = n) (hst : st = As.reverse ++ rest) (hcat : (rest.map fun v => v.category).sum ≤ 8) (hd : decode cc pc = .ok (.invokestatic index, 3)) (hcs : cells ≤ R.cells ∧ slots ≤ R.slots) (kk : CS p l e R s m args below meth c D A nL cells slots Q ws2 (pc + 3) lv (.int v :: rest)) : CS p l e R s m args below meth c D A nL cells slots Q ws pc lv st := by
  intro H locs ls hP hD hS hl
  have hF := fr_self hD hS E.2.2.1
  refine va_calli (va_runS (As := As) (rest := rest) X (hM H.size) (va_cwS n X.2.2.2.2 hG rfl hrc hrs hy hR) ⟨pre_blind, pre_at E hP hD hS⟩ rfl hn hl.1 hst (lv_room hcat) hd hcs) hS (fun q _ h => hF q h) hF (fun r u t H1 locs1 ht hvm hw hB hz1 hk1 hS1 => ?_)
  obtain ⟨hP1, hD1⟩ := hB
  rw [ht] at hP1
  subst hw; exact kk H1 locs1 ls hP1 (hD1.weaken (fun _ q _ h => hF q.1 h)) hS1 hl
theorem x_callSw_v (X : CX p m c cc nL s args own) (E : EX l s D kA A) {y : MethodName} {bytes : ByteArray} {maxL n index : Nat} {rm : Room} {As rest : List Value} {ret : Option FieldType} {ws2 : va_W} (hG : GoodIn WG (va_wsS own index y (wsY y bytes maxL ret))) (hM : ∀ sz, Met l y (wsY y bytes maxL ret) rm (va_Pc As (PreG D kA ws sz)) (va_Qv (fun (_ : Unit) => True) (fun _ t => PosG D (va_A ws sz) ws2 t) (va_A ws sz)) 0 0 (va_A ws sz)) (hrc : rm.cells = 0) (hrs : rm.slots = 0) (hy : y.cls ≠ "java/lang/invoke/MethodHandle" ∧ y.cls ≠ "java/lang/invoke/VarHandle" ∧ (parseMethodDescriptor y.desc).map (fun d => d.parameters.length) = some n) (hR : rm.frames + 1 ≤ R.frames ∧ 8 + (maxL + 11) + rm.locals ≤ R.locals) (hn : As.length = n) (hst : st = As.reverse ++ rest) (hcat : (rest.map fun v => v.category).sum ≤ 8) (hd : decode cc pc = .ok (.invokestatic index, 3)) (hcs : cells ≤ R.cells ∧ slots ≤ R.slots) (kk : CS p l e R s m args below meth c D A nL cells slots Q ws2 (pc + 3) lv rest) : CS p l e R s m args below meth c D A nL cells slots Q ws pc lv st := by
  intro H locs ls hP hD hS hl
  have hF := fr_self hD hS E.2.2.1
  refine va_callv (va_runS (As := As) (rest := rest) X (hM H.size) (va_cwS n X.2.2.2.2 hG rfl hrc hrs hy hR) ⟨pre_blind, pre_at E hP hD hS⟩ rfl hn hl.1 hst (lv_room hcat) hd hcs) hS (fun q _ h => hF q h) hF (fun u t H1 locs1 ht hvm hw hB hz1 hk1 hS1 => ?_)
  obtain ⟨hP1, hD1⟩ := hB
  rw [ht] at hP1
  exact kk H1 locs1 ls hP1 (hD1.weaken (fun _ q _ h => hF q.1 h)) hS1 hl
/-- the script, seen from a later heap -/
theorem scr_at {b L : Nat} {xs : Nat → Int32} (hX : va_X b L xs s s.heap) (hbl : b < s.heap.size) (hbA : ¬ A b) {H : Heap} {locs : List Loc} (hS : va_S A s.heap H locs) {U : State} (hU : U.heap = H) (hW : s.WarmedH U.vm) : va_X b L xs U U.heap ∧ b < U.heap.size := by
  rw [hU]
  exact ⟨(hX.moved hW.alike).kept (hS.2.1 b hbl hbA), Nat.lt_of_lt_of_le hbl hS.1⟩
/-- a call of cell -/
theorem x_callSx (X : CX p m c cc nL s args own) {b L : Nat} {xs : Nat → Int32} (hX : va_X b L xs s s.heap) (hbl : b < s.heap.size) (hbA : ¬ A b) {y : MethodName} {bytes : ByteArray} {maxL n index : Nat} {rm : Room} {As rest : List Value} {ret : Option FieldType} {v : Int32} (hG : GoodIn WG (va_wsS own index y (wsY y bytes maxL ret))) (hM : Met l y (wsY y bytes maxL ret) rm (va_Pc As (fun U => va_X b L xs U U.heap ∧ b < U.heap.size)) (va_Qi (fun (r : Int32) (_ : Unit) => r = v) (fun _ _ => True) (fun _ => False)) 0 0 (fun _ => False)) (hrc : rm.cells = 0) (hrs : rm.slots = 0) (hy : y.cls ≠ "java/lang/invoke/MethodHandle" ∧ y.cls ≠ "java/lang/invoke/VarHandle" ∧ (parseMethodDescriptor y.desc).map (fun d => d.parameters.length) = some n) (hR : rm.frames + 1 ≤ R.frames ∧ 8 + (maxL + 11) + rm.locals ≤ R.locals) (hn : As.length = n) (hst : st = As.reverse ++ rest) (hcat : (rest.map fun v => v.category).sum ≤ 8) (hd : decode cc pc = .ok (.invokestatic index, 3)) (hcs : cells ≤ R.cells ∧ slots ≤ R.slots) (kk : CS p l e R s m args below meth c D A nL cells slots Q ws (pc + 3) lv (.int v :: rest)) : CS p l e R s m args below meth c D A nL cells slots Q ws pc lv st := by
  intro H locs ls hP hD hS hl
  refine va_calli (va_runS (As := As) (rest := rest) X hM (va_cwS n X.2.2.2.2 hG rfl hrc hrs hy hR) ⟨fun a U g mk h => ⟨h.1, va_X.moved (u := U) (U := U.calling g mk a) (Vm.Alike.refl U.vm) h.2.1, h.2.2⟩, fun U hU hW => ⟨rfl, scr_at hX hbl hbA hS hU hW⟩⟩ rfl hn hl.1 hst (lv_room hcat) hd hcs) hS (fun q _ h => h.elim) (fun q h => h.elim) (fun r u t H1 locs1 ht hvm hw hB hz1 hk1 hS1 => ?_)
  have hP1 : va_P D vwCl ws H1 := hP.kept (fun k q hq => hk1 q.1 (hP k q hq).lt (fun h => h.elim))
  subst hw; exact kk H1 locs1 ls hP1 hD hS1 hl
/-- a call of build: its world and the script -/
theorem x_callSwx_i (X : CX p m c cc nL s args own) (E : EX l s D kA A) {b L : Nat} {xs : Nat → Int32} (hX : va_X b L xs s s.heap) (hbl : b < s.heap.size) (hbA : ¬ A b) {y : MethodName} {bytes : ByteArray} {maxL n index : Nat} {rm : Room} {As rest : List Value} {ret : Option FieldType} {v : Int32} {ws2 : va_W} (hG : GoodIn WG (va_wsS own index y (wsY y bytes maxL ret))) (hM : ∀ sz, Met l y (wsY y bytes maxL ret) rm (va_Pc As (fun U => PreG D kA ws sz U ∧ va_X b L xs U U.heap ∧ b < U.heap.size ∧ ¬ va_A ws sz b)) (va_Qi (fun (r : Int32) (_ : Unit) => r = v) (fun _ t => PosG D (va_A ws sz) ws2 t) (va_A ws sz)) 0 0 (va_A ws sz)) (hrc : rm.cells = 0) (hrs : rm.slots = 0) (hy : y.cls ≠ "java/lang/invoke/MethodHandle" ∧ y.cls ≠ "java/lang/invoke/VarHandle" ∧ (parseMethodDescriptor y.desc).map (fun d => d.parameters.length) = some n) (hR : rm.frames + 1 ≤ R.frames ∧ 8 + (maxL + 11) + rm.locals ≤ R.locals) (hn : As.length = n) (hst : st = As.reverse ++ rest) (hcat : (rest.map fun v => v.category).sum ≤ 8) (hd : decode cc pc = .ok (.invokestatic index, 3)) (hcs : cells ≤ R.cells ∧ slots ≤ R.slots) (kk : CS p l e R s m args below meth c D A nL cells slots Q ws2 (pc + 3) lv (.int v :: rest)) : CS p l e R s m args below meth c D A nL cells slots Q ws pc lv st := by
  intro H locs ls hP hD hS hl
  have hF := fr_self hD hS E.2.2.1
  have hno : ¬ va_A ws H.size b := fun h => hbA (hF b h)
  refine va_calli (va_runS (As := As) (rest := rest) X (hM H.size) (va_cwS n X.2.2.2.2 hG rfl hrc hrs hy hR) ⟨fun a U g mk h => ⟨h.1, (pre_blind a U g mk ⟨h.1, h.2.1⟩).2, va_X.moved (u := U) (U := U.calling g mk a) (Vm.Alike.refl U.vm) h.2.2.1, h.2.2.2⟩, fun U hU hW => ⟨rfl, (pre_at (As := As) E hP hD hS U hU hW).2, (scr_at hX hbl hbA hS hU hW).1, (scr_at hX hbl hbA hS hU hW).2, hno⟩⟩ rfl hn hl.1 hst (lv_room hcat) hd hcs) hS (fun q _ h => hF q h) hF (fun r u t H1 locs1 ht hvm hw hB hz1 hk1 hS1 => ?_)
  obtain ⟨hP1, hD1⟩ := hB
  rw [ht] at hP1
  subst hw; exact kk H1 locs1 ls hP1 (hD1.weaken (fun _ q _ h => hF q.1 h)) hS1 hl
end RU
/-- build, from its entry -/
theorem metGx {l : Launch} {D : va_G} {kA : Nat → ClassId} {ws : va_W} {sz b L : Nat} {xs : Nat → Int32} {y : MethodName} {cc : ByteArray} {maxL : Nat} {ret : Option FieldType} {rm : Room} {As : List Value} {Qc : Array Value → State → Outcome → State → Prop} {mc ms : Nat} {lv0 : List (Nat × Value)} {own : String} (hst : l.stackTraces = false) (hy : plainName y.cls = true) (hown : y.cls = own) (hcat : (lg_sl As).length ≤ maxL) (hlv : lv_args 0 As = lv0)
    (body : ∀ (p : Program) (e : Env) (s : State) (m : MethodId) (below : List Frame) (meth : Method) (c : Code), CX p m c cc maxL s As.toArray own → meth.sig.returnType = ret → meth.locks = false → EX l s D kA (va_A ws sz) → va_X b L xs s s.heap → b < s.heap.size → ¬ va_A ws sz b → CS p l e rm s m As.toArray below meth c D (va_A ws sz) maxL 0 0 (MQ below Qc As.toArray s mc ms (va_A ws sz)) ws 0 lv0 []) :
    Met l y (wsY y cc maxL ret) rm (va_Pc As (fun U => PreG D kA ws sz U ∧ va_X b L xs U U.heap ∧ b < U.heap.size ∧ ¬ va_A ws sz b)) Qc mc ms (va_A ws sz) := by
  refine Met.ofW (cc := cc) (maxL := maxL) (ret := ret) hy rfl ?_
  intro p e s m args below meth c s₁ B hml hv
  obtain ⟨rfl, ⟨hsz, hP, hD0, hE, hZ⟩, hX, hbl, hbA⟩ := hv
  have hts := atoms_spec (ws := wsY y cc maxL ret) B.pre
  rw [lg_entry_eq]
  have hl := lv_entry As hcat
  rw [hlv] at hl
  subst hsz
  subst hown
  exact body p e s m below meth c ⟨B.exec, B.bytes, hml, findClass_of_methodNamed B.named, fun w h => hts w (List.mem_cons_of_mem _ h)⟩ B.returns B.notSynchronized ⟨hE, hZ, fun q h => Or.inr h, hst⟩ hX hbl hbA s.heap [] _ hP hD0.self va_S.rf hl
theorem x_sld {p : Program} {l : Launch} {e : Env} {R : Room} {s : State} {m : MethodId} {args : Array Value} {below : List Frame} {meth : Method} {c : Code} {D : va_G} {A : Nat → Prop} {nL cells slots : Nat} {Q : State → Prop} {cc : ByteArray} {own : String} {ws : va_W} {pc : Nat} {lv : List (Nat × Value)} {st : List Value} (X : CX p m c cc nL s args own) {b L : Nat} {xs : Nat → Int32} (hX : va_X b L xs s s.heap) (hbl : b < s.heap.size) (hbA : ¬ A b) {i : Int32} (hin : vp_in i L) (hd : decode cc pc = .ok (.iaload, 1)) (kk : CS p l e R s m args below meth c D A nL cells slots Q ws (pc + 1) lv (.int (xs i.toNatClampNeg) :: st)) : CS p l e R s m args below meth c D A nL cells slots Q ws pc lv (.int i :: .ref b :: st) := fun H locs ls hP hD hS hl => va_sld X.1 X.2.1 hX hbl hbA hS hin hd (kk H locs ls hP hD hS hl)
theorem x_slen {p : Program} {l : Launch} {e : Env} {R : Room} {s : State} {m : MethodId} {args : Array Value} {below : List Frame} {meth : Method} {c : Code} {D : va_G} {A : Nat → Prop} {nL cells slots : Nat} {Q : State → Prop} {cc : ByteArray} {own : String} {ws : va_W} {pc : Nat} {lv : List (Nat × Value)} {st : List Value} (X : CX p m c cc nL s args own) {b L : Nat} {xs : Nat → Int32} (hX : va_X b L xs s s.heap) (hbl : b < s.heap.size) (hbA : ¬ A b) (hd : decode cc pc = .ok (.arraylength, 1)) (kk : CS p l e R s m args below meth c D A nL cells slots Q ws (pc + 1) lv (.int (Int32.ofNat L) :: st)) : CS p l e R s m args below meth c D A nL cells slots Q ws pc lv (.ref b :: st) := fun H locs ls hP hD hS hl => va_slen X.1 X.2.1 hX hbl hbA hS hd (kk H locs ls hP hD hS hl)
end
section
noncomputable def f_J13_bitCount_95d88 (fu : Nat) (a0 : Int64) : Option Int32 :=
  nm ((a0 - ((Int64.toUInt64 a0 >>> (Int64.toUInt64 (Int32.toInt64 1) &&& Int64.toUInt64 63)).toInt64 &&& 6148914691236517205))) fun x1 =>
  nm (((x1 &&& 3689348814741910323) + ((Int64.toUInt64 x1 >>> (Int64.toUInt64 (Int32.toInt64 2) &&& Int64.toUInt64 63)).toInt64 &&& 3689348814741910323))) fun x2 =>
  nm (((x2 + (Int64.toUInt64 x2 >>> (Int64.toUInt64 (Int32.toInt64 4) &&& Int64.toUInt64 63)).toInt64) &&& 1085102592571150095)) fun x3 =>
  nm ((x3 + (Int64.toUInt64 x3 >>> (Int64.toUInt64 (Int32.toInt64 8) &&& Int64.toUInt64 63)).toInt64)) fun x4 =>
  nm ((x4 + (Int64.toUInt64 x4 >>> (Int64.toUInt64 (Int32.toInt64 16) &&& Int64.toUInt64 63)).toInt64)) fun x5 =>
  nm ((x5 + (Int64.toUInt64 x5 >>> (Int64.toUInt64 (Int32.toInt64 32) &&& Int64.toUInt64 63)).toInt64)) fun x6 =>
  some ((Int64.toInt32 x6) &&& 127)

noncomputable def f_X2_followersOf (fu : Nat) (w : WS) (a1 : Int32) : Option Int64 :=
  ck (vp_in a1 64) <| nm (w.1 10 (Int32.toNatClampNeg a1)) fun x1 =>
  ck (vp_in x1 32) <| nm (w.2 13 (Int32.toNatClampNeg x1)) fun x2 =>
  some x2

noncomputable def f_X2_forerunnersOf (fu : Nat) (w : WS) (a1 : Int32) : Option Int64 :=
  ck (vp_in a1 64) <| nm (w.1 9 (Int32.toNatClampNeg a1)) fun x1 =>
  ck (vp_in x1 32) <| nm (w.2 14 (Int32.toNatClampNeg x1)) fun x2 =>
  some x2

noncomputable def bd_X0_linkTurns_4 (fu : Nat)  (y1 : Int32) (y2 : Int32) (w : WS) : Option ((Int32 × Int32 × WS) ⊕ (Int32 × WS)) :=
  nm (w.1 2 2) fun x1 =>
  if x1 ≤ y2 then
    some (.inr (y1, w))
  else
    bn (f_X2_followersOf fu w y2) fun x2 =>
    ck (vp_in y2 64) <| nm (wL w 18 (Int32.toNatClampNeg y2) x2) fun w3 =>
    bn (f_X2_forerunnersOf fu w3 y2) fun x4 =>
    ck (vp_in y2 64) <| nm (wL w3 19 (Int32.toNatClampNeg y2) x4) fun w5 =>
    ck (vp_in y2 64) <| nm (w5.2 18 (Int32.toNatClampNeg y2)) fun x6 =>
    bn (f_J13_bitCount_95d88 fu x6) fun x7 =>
    nm ((y1 + x7)) fun x8 =>
    nm (y2 + 1) fun x9 =>
    some (.inl (x8, x9, w5))

noncomputable def f_X0_linkTurns (fu : Nat) (w : WS)  : Option (Int32 × WS) :=
  bn2 (iter (fun q => bd_X0_linkTurns_4 fu q.1 q.2.1 q.2.2) fu ((0 : Int32), (0 : Int32), w)) fun x1 w2 =>
  some (x1, w2)

noncomputable def f_X3_only (fu : Nat) (a0 : Int32) : Option Int64 :=
  some ((1 : Int64) <<< (Int32.toInt64 a0 &&& 63))

noncomputable def f_X2_allRoads (fu : Nat) (w : WS)  : Option Int64 :=
  nm (w.1 1 1) fun x1 =>
  if x1 < 64 then
    nm (w.1 1 1) fun x2 =>
    bn (f_X3_only fu x2) fun x3 =>
    some (x3 - 1)
  else
    some ((-1) : Int64)

noncomputable def f_X3_has (fu : Nat) (a0 : Int64) (a2 : Int32) : Option Int32 :=
  if (lg_cmp ((a0 >>> (Int32.toInt64 a2 &&& 63)) &&& 1) 0) = 0 then
    some (0 : Int32)
  else
    some (1 : Int32)

noncomputable def bd_X0_cheapest_9 (fu : Nat) (w : WS) (y1 : Int64) (y3 : Int32) (y4 : Int32) (y5 : Int32) : Option ((Int32 × Int32 × Int32) ⊕ (Int32)) :=
  nm (w.1 2 2) fun x1 =>
  if x1 ≤ y5 then
    some (.inr (y3))
  else
    bn (f_X3_has fu y1 y5) fun x2 =>
    if x2 = 0 then
      nm (y5 + 1) fun x3 =>
      some (.inl (y3, y4, x3))
    else
      ck (vp_in y5 64) <| nm (w.2 19 (Int32.toNatClampNeg y5)) fun x4 =>
      bn (f_J13_bitCount_95d88 fu (x4 &&& y1)) fun x5 =>
      ck (vp_in y5 64) <| nm (w.2 18 (Int32.toNatClampNeg y5)) fun x6 =>
      bn (f_J13_bitCount_95d88 fu (x6 &&& y1)) fun x7 =>
      if y4 ≤ (x5 * x7) then
        nm (y5 + 1) fun x8 =>
        some (.inl (y3, y4, x8))
      else
        nm ((x5 * x7)) fun x9 =>
        nm (y5 + 1) fun x10 =>
        some (.inl (y5, x9, x10))

noncomputable def f_X0_cheapest (fu : Nat) (w : WS) (a1 : Int64) : Option Int32 :=
  bn (iter (fun q => bd_X0_cheapest_9 fu w a1 q.1 q.2.1 q.2.2) fu ((0 : Int32), (536870912 : Int32), (0 : Int32))) fun x1 =>
  some x1

noncomputable def bd_X0_bridge_3 (fu : Nat) (y1 : Int64) (y3 : Int64) (y5 : Int32) (w : WS) : Option ((Int32 × WS) ⊕ (WS)) :=
  nm (w.1 2 2) fun x1 =>
  if x1 ≤ y5 then
    some (.inr (w))
  else
    bn (f_X3_has fu y1 y5) fun x2 =>
    if x2 = 0 then
      bn (f_X3_has fu y3 y5) fun x3 =>
      if x3 = 0 then
        nm (y5 + 1) fun x4 =>
        some (.inl (x4, w))
      else
        ck (vp_in y5 64) <| nm (w.2 19 (Int32.toNatClampNeg y5)) fun x5 =>
        bn (f_X3_only fu y5) fun x6 =>
        ck (vp_in y5 64) <| nm (wL w 19 (Int32.toNatClampNeg y5) (x5 ||| (y1 &&& (x6 ^^^ (-1))))) fun w7 =>
        nm (y5 + 1) fun x8 =>
        some (.inl (x8, w7))
    else
      ck (vp_in y5 64) <| nm (w.2 18 (Int32.toNatClampNeg y5)) fun x9 =>
      bn (f_X3_only fu y5) fun x10 =>
      ck (vp_in y5 64) <| nm (wL w 18 (Int32.toNatClampNeg y5) (x9 ||| (y3 &&& (x10 ^^^ (-1))))) fun w11 =>
      bn (f_X3_has fu y3 y5) fun x12 =>
      if x12 = 0 then
        nm (y5 + 1) fun x13 =>
        some (.inl (x13, w11))
      else
        ck (vp_in y5 64) <| nm (w11.2 19 (Int32.toNatClampNeg y5)) fun x14 =>
        bn (f_X3_only fu y5) fun x15 =>
        ck (vp_in y5 64) <| nm (wL w11 19 (Int32.toNatClampNeg y5) (x14 ||| (y1 &&& (x15 ^^^ (-1))))) fun w16 =>
        nm (y5 + 1) fun x17 =>
        some (.inl (x17, w16))

noncomputable def f_X0_bridge (fu : Nat) (w : WS) (a1 : Int64) (a3 : Int64) : Option WS :=
  bn (iter (fun q => bd_X0_bridge_3 fu a1 a3 q.1 q.2) fu ((0 : Int32), w)) fun w1 =>
  some w1

noncomputable def f_X3_pair (fu : Nat) (a0 : Int32) (a1 : Int32) : Option Int32 :=
  some ((a0 * 64) + a1)

noncomputable def f_X2_penaltyOf (fu : Nat) (w : WS) (a1 : Int32) (a2 : Int32) : Option Int32 :=
  bn (f_X3_pair fu a1 a2) fun x1 =>
  ck (vp_in x1 4096) <| nm (w.1 12 (Int32.toNatClampNeg x1)) fun x2 =>
  if x2 = (-2) then
    ck (vp_in a2 64) <| nm (w.1 10 (Int32.toNatClampNeg a2)) fun x3 =>
    ck (vp_in a1 64) <| nm (w.1 9 (Int32.toNatClampNeg a1)) fun x4 =>
    if x3 = x4 then
      nm (w.1 1 9) fun x5 =>
      some x5
    else
      some (0 : Int32)
  else
    some x2

noncomputable def f_X2_roadLength (fu : Nat) (w : WS) (a1 : Int32) : Option Int32 :=
  ck (vp_in a1 64) <| nm (w.1 11 (Int32.toNatClampNeg a1)) fun x1 =>
  some ((x1 <<< ((7 : Int32) &&& 31)) + 1)

noncomputable def f_X2_stepLength (fu : Nat) (w : WS) (a1 : Int32) (a2 : Int32) : Option Int32 :=
  bn (f_X2_penaltyOf fu w a1 a2) fun x1 =>
  if x1 = (-1) then
    some (536870912 : Int32)
  else
    nm (w.2 1 8) fun x2 =>
    bn (f_X3_has fu x2 a1) fun x3 =>
    if x3 = 0 then
      some (536870912 : Int32)
    else
      nm (w.2 1 8) fun x4 =>
      bn (f_X3_has fu x4 a2) fun x5 =>
      if x5 = 0 then
        some (536870912 : Int32)
      else
        bn (f_X2_roadLength fu w a2) fun x6 =>
        some ((x1 <<< ((7 : Int32) &&& 31)) + x6)

noncomputable def f_X0_markArc (fu : Nat) (w : WS) (a1 : Int32) (a2 : Int32) : Option WS :=
  ck (vp_in a1 64) <| nm (w.1 15 (Int32.toNatClampNeg a1)) fun x1 =>
  ck (vp_in a2 64) <| nm (w.1 15 (Int32.toNatClampNeg a2)) fun x2 =>
  if x2 ≤ x1 then
    ck (vp_in a2 64) <| nm (w.2 23 (Int32.toNatClampNeg a2)) fun x3 =>
    bn (f_X3_only fu a1) fun x4 =>
    ck (vp_in a2 64) <| nm (wL w 23 (Int32.toNatClampNeg a2) (x3 ||| x4)) fun w5 =>
    some w5
  else
    ck (vp_in a1 64) <| nm (w.2 22 (Int32.toNatClampNeg a1)) fun x6 =>
    bn (f_X3_only fu a2) fun x7 =>
    ck (vp_in a1 64) <| nm (wL w 22 (Int32.toNatClampNeg a1) (x6 ||| x7)) fun w8 =>
    some w8

noncomputable def bd_X0_renewStepsFrom_3 (fu : Nat) (y1 : Int32) (y2 : Int64) (y4 : Int32) (w : WS) : Option ((Int32 × WS) ⊕ (WS)) :=
  nm (w.1 2 2) fun x1 =>
  if x1 ≤ y4 then
    some (.inr (w))
  else
    bn (f_X3_has fu y2 y4) fun x2 =>
    if x2 = 0 then
      nm (y4 + 1) fun x3 =>
      some (.inl (x3, w))
    else
      bn (f_X2_stepLength fu w y1 y4) fun x4 =>
      bn (f_X3_pair fu y1 y4) fun x5 =>
      ck (vp_in x5 4096) <| nm (w.1 21 (Int32.toNatClampNeg x5)) fun x6 =>
      if x4 = x6 then
        nm (y4 + 1) fun x7 =>
        some (.inl (x7, w))
      else
        bn (f_X3_pair fu y1 y4) fun x8 =>
        ck (vp_in x8 4096) <| nm (wI w 21 (Int32.toNatClampNeg x8) x4) fun w9 =>
        bn (f_X0_markArc fu w9 y1 y4) fun w10 =>
        nm (y4 + 1) fun x11 =>
        some (.inl (x11, w10))

noncomputable def f_X0_renewStepsFrom (fu : Nat) (w : WS) (a1 : Int32) (a2 : Int64) : Option WS :=
  bn (iter (fun q => bd_X0_renewStepsFrom_3 fu a1 a2 q.1 q.2) fu ((0 : Int32), w)) fun w1 =>
  some w1

noncomputable def bd_X0_renewSteps_3 (fu : Nat) (y1 : Int64) (y3 : Int64) (y5 : Int32) (w : WS) : Option ((Int32 × WS) ⊕ (WS)) :=
  nm (w.1 2 2) fun x1 =>
  if x1 ≤ y5 then
    some (.inr (w))
  else
    bn (f_X3_has fu y1 y5) fun x2 =>
    if x2 = 0 then
      nm (y5 + 1) fun x3 =>
      some (.inl (x3, w))
    else
      bn (f_X2_followersOf fu w y5) fun x4 =>
      bn (f_X0_renewStepsFrom fu w y5 (x4 &&& y3)) fun w5 =>
      nm (y5 + 1) fun x6 =>
      some (.inl (x6, w5))

noncomputable def f_X0_renewSteps (fu : Nat) (w : WS) (a1 : Int64) (a3 : Int64) : Option WS :=
  bn (iter (fun q => bd_X0_renewSteps_3 fu a1 a3 q.1 q.2) fu ((0 : Int32), w)) fun w1 =>
  some w1

noncomputable def bd_X0_computeArc_46 (fu : Nat) (w : WS) (y1 : Int32) (y2 : Int32) (y4 : Int64) (y6 : Int32) (y3 : Int32) (y7 : Int32) : Option ((Int32 × Int32) ⊕ (Int32)) :=
  if y6 ≤ y7 then
    some (.inr (y3))
  else
    ck (vp_in y7 64) <| nm (w.1 16 (Int32.toNatClampNeg y7)) fun x1 =>
    bn (f_X3_has fu y4 x1) fun x2 =>
    if x2 = 0 then
      nm (y7 + 1) fun x3 =>
      some (.inl (y3, x3))
    else
      bn (f_X3_pair fu y1 x1) fun x4 =>
      ck (vp_in x4 4096) <| nm (w.1 20 (Int32.toNatClampNeg x4)) fun x5 =>
      bn (f_X3_pair fu x1 y2) fun x6 =>
      ck (vp_in x6 4096) <| nm (w.1 20 (Int32.toNatClampNeg x6)) fun x7 =>
      nm ((x5 + x7)) fun x8 =>
      nm ((if x8 < y3 then x8 else y3)) fun x9 =>
      nm (y7 + 1) fun x10 =>
      some (.inl (x9, x10))

noncomputable def f_X0_computeArc (fu : Nat) (w : WS) (a1 : Int32) (a2 : Int32) : Option Int32 :=
  bn (f_X3_pair fu a1 a2) fun x1 =>
  ck (vp_in x1 4096) <| nm (w.1 21 (Int32.toNatClampNeg x1)) fun x2 =>
  ck (vp_in a1 64) <| nm (w.2 18 (Int32.toNatClampNeg a1)) fun x3 =>
  ck (vp_in a2 64) <| nm (w.2 19 (Int32.toNatClampNeg a2)) fun x4 =>
  nm ((x3 &&& x4)) fun x5 =>
  ck (vp_in a1 64) <| nm (w.1 15 (Int32.toNatClampNeg a1)) fun x6 =>
  ck (vp_in a2 64) <| nm (w.1 15 (Int32.toNatClampNeg a2)) fun x7 =>
  nm ((if x7 < x6 then x7 else x6)) fun x8 =>
  bn (iter (fun q => bd_X0_computeArc_46 fu w a1 a2 x5 x8 q.1 q.2) fu (x2, (0 : Int32))) fun x9 =>
  some x9

noncomputable def bd_X0_markAbove_85 (fu : Nat) (y1 : Int32) (y2 : Int32) (y3 : Int32) (w : WS) : Option ((Int32 × WS) ⊕ (WS)) :=
  nm (w.1 2 2) fun x1 =>
  if x1 ≤ y3 then
    some (.inr (w))
  else
    ck (vp_in y3 64) <| nm (w.1 16 (Int32.toNatClampNeg y3)) fun x2 =>
    if x2 = y1 then
      nm (y3 + 1) fun x3 =>
      some (.inl (x3, w))
    else
      ck (vp_in y2 64) <| nm (w.2 18 (Int32.toNatClampNeg y2)) fun x4 =>
      bn (f_X3_has fu x4 x2) fun x5 =>
      if x5 = 0 then
        nm (y3 + 1) fun x6 =>
        some (.inl (x6, w))
      else
        bn (f_X0_markArc fu w y1 x2) fun w7 =>
        nm (y3 + 1) fun x8 =>
        some (.inl (x8, w7))

noncomputable def bd_X0_markAbove_24 (fu : Nat) (y1 : Int32) (y2 : Int32) (y3 : Int32) (w : WS) : Option ((Int32 × WS) ⊕ (WS)) :=
  nm (w.1 2 2) fun x1 =>
  if x1 ≤ y3 then
    some (.inr (w))
  else
    ck (vp_in y3 64) <| nm (w.1 16 (Int32.toNatClampNeg y3)) fun x2 =>
    if x2 = y2 then
      nm (y3 + 1) fun x3 =>
      some (.inl (x3, w))
    else
      ck (vp_in y1 64) <| nm (w.2 19 (Int32.toNatClampNeg y1)) fun x4 =>
      bn (f_X3_has fu x4 x2) fun x5 =>
      if x5 = 0 then
        nm (y3 + 1) fun x6 =>
        some (.inl (x6, w))
      else
        bn (f_X0_markArc fu w x2 y2) fun w7 =>
        nm (y3 + 1) fun x8 =>
        some (.inl (x8, w7))

noncomputable def f_X0_markAbove (fu : Nat) (w : WS) (a1 : Int32) (a2 : Int32) : Option WS :=
  ck (vp_in a1 64) <| nm (w.1 15 (Int32.toNatClampNeg a1)) fun x1 =>
  ck (vp_in a2 64) <| nm (w.1 15 (Int32.toNatClampNeg a2)) fun x2 =>
  if x2 ≤ x1 then
    ck (vp_in a2 64) <| nm (w.1 15 (Int32.toNatClampNeg a2)) fun x3 =>
    nm ((x3 + 1)) fun x4 =>
    bn (iter (fun q => bd_X0_markAbove_85 fu a1 a2 q.1 q.2) fu (x4, w)) fun w5 =>
    some w5
  else
    ck (vp_in a1 64) <| nm (w.1 15 (Int32.toNatClampNeg a1)) fun x7 =>
    nm ((x7 + 1)) fun x8 =>
    bn (iter (fun q => bd_X0_markAbove_24 fu a1 a2 q.1 q.2) fu (x8, w)) fun w9 =>
    some w9

noncomputable def f_X3_costOf (fu : Nat) (a0 : Int32) : Option Int32 :=
  if a0 < 536870912 then
    some (a0 >>> ((7 : Int32) &&& 31))
  else
    some ((-1) : Int32)

noncomputable def f_X0_settleArc (fu : Nat) (w : WS) (a1 : Int32) (a2 : Int32) : Option (Int32 × WS) :=
  bn (f_X3_pair fu a1 a2) fun x1 =>
  ck (vp_in x1 4096) <| nm (w.1 20 (Int32.toNatClampNeg x1)) fun x2 =>
  bn (f_X0_computeArc fu w a1 a2) fun x3 =>
  if x3 = x2 then
    bn (f_X3_costOf fu x3) fun x4 =>
    bn (f_X3_costOf fu x2) fun x5 =>
    if x4 = x5 then
      some ((0 : Int32), w)
    else
      some ((1 : Int32), w)
  else
    bn (f_X3_pair fu a1 a2) fun x6 =>
    ck (vp_in x6 4096) <| nm (wI w 20 (Int32.toNatClampNeg x6) x3) fun w7 =>
    bn (f_X0_markAbove fu w7 a1 a2) fun w8 =>
    bn (f_X3_costOf fu x3) fun x9 =>
    bn (f_X3_costOf fu x2) fun x10 =>
    if x9 = x10 then
      some ((0 : Int32), w8)
    else
      some ((1 : Int32), w8)

noncomputable def bd_X0_settle_49 (fu : Nat) (y2 : Int32) (y3 : Int32) (y1 : Int32) (y4 : Int32) (w : WS) : Option ((Int32 × Int32 × WS) ⊕ (Int32 × WS)) :=
  nm (w.1 2 2) fun x1 =>
  if x1 ≤ y4 then
    some (.inr (y1, w))
  else
    ck (vp_in y4 64) <| nm (w.1 16 (Int32.toNatClampNeg y4)) fun x2 =>
    ck (vp_in y3 64) <| nm (w.2 22 (Int32.toNatClampNeg y3)) fun x3 =>
    bn (f_X3_has fu x3 x2) fun x4 =>
    if x4 = 0 then
      ck (vp_in y3 64) <| nm (w.2 23 (Int32.toNatClampNeg y3)) fun x5 =>
      bn (f_X3_has fu x5 x2) fun x6 =>
      if x6 = 0 then
        nm (y4 + 1) fun x7 =>
        some (.inl (y1, x7, w))
      else
        bn2 (f_X0_settleArc fu w x2 y3) fun x9 w8 =>
        nm ((y1 + x9)) fun x10 =>
        nm (y4 + 1) fun x11 =>
        some (.inl (x10, x11, w8))
    else
      bn2 (f_X0_settleArc fu w y3 x2) fun x13 w12 =>
      nm ((y1 + x13)) fun x14 =>
      ck (vp_in y3 64) <| nm (w12.2 23 (Int32.toNatClampNeg y3)) fun x15 =>
      bn (f_X3_has fu x15 x2) fun x16 =>
      if x16 = 0 then
        nm (y4 + 1) fun x17 =>
        some (.inl (x14, x17, w12))
      else
        bn2 (f_X0_settleArc fu w12 x2 y3) fun x19 w18 =>
        nm ((x14 + x19)) fun x20 =>
        nm (y4 + 1) fun x21 =>
        some (.inl (x20, x21, w18))

noncomputable def bd_X0_settle_4 (fu : Nat)  (y1 : Int32) (y2 : Int32) (w : WS) : Option ((Int32 × Int32 × WS) ⊕ (Int32 × WS)) :=
  nm (w.1 2 2) fun x1 =>
  if x1 ≤ y2 then
    some (.inr (y1, w))
  else
    ck (vp_in y2 64) <| nm (w.1 16 (Int32.toNatClampNeg y2)) fun x2 =>
    ck (vp_in x2 64) <| nm (w.2 22 (Int32.toNatClampNeg x2)) fun x3 =>
    if (lg_cmp x3 0) = 0 then
      ck (vp_in x2 64) <| nm (w.2 23 (Int32.toNatClampNeg x2)) fun x11 =>
      if (lg_cmp x11 0) = 0 then
        nm (y2 + 1) fun x19 =>
        some (.inl (y1, x19, w))
      else
        nm ((y2 + 1)) fun x12 =>
        bn2 (iter (fun q => bd_X0_settle_49 fu y2 x2 q.1 q.2.1 q.2.2) fu (y1, x12, w)) fun x13 w14 =>
        ck (vp_in x2 64) <| nm (wL w14 22 (Int32.toNatClampNeg x2) 0) fun w16 =>
        ck (vp_in x2 64) <| nm (wL w16 23 (Int32.toNatClampNeg x2) 0) fun w17 =>
        nm (y2 + 1) fun x18 =>
        some (.inl (x13, x18, w17))
    else
      nm ((y2 + 1)) fun x4 =>
      bn2 (iter (fun q => bd_X0_settle_49 fu y2 x2 q.1 q.2.1 q.2.2) fu (y1, x4, w)) fun x5 w6 =>
      ck (vp_in x2 64) <| nm (wL w6 22 (Int32.toNatClampNeg x2) 0) fun w8 =>
      ck (vp_in x2 64) <| nm (wL w8 23 (Int32.toNatClampNeg x2) 0) fun w9 =>
      nm (y2 + 1) fun x10 =>
      some (.inl (x5, x10, w9))

noncomputable def f_X0_settle (fu : Nat) (w : WS)  : Option (Int32 × WS) :=
  bn2 (iter (fun q => bd_X0_settle_4 fu q.1 q.2.1 q.2.2) fu ((0 : Int32), (0 : Int32), w)) fun x1 w2 =>
  some (x1, w2)

noncomputable def bd_X0_build_27 (fu : Nat) (y1 : Int32) (y2 : Int64) (y4 : Int32) (w : WS) : Option ((Int64 × Int32 × WS) ⊕ (WS)) :=
  nm (w.1 2 2) fun x1 =>
  if x1 ≤ y4 then
    some (.inr (w))
  else
    bn (f_X0_cheapest fu w y2) fun x2 =>
    ck (vp_in x2 64) <| nm (wI w 15 (Int32.toNatClampNeg x2) y4) fun w3 =>
    ck (vp_in y4 64) <| nm (wI w3 16 (Int32.toNatClampNeg y4) x2) fun w4 =>
    bn (f_X3_only fu x2) fun x5 =>
    nm ((y2 &&& (x5 ^^^ (-1)))) fun x6 =>
    ck (vp_in x2 64) <| nm (w4.2 19 (Int32.toNatClampNeg x2)) fun x7 =>
    ck (vp_in x2 64) <| nm (w4.2 18 (Int32.toNatClampNeg x2)) fun x8 =>
    bn (f_X0_bridge fu w4 (x7 &&& x6) (x8 &&& x6)) fun w9 =>
    nm (y4 + 1) fun x10 =>
    some (.inl (x6, x10, w9))

noncomputable def bd_X0_build_109 (fu : Nat) (y1 : Int32) (y4 : Int32) (w : WS) : Option ((Int32 × WS) ⊕ (WS)) :=
  nm (w.1 2 2) fun x1 =>
  if x1 ≤ y4 then
    some (.inr (w))
  else
    nm (w.1 2 3) fun x2 =>
    ck (vp_in y4 64) <| nm (w.2 18 (Int32.toNatClampNeg y4)) fun x3 =>
    bn (f_J13_bitCount_95d88 fu x3) fun x4 =>
    nm (wI w 2 3 (x2 + x4)) fun w5 =>
    nm (y4 + 1) fun x6 =>
    some (.inl (x6, w5))

noncomputable def f_X0_build (fu : Nat) (w : WS)  : Option WS :=
  nm (w.1 1 1) fun x1 =>
  nm (wI w 2 2 x1) fun w2 =>
  bn2 (f_X0_linkTurns fu w2) fun x4 w3 =>
  bn (f_X2_allRoads fu w3) fun x5 =>
  bn (iter (fun q => bd_X0_build_27 fu x4 q.1 q.2.1 q.2.2) fu (x5, (0 : Int32), w3)) fun w6 =>
  nm (wI w6 2 3 0) fun w8 =>
  bn (iter (fun q => bd_X0_build_109 fu x4 q.1 q.2) fu ((0 : Int32), w8)) fun w9 =>
  nm (w9.1 2 3) fun x11 =>
  nm (wI w9 2 4 (x11 - x4)) fun w12 =>
  nm (wF w12 20 (fillF 4096 536870912 (w12.1 20))) fun w13 =>
  nm (wF w13 21 (fillF 4096 536870912 (w13.1 21))) fun w14 =>
  bn (f_X2_allRoads fu w14) fun x15 =>
  bn (f_X2_allRoads fu w14) fun x16 =>
  bn (f_X0_renewSteps fu w14 x15 x16) fun w17 =>
  bn2 (f_X0_settle fu w17) fun x19 w18 =>
  nm (wI w18 2 1 1) fun w20 =>
  some w20

noncomputable def f_X0_renewRoad (fu : Nat) (w : WS) (a1 : Int32) : Option (Int32 × WS) :=
  nm (w.1 2 1) fun x1 =>
  if x1 = 0 then
    some ((0 : Int32), w)
  else
    bn (f_X2_forerunnersOf fu w a1) fun x2 =>
    bn (f_X3_only fu a1) fun x3 =>
    bn (f_X0_renewSteps fu w x2 x3) fun w4 =>
    bn (f_X3_only fu a1) fun x5 =>
    bn (f_X2_followersOf fu w4 a1) fun x6 =>
    bn (f_X0_renewSteps fu w4 x5 x6) fun w7 =>
    bn2 (f_X0_settle fu w7) fun x9 w8 =>
    some (x9, w8)

noncomputable def f_X0_renewTurn (fu : Nat) (w : WS) (a1 : Int32) (a2 : Int32) : Option (Int32 × WS) :=
  nm (w.1 2 1) fun x1 =>
  if x1 = 0 then
    some ((0 : Int32), w)
  else
    bn (f_X3_only fu a1) fun x2 =>
    bn (f_X3_only fu a2) fun x3 =>
    bn (f_X0_renewSteps fu w x2 x3) fun w4 =>
    bn2 (f_X0_settle fu w4) fun x6 w5 =>
    some (x6, w5)

noncomputable def f_X0_renewAll (fu : Nat) (w : WS)  : Option (Int32 × WS) :=
  nm (w.1 2 1) fun x1 =>
  if x1 = 0 then
    some ((0 : Int32), w)
  else
    bn (f_X2_allRoads fu w) fun x2 =>
    bn (f_X2_allRoads fu w) fun x3 =>
    bn (f_X0_renewSteps fu w x2 x3) fun w4 =>
    bn2 (f_X0_settle fu w4) fun x6 w5 =>
    some (x6, w5)

noncomputable def bd_X0_passOn_12 (fu : Nat) (y2 : Int32) (y4 : Int32) (y5 : Int32) (w : WS) : Option ((Int32 × WS) ⊕ (WS)) :=
  if y4 ≤ y5 then
    some (.inr (w))
  else
    ck (vp_in y5 64) <| nm (w.1 16 (Int32.toNatClampNeg y5)) fun x1 =>
    ck (vp_in y2 64) <| nm (w.2 18 (Int32.toNatClampNeg y2)) fun x2 =>
    bn (f_X3_has fu x2 x1) fun x3 =>
    if x3 = 0 then
      nm (y5 + 1) fun x4 =>
      some (.inl (x4, w))
    else
      ck (vp_in x1 64) <| nm (w.1 5 (Int32.toNatClampNeg x1)) fun x5 =>
      ck (vp_in y2 64) <| nm (w.1 5 (Int32.toNatClampNeg y2)) fun x6 =>
      bn (f_X3_pair fu y2 x1) fun x7 =>
      ck (vp_in x7 4096) <| nm (w.1 20 (Int32.toNatClampNeg x7)) fun x8 =>
      ck (vp_in x1 64) <| nm (wI w 5 (Int32.toNatClampNeg x1) (if (x6 + x8) < x5 then (x6 + x8) else x5)) fun w9 =>
      nm (y5 + 1) fun x10 =>
      some (.inl (x10, w9))

noncomputable def f_X0_passOn (fu : Nat) (w : WS) (a2 : Int32) (a3 : Int32) (a4 : Int32) : Option WS :=
  ck (vp_in a2 64) <| nm (w.1 5 (Int32.toNatClampNeg a2)) fun x1 =>
  if x1 < 536870912 then
    bn (iter (fun q => bd_X0_passOn_12 fu a2 a4 q.1 q.2) fu (a3, w)) fun w2 =>
    some w2
  else
    some w

noncomputable def bd_X0_spreadForward_2 (fu : Nat)  (y2 : Int32) (w : WS) : Option ((Int32 × WS) ⊕ (WS)) :=
  nm (w.1 2 2) fun x1 =>
  if x1 ≤ y2 then
    some (.inr (w))
  else
    ck (vp_in y2 64) <| nm (w.1 16 (Int32.toNatClampNeg y2)) fun x2 =>
    nm (w.1 2 2) fun x3 =>
    bn (f_X0_passOn fu w x2 (y2 + 1) x3) fun w4 =>
    nm (y2 + 1) fun x5 =>
    some (.inl (x5, w4))

noncomputable def bd_X0_spreadForward_41 (fu : Nat)  (y2 : Int32) (w : WS) : Option ((Int32 × WS) ⊕ (WS)) :=
  if y2 < 0 then
    some (.inr (w))
  else
    ck (vp_in y2 64) <| nm (w.1 16 (Int32.toNatClampNeg y2)) fun x1 =>
    bn (f_X0_passOn fu w x1 (0 : Int32) y2) fun w2 =>
    nm (y2 + (-1)) fun x3 =>
    some (.inl (x3, w2))

noncomputable def f_X0_spreadForward (fu : Nat) (w : WS)  : Option WS :=
  bn (iter (fun q => bd_X0_spreadForward_2 fu q.1 q.2) fu ((0 : Int32), w)) fun w1 =>
  nm (w1.1 2 2) fun x3 =>
  nm ((x3 - 1)) fun x4 =>
  bn (iter (fun q => bd_X0_spreadForward_41 fu q.1 q.2) fu (x4, w1)) fun w5 =>
  some w5

noncomputable def f_X2_append (fu : Nat) (w : WS) (a1 : Int32) (a2 : Int32) (a3 : Int32) : Option (Int32 × WS) :=
  nm (w.1 1 1) fun x1 =>
  ck (vp_in x1 64) <| nm (wI w 9 (Int32.toNatClampNeg x1) a1) fun w2 =>
  ck (vp_in x1 64) <| nm (wI w2 10 (Int32.toNatClampNeg x1) a2) fun w3 =>
  ck (vp_in x1 64) <| nm (wI w3 11 (Int32.toNatClampNeg x1) a3) fun w4 =>
  ck (vp_in a1 32) <| nm (w4.2 13 (Int32.toNatClampNeg a1)) fun x5 =>
  bn (f_X3_only fu x1) fun x6 =>
  ck (vp_in a1 32) <| nm (wL w4 13 (Int32.toNatClampNeg a1) (x5 ||| x6)) fun w7 =>
  ck (vp_in a2 32) <| nm (w7.2 14 (Int32.toNatClampNeg a2)) fun x8 =>
  bn (f_X3_only fu x1) fun x9 =>
  ck (vp_in a2 32) <| nm (wL w7 14 (Int32.toNatClampNeg a2) (x8 ||| x9)) fun w10 =>
  nm (w10.2 1 8) fun x11 =>
  bn (f_X3_only fu x1) fun x12 =>
  nm (wL w10 1 8 (x11 ||| x12)) fun w13 =>
  nm (w13.1 1 1) fun x14 =>
  nm (wI w13 1 1 (x14 + 1)) fun w15 =>
  some (x1, w15)

noncomputable def f_X2_openOrClose (fu : Nat) (w : WS) (a1 : Int32) (a2 : Int32) : Option WS :=
  nm (w.2 1 8) fun x1 =>
  bn (f_X3_only fu a1) fun x2 =>
  nm ((x1 &&& (x2 ^^^ (-1)))) fun x3 =>
  if a2 = 0 then
    nm (wL w 1 8 x3) fun w4 =>
    some w4
  else
    bn (f_X3_only fu a1) fun x5 =>
    nm (wL w 1 8 (x3 ||| x5)) fun w6 =>
    some w6

noncomputable def f_X3_addJunction (fu : Nat) (w : WS)  : Option ((Int32 × WS) ⊕ (String × WS)) :=
  nm (w.1 1 0) fun x1 =>
  if x1 < 32 then
    nm (w.1 1 0) fun x2 =>
    nm (wI w 1 0 (x2 + 1)) fun w3 =>
    nm (w3.1 1 0) fun x4 =>
    some (.inl ((x4 - 1), w3))
  else
    some (.inr ("java/lang/IllegalStateException", w))

noncomputable def f_X3_requireJunction (fu : Nat) (w : WS) (a1 : Int32) : Option (WS ⊕ (String × WS)) :=
  if a1 < 0 then
    some (.inr ("java/lang/IndexOutOfBoundsException", w))
  else
    nm (w.1 1 0) fun x1 =>
    if a1 < x1 then
      some (.inl w)
    else
      some (.inr ("java/lang/IndexOutOfBoundsException", w))

noncomputable def f_X3_requireWeight (fu : Nat) (w : WS) (a1 : Int32) : Option (WS ⊕ (String × WS)) :=
  if a1 < 1 then
    some (.inr ("java/lang/IllegalArgumentException", w))
  else
    if a1 ≤ 10000 then
      some (.inl w)
    else
      some (.inr ("java/lang/IllegalArgumentException", w))

noncomputable def f_X3_addRoad (fu : Nat) (w : WS) (a1 : Int32) (a2 : Int32) (a3 : Int32) : Option ((Int32 × WS) ⊕ (String × WS)) :=
  bx (f_X3_requireJunction fu w a1) (fun q => some (.inr q)) fun w1 =>
  bx (f_X3_requireJunction fu w1 a2) (fun q => some (.inr q)) fun w2 =>
  if a1 = a2 then
    some (.inr ("java/lang/IllegalArgumentException", w2))
  else
    bx (f_X3_requireWeight fu w2 a3) (fun q => some (.inr q)) fun w3 =>
    nm (w3.1 1 1) fun x4 =>
    if x4 < 64 then
      nm (wI w3 2 1 0) fun w5 =>
      bn2 (f_X2_append fu w5 a1 a2 a3) fun x7 w6 =>
      some (.inl (x7, w6))
    else
      some (.inr ("java/lang/IllegalStateException", w3))

noncomputable def f_X3_requireRoad (fu : Nat) (w : WS) (a1 : Int32) : Option (WS ⊕ (String × WS)) :=
  if a1 < 0 then
    some (.inr ("java/lang/IndexOutOfBoundsException", w))
  else
    nm (w.1 1 1) fun x1 =>
    if a1 < x1 then
      some (.inl w)
    else
      some (.inr ("java/lang/IndexOutOfBoundsException", w))

noncomputable def f_X3_setWeight (fu : Nat) (w : WS) (a1 : Int32) (a2 : Int32) : Option ((Int32 × WS) ⊕ (String × WS)) :=
  bx (f_X3_requireRoad fu w a1) (fun q => some (.inr q)) fun w1 =>
  bx (f_X3_requireWeight fu w1 a2) (fun q => some (.inr q)) fun w2 =>
  ck (vp_in a1 64) <| nm (wI w2 11 (Int32.toNatClampNeg a1) a2) fun w3 =>
  bn2 (f_X0_renewRoad fu w3 a1) fun x5 w4 =>
  some (.inl (x5, w4))

noncomputable def f_X3_setOpen (fu : Nat) (w : WS) (a1 : Int32) (a2 : Int32) : Option ((Int32 × WS) ⊕ (String × WS)) :=
  bx (f_X3_requireRoad fu w a1) (fun q => some (.inr q)) fun w1 =>
  bn (f_X2_openOrClose fu w1 a1 a2) fun w2 =>
  bn2 (f_X0_renewRoad fu w2 a1) fun x4 w3 =>
  some (.inl (x4, w3))

noncomputable def f_X3_requireTurn (fu : Nat) (w : WS) (a1 : Int32) (a2 : Int32) : Option (WS ⊕ (String × WS)) :=
  bx (f_X3_requireRoad fu w a1) (fun q => some (.inr q)) fun w1 =>
  bx (f_X3_requireRoad fu w1 a2) (fun q => some (.inr q)) fun w2 =>
  ck (vp_in a1 64) <| nm (w2.1 10 (Int32.toNatClampNeg a1)) fun x3 =>
  ck (vp_in a2 64) <| nm (w2.1 9 (Int32.toNatClampNeg a2)) fun x4 =>
  if x3 = x4 then
    some (.inl w2)
  else
    some (.inr ("java/lang/IllegalArgumentException", w2))

noncomputable def f_X3_setTurn (fu : Nat) (w : WS) (a1 : Int32) (a2 : Int32) (a3 : Int32) : Option ((Int32 × WS) ⊕ (String × WS)) :=
  bx (f_X3_requireTurn fu w a1 a2) (fun q => some (.inr q)) fun w1 =>
  if a3 < (-2) then
    some (.inr ("java/lang/IllegalArgumentException", w1))
  else
    if a3 ≤ 1000 then
      bn (f_X3_pair fu a1 a2) fun x2 =>
      ck (vp_in x2 4096) <| nm (wI w1 12 (Int32.toNatClampNeg x2) a3) fun w3 =>
      bn2 (f_X0_renewTurn fu w3 a1 a2) fun x5 w4 =>
      some (.inl (x5, w4))
    else
      some (.inr ("java/lang/IllegalArgumentException", w1))

noncomputable def f_X3_setUTurn (fu : Nat) (w : WS) (a1 : Int32) : Option ((Int32 × WS) ⊕ (String × WS)) :=
  if a1 < (-1) then
    some (.inr ("java/lang/IllegalArgumentException", w))
  else
    if a1 ≤ 1000 then
      nm (wI w 1 9 a1) fun w1 =>
      bn2 (f_X0_renewAll fu w1) fun x3 w2 =>
      some (.inl (x3, w2))
    else
      some (.inr ("java/lang/IllegalArgumentException", w))

noncomputable def f_X3_prepare (fu : Nat) (w : WS)  : Option ((Int32 × WS) ⊕ (String × WS)) :=
  nm (w.1 1 1) fun x1 =>
  if x1 = 0 then
    some (.inr ("java/lang/IllegalStateException", w))
  else
    nm (w.1 2 1) fun x2 =>
    if x2 = 0 then
      bn (f_X0_build fu w) fun w4 =>
      nm (w4.1 2 4) fun x5 =>
      some (.inl (x5, w4))
    else
      nm (w.1 2 4) fun x3 =>
      some (.inl (x3, w))

noncomputable def f_X3_requireHierarchy (fu : Nat) (w : WS)  : Option (WS ⊕ (String × WS)) :=
  nm (w.1 2 1) fun x1 =>
  if x1 = 0 then
    some (.inr ("java/lang/IllegalStateException", w))
  else
    some (.inl w)

noncomputable def f_X3_hasArc (fu : Nat) (w : WS) (a1 : Int32) (a2 : Int32) : Option ((Int32 × WS) ⊕ (String × WS)) :=
  bx (f_X3_requireHierarchy fu w) (fun q => some (.inr q)) fun w1 =>
  bx (f_X3_requireRoad fu w1 a1) (fun q => some (.inr q)) fun w2 =>
  bx (f_X3_requireRoad fu w2 a2) (fun q => some (.inr q)) fun w3 =>
  ck (vp_in a1 64) <| nm (w3.2 18 (Int32.toNatClampNeg a1)) fun x4 =>
  bn (f_X3_has fu x4 a2) fun x5 =>
  ck (x5 = 0 ∨ x5 = 1) <|
  some (.inl (x5, w3))

noncomputable def f_X3_arcCost (fu : Nat) (w : WS) (a1 : Int32) (a2 : Int32) : Option ((Int32 × WS) ⊕ (String × WS)) :=
  bx (f_X3_requireHierarchy fu w) (fun q => some (.inr q)) fun w1 =>
  bx (f_X3_requireRoad fu w1 a1) (fun q => some (.inr q)) fun w2 =>
  bx (f_X3_requireRoad fu w2 a2) (fun q => some (.inr q)) fun w3 =>
  ck (vp_in a1 64) <| nm (w3.2 18 (Int32.toNatClampNeg a1)) fun x4 =>
  bn (f_X3_has fu x4 a2) fun x5 =>
  if x5 = 0 then
    some (.inr ("java/util/NoSuchElementException", w3))
  else
    bn (f_X3_pair fu a1 a2) fun x6 =>
    ck (vp_in x6 4096) <| nm (w3.1 20 (Int32.toNatClampNeg x6)) fun x7 =>
    bn (f_X3_costOf fu x7) fun x8 =>
    some (.inl (x8, w3))

noncomputable def bd_X3_spreadToJunctions_22 (fu : Nat)  (y1 : Int32) (w : WS) : Option ((Int32 × WS) ⊕ (WS)) :=
  nm (w.1 1 1) fun x1 =>
  if x1 ≤ y1 then
    some (.inr (w))
  else
    ck (vp_in y1 64) <| nm (w.1 10 (Int32.toNatClampNeg y1)) fun x2 =>
    ck (vp_in x2 32) <| nm (w.1 17 (Int32.toNatClampNeg x2)) fun x3 =>
    ck (vp_in y1 64) <| nm (w.1 5 (Int32.toNatClampNeg y1)) fun x4 =>
    ck (vp_in x2 32) <| nm (wI w 17 (Int32.toNatClampNeg x2) (if x4 < x3 then x4 else x3)) fun w5 =>
    nm (y1 + 1) fun x6 =>
    some (.inl (x6, w5))

noncomputable def f_X3_spreadToJunctions (fu : Nat) (w : WS)  : Option WS :=
  bn (f_X0_spreadForward fu w) fun w1 =>
  nm (wF w1 17 (fillF 32 536870912 (w1.1 17))) fun w2 =>
  bn (iter (fun q => bd_X3_spreadToJunctions_22 fu q.1 q.2) fu ((0 : Int32), w2)) fun w3 =>
  some w3

noncomputable def bd_X3_searchFrom_30 (fu : Nat) (y1 : Int32) (y2 : Int64) (y4 : Int32) (w : WS) : Option ((Int32 × WS) ⊕ (WS)) :=
  nm (w.1 1 1) fun x1 =>
  if x1 ≤ y4 then
    some (.inr (w))
  else
    bn (f_X3_has fu y2 y4) fun x2 =>
    if x2 = 0 then
      nm (y4 + 1) fun x3 =>
      some (.inl (x3, w))
    else
      bn (f_X2_roadLength fu w y4) fun x4 =>
      ck (vp_in y4 64) <| nm (wI w 5 (Int32.toNatClampNeg y4) x4) fun w5 =>
      nm (y4 + 1) fun x6 =>
      some (.inl (x6, w5))

noncomputable def f_X3_searchFrom (fu : Nat) (w : WS) (a1 : Int32) : Option WS :=
  nm (wF w 5 (fillF 64 536870912 (w.1 5))) fun w1 =>
  ck (vp_in a1 32) <| nm (w1.2 13 (Int32.toNatClampNeg a1)) fun x2 =>
  nm (w1.2 1 8) fun x3 =>
  nm ((x2 &&& x3)) fun x4 =>
  bn (iter (fun q => bd_X3_searchFrom_30 fu a1 x4 q.1 q.2) fu ((0 : Int32), w1)) fun w5 =>
  bn (f_X3_spreadToJunctions fu w5) fun w7 =>
  ck (vp_in a1 32) <| nm (wI w7 17 (Int32.toNatClampNeg a1) 0) fun w8 =>
  some w8

noncomputable def f_X3_foundCost (fu : Nat) (w : WS) (a1 : Int32) : Option Int32 :=
  ck (vp_in a1 32) <| nm (w.1 17 (Int32.toNatClampNeg a1)) fun x1 =>
  bn (f_X3_costOf fu x1) fun x2 =>
  some x2

noncomputable def f_X3_costBetween (fu : Nat) (w : WS) (a1 : Int32) (a2 : Int32) : Option (Int32 × WS) :=
  bn (f_X3_searchFrom fu w a1) fun w1 =>
  bn (f_X3_foundCost fu w1 a2) fun x2 =>
  some (x2, w1)

noncomputable def f_X3_distance (fu : Nat) (w : WS) (a1 : Int32) (a2 : Int32) : Option ((Int32 × WS) ⊕ (String × WS)) :=
  bx (f_X3_requireHierarchy fu w) (fun q => some (.inr q)) fun w1 =>
  bx (f_X3_requireJunction fu w1 a1) (fun q => some (.inr q)) fun w2 =>
  bx (f_X3_requireJunction fu w2 a2) (fun q => some (.inr q)) fun w3 =>
  bn2 (f_X3_costBetween fu w3 a1 a2) fun x5 w4 =>
  some (.inl (x5, w4))
end
section
def cellV (L : Nat) (xs : Nat → Int32) (k : Int32) : Int32 := if Int32.ofNat L ≤ k then 790386105 * (k + 3) else xs k.toNatClampNeg
noncomputable def f_L_below (fu : Nat) (a0 : Int32) (a1 : Int32) : Option Int32 :=
  ck (¬ a1 = 0) <| nm ((a0 &&& 2147483647) % a1) fun x1 =>
  some x1

noncomputable def bd_L_build_3 (fu : Nat) (L : Nat) (xs : Nat → Int32) (f : WS) (y5 : Int32) (w : WS) : Option ((Int32 × WS) ⊕ ((WS) ⊕ (WS))) :=
  if 5 ≤ y5 then
    some (.inr (.inr (w)))
  else
    bxn2 (f_X3_addJunction fu w) fun x1 w2 =>
    if x1 = y5 then
      nm (y5 + 1) fun x3 =>
      some (.inl (x3, w2))
    else
      some (.inr (.inl (w2)))

noncomputable def bd_L_build_29 (fu : Nat) (L : Nat) (xs : Nat → Int32)  (y5 : Int32) (w : WS) (f : WS) : Option ((Int32 × WS × WS) ⊕ ((WS × WS) ⊕ (WS × WS))) :=
  if 9 ≤ y5 then
    some (.inr (.inr (w, f)))
  else
    ck (¬ y5 < 0) <| nm (cellV L xs y5) fun x1 =>
    if 5 ≤ y5 then
      bn (f_L_below fu x1 (5 : Int32)) fun x2 =>
      ck (vp_in y5 9) <| nm (wI f 0 (Int32.toNatClampNeg y5) x2) fun f3 =>
      if 5 ≤ y5 then
        ck (vp_in y5 9) <| nm (f3.1 0 (Int32.toNatClampNeg y5)) fun x4 =>
        bn (f_L_below fu (x1 >>> ((4 : Int32) &&& 31)) (4 : Int32)) fun x5 =>
        ck (¬ (5 : Int32) = 0) <| nm (((x4 + 1) + x5) % 5) fun x6 =>
        ck (vp_in y5 9) <| nm (wI f3 1 (Int32.toNatClampNeg y5) x6) fun f7 =>
        bn (f_L_below fu (x1 >>> ((8 : Int32) &&& 31)) (6 : Int32)) fun x8 =>
        ck (vp_in y5 9) <| nm (wI f7 2 (Int32.toNatClampNeg y5) ((1 : Int32) + x8)) fun f9 =>
        ck (vp_in y5 9) <| nm (f9.1 0 (Int32.toNatClampNeg y5)) fun x10 =>
        ck (vp_in y5 9) <| nm (f9.1 1 (Int32.toNatClampNeg y5)) fun x11 =>
        ck (vp_in y5 9) <| nm (f9.1 2 (Int32.toNatClampNeg y5)) fun x12 =>
        bxn2 (f_X3_addRoad fu w x10 x11 x12) fun x13 w14 =>
        if x13 = y5 then
          nm (y5 + 1) fun x15 =>
          some (.inl (x15, w14, f9))
        else
          some (.inr (.inl (w14, f9)))
      else
        ck (¬ (5 : Int32) = 0) <| nm ((y5 + 1) % 5) fun x16 =>
        ck (vp_in y5 9) <| nm (wI f3 1 (Int32.toNatClampNeg y5) x16) fun f17 =>
        bn (f_L_below fu (x1 >>> ((8 : Int32) &&& 31)) (6 : Int32)) fun x18 =>
        ck (vp_in y5 9) <| nm (wI f17 2 (Int32.toNatClampNeg y5) ((1 : Int32) + x18)) fun f19 =>
        ck (vp_in y5 9) <| nm (f19.1 0 (Int32.toNatClampNeg y5)) fun x20 =>
        ck (vp_in y5 9) <| nm (f19.1 1 (Int32.toNatClampNeg y5)) fun x21 =>
        ck (vp_in y5 9) <| nm (f19.1 2 (Int32.toNatClampNeg y5)) fun x22 =>
        bxn2 (f_X3_addRoad fu w x20 x21 x22) fun x23 w24 =>
        if x23 = y5 then
          nm (y5 + 1) fun x25 =>
          some (.inl (x25, w24, f19))
        else
          some (.inr (.inl (w24, f19)))
    else
      ck (vp_in y5 9) <| nm (wI f 0 (Int32.toNatClampNeg y5) y5) fun f26 =>
      if 5 ≤ y5 then
        ck (vp_in y5 9) <| nm (f26.1 0 (Int32.toNatClampNeg y5)) fun x27 =>
        bn (f_L_below fu (x1 >>> ((4 : Int32) &&& 31)) (4 : Int32)) fun x28 =>
        ck (¬ (5 : Int32) = 0) <| nm (((x27 + 1) + x28) % 5) fun x29 =>
        ck (vp_in y5 9) <| nm (wI f26 1 (Int32.toNatClampNeg y5) x29) fun f30 =>
        bn (f_L_below fu (x1 >>> ((8 : Int32) &&& 31)) (6 : Int32)) fun x31 =>
        ck (vp_in y5 9) <| nm (wI f30 2 (Int32.toNatClampNeg y5) ((1 : Int32) + x31)) fun f32 =>
        ck (vp_in y5 9) <| nm (f32.1 0 (Int32.toNatClampNeg y5)) fun x33 =>
        ck (vp_in y5 9) <| nm (f32.1 1 (Int32.toNatClampNeg y5)) fun x34 =>
        ck (vp_in y5 9) <| nm (f32.1 2 (Int32.toNatClampNeg y5)) fun x35 =>
        bxn2 (f_X3_addRoad fu w x33 x34 x35) fun x36 w37 =>
        if x36 = y5 then
          nm (y5 + 1) fun x38 =>
          some (.inl (x38, w37, f32))
        else
          some (.inr (.inl (w37, f32)))
      else
        ck (¬ (5 : Int32) = 0) <| nm ((y5 + 1) % 5) fun x39 =>
        ck (vp_in y5 9) <| nm (wI f26 1 (Int32.toNatClampNeg y5) x39) fun f40 =>
        bn (f_L_below fu (x1 >>> ((8 : Int32) &&& 31)) (6 : Int32)) fun x41 =>
        ck (vp_in y5 9) <| nm (wI f40 2 (Int32.toNatClampNeg y5) ((1 : Int32) + x41)) fun f42 =>
        ck (vp_in y5 9) <| nm (f42.1 0 (Int32.toNatClampNeg y5)) fun x43 =>
        ck (vp_in y5 9) <| nm (f42.1 1 (Int32.toNatClampNeg y5)) fun x44 =>
        ck (vp_in y5 9) <| nm (f42.1 2 (Int32.toNatClampNeg y5)) fun x45 =>
        bxn2 (f_X3_addRoad fu w x43 x44 x45) fun x46 w47 =>
        if x46 = y5 then
          nm (y5 + 1) fun x48 =>
          some (.inl (x48, w47, f42))
        else
          some (.inr (.inl (w47, f42)))

noncomputable def f_L_build (fu : Nat) (L : Nat) (xs : Nat → Int32) (w : WS) (f : WS)  : Option (Int32 × WS × WS) :=
  bx (iter (fun q => bd_L_build_3 fu L xs f q.1 q.2) fu ((0 : Int32), w)) (fun r4 =>
    bx (iter (fun q => bd_L_build_29 fu L xs q.1 q.2.1 q.2.2) fu ((0 : Int32), r4, f)) (fun r8 =>
      some ((1 : Int32), r8.1, r8.2))
    fun r7 =>
      none)
  fun r3 =>
    none

noncomputable def f_L_penalty (fu : Nat) (w : WS) (f : WS) (a3 : Int32) (a4 : Int32) (a5 : Int32) : Option (Int32) :=
  ck (vp_in (((9 : Int32) * a4) + a5) 81) <| nm (f.1 3 (Int32.toNatClampNeg (((9 : Int32) * a4) + a5))) fun x1 =>
  if x1 = (-2) then
    ck (vp_in a5 9) <| nm (f.1 1 (Int32.toNatClampNeg a5)) fun x2 =>
    ck (vp_in a4 9) <| nm (f.1 0 (Int32.toNatClampNeg a4)) fun x3 =>
    if x2 = x3 then
      some (a3)
    else
      some ((0 : Int32))
  else
    some (x1)

noncomputable def bd_L_find_3 (fu : Nat) (w : WS) (y5 : Int32) (y6 : Int32) (y8 : Int32) (f : WS) : Option ((Int32 × WS) ⊕ (WS)) :=
  if 9 ≤ y8 then
    some (.inr (f))
  else
    ck (vp_in y8 9) <| nm (f.1 4 (Int32.toNatClampNeg y8)) fun x1 =>
    if x1 = 0 then
      ck (vp_in y8 9) <| nm (wI f 8 (Int32.toNatClampNeg y8) (1000000 : Int32)) fun f2 =>
      nm (y8 + 1) fun x3 =>
      some (.inl (x3, f2))
    else
      ck (vp_in y8 9) <| nm (f.1 1 (Int32.toNatClampNeg y8)) fun x4 =>
      if x4 = y6 then
        ck (vp_in y8 9) <| nm (f.1 2 (Int32.toNatClampNeg y8)) fun x7 =>
        ck (vp_in y8 9) <| nm (wI f 8 (Int32.toNatClampNeg y8) x7) fun f8 =>
        nm (y8 + 1) fun x9 =>
        some (.inl (x9, f8))
      else
        ck (vp_in y8 9) <| nm (wI f 8 (Int32.toNatClampNeg y8) (1000000 : Int32)) fun f5 =>
        nm (y8 + 1) fun x6 =>
        some (.inl (x6, f5))

noncomputable def bd_L_find_69 (fu : Nat) (w : WS) (y5 : Int32) (y8 : Int32) (y9 : Int32) (y10 : Int32) (f : WS) : Option ((Int32 × WS) ⊕ (WS)) :=
  if 9 ≤ y10 then
    some (.inr (f))
  else
    ck (vp_in y9 9) <| nm (f.1 4 (Int32.toNatClampNeg y9)) fun x1 =>
    if x1 = 0 then
      nm (y10 + 1) fun x2 =>
      some (.inl (x2, f))
    else
      ck (vp_in y9 9) <| nm (f.1 1 (Int32.toNatClampNeg y9)) fun x3 =>
      ck (vp_in y10 9) <| nm (f.1 0 (Int32.toNatClampNeg y10)) fun x4 =>
      if x3 = x4 then
        bn (f_L_penalty fu w f y5 y9 y10) fun x6 =>
        if 0 ≤ x6 then
          ck (vp_in y9 9) <| nm (f.1 8 (Int32.toNatClampNeg y9)) fun x8 =>
          ck (vp_in y9 9) <| nm (f.1 2 (Int32.toNatClampNeg y9)) fun x9 =>
          bn (f_L_penalty fu w f y5 y9 y10) fun x10 =>
          ck (vp_in y10 9) <| nm (f.1 8 (Int32.toNatClampNeg y10)) fun x12 =>
          ck (vp_in y9 9) <| nm (wI f 8 (Int32.toNatClampNeg y9) (if ((x9 + x10) + x12) < x8 then ((x9 + x10) + x12) else x8)) fun f13 =>
          nm (y10 + 1) fun x14 =>
          some (.inl (x14, f13))
        else
          nm (y10 + 1) fun x15 =>
          some (.inl (x15, f))
      else
        nm (y10 + 1) fun x5 =>
        some (.inl (x5, f))

noncomputable def bd_L_find_59 (fu : Nat) (w : WS) (y5 : Int32) (y8 : Int32) (y9 : Int32) (f : WS) : Option ((Int32 × WS) ⊕ (WS)) :=
  if 9 ≤ y9 then
    some (.inr (f))
  else
    bn (iter (fun q => bd_L_find_69 fu w y5 y8 y9 q.1 q.2) fu ((0 : Int32), f)) fun f1 =>
    nm (y9 + 1) fun x3 =>
    some (.inl (x3, f1))

noncomputable def bd_L_find_49 (fu : Nat) (w : WS) (y5 : Int32) (y8 : Int32) (f : WS) : Option ((Int32 × WS) ⊕ (WS)) :=
  if 9 ≤ y8 then
    some (.inr (f))
  else
    bn (iter (fun q => bd_L_find_59 fu w y5 y8 q.1 q.2) fu ((0 : Int32), f)) fun f1 =>
    nm (y8 + 1) fun x3 =>
    some (.inl (x3, f1))

noncomputable def f_L_find (fu : Nat) (w : WS) (f : WS) (a5 : Int32) (a6 : Int32) : Option (WS) :=
  bn (iter (fun q => bd_L_find_3 fu w a5 a6 q.1 q.2) fu ((0 : Int32), f)) fun f1 =>
  bn (iter (fun q => bd_L_find_49 fu w a5 q.1 q.2) fu ((0 : Int32), f1)) fun f3 =>
  some (f3)

noncomputable def bd_L_distance_16 (fu : Nat) (w : WS) (f : WS) (y2 : Int32) (y4 : Int32) (y5 : Int32) : Option ((Int32 × Int32) ⊕ (Int32)) :=
  if 9 ≤ y5 then
    some (.inr (y4))
  else
    ck (vp_in y5 9) <| nm (f.1 0 (Int32.toNatClampNeg y5)) fun x1 =>
    if x1 = y2 then
      ck (vp_in y5 9) <| nm (f.1 8 (Int32.toNatClampNeg y5)) fun x3 =>
      nm ((if x3 < y4 then x3 else y4)) fun x4 =>
      nm (y5 + 1) fun x5 =>
      some (.inl (x4, x5))
    else
      nm (y5 + 1) fun x2 =>
      some (.inl (y4, x2))

noncomputable def f_L_distance (fu : Nat) (w : WS) (f : WS) (a2 : Int32) (a3 : Int32) : Option (Int32) :=
  if a2 = a3 then
    bn (iter (fun q => bd_L_distance_16 fu w f a2 q.1 q.2) fu ((0 : Int32), (0 : Int32))) fun x3 =>
    if x3 < 1000000 then
      some (x3)
    else
      some (((-1) : Int32))
  else
    bn (iter (fun q => bd_L_distance_16 fu w f a2 q.1 q.2) fu ((1000000 : Int32), (0 : Int32))) fun x1 =>
    if x1 < 1000000 then
      some (x1)
    else
      some (((-1) : Int32))

noncomputable def f_L_change (fu : Nat) (w : WS) (f : WS) (a1 : Int32) : Option (Int32 × WS × WS) :=
  bn (f_L_below fu (a1 >>> ((3 : Int32) &&& 31)) (9 : Int32)) fun x1 =>
  bn (f_L_below fu (a1 >>> ((10 : Int32) &&& 31)) (9 : Int32)) fun x2 =>
  bn (f_L_below fu (a1 >>> ((16 : Int32) &&& 31)) (8 : Int32)) fun x3 =>
  if 3 ≤ (a1 &&& 7) then
    if 5 ≤ (a1 &&& 7) then
      if 7 ≤ (a1 &&& 7) then
        ck (vp_in 0 1) <| nm (wI f 5 (Int32.toNatClampNeg 0) (x3 - 1)) fun f4 =>
        bxn2 (f_X3_setUTurn fu w (x3 - 1)) fun x5 w6 =>
        some (x5, w6, f4)
      else
        ck (vp_in x1 9) <| nm (f.1 1 (Int32.toNatClampNeg x1)) fun x7 =>
        ck (vp_in x2 9) <| nm (f.1 0 (Int32.toNatClampNeg x2)) fun x8 =>
        if x7 = x8 then
          ck (vp_in (((9 : Int32) * x1) + x2) 81) <| nm (wI f 3 (Int32.toNatClampNeg (((9 : Int32) * x1) + x2)) (x3 - 2)) fun f12 =>
          bxn2 (f_X3_setTurn fu w x1 x2 (x3 - 2)) fun x13 w14 =>
          some (x13, w14, f12)
        else
          ck (vp_in 0 1) <| nm (wI f 5 (Int32.toNatClampNeg 0) (x3 - 1)) fun f9 =>
          bxn2 (f_X3_setUTurn fu w (x3 - 1)) fun x10 w11 =>
          some (x10, w11, f9)
    else
      if x3 ≤ 2 then
        ck (vp_in x1 9) <| nm (wI f 4 (Int32.toNatClampNeg x1) (vp_nar .boolean 0)) fun f15 =>
        if x3 ≤ 2 then
          bxn2 (f_X3_setOpen fu w x1 (0 : Int32)) fun x16 w17 =>
          some (x16, w17, f15)
        else
          bxn2 (f_X3_setOpen fu w x1 (1 : Int32)) fun x18 w19 =>
          some (x18, w19, f15)
      else
        ck (vp_in x1 9) <| nm (wI f 4 (Int32.toNatClampNeg x1) (vp_nar .boolean 1)) fun f20 =>
        if x3 ≤ 2 then
          bxn2 (f_X3_setOpen fu w x1 (0 : Int32)) fun x21 w22 =>
          some (x21, w22, f20)
        else
          bxn2 (f_X3_setOpen fu w x1 (1 : Int32)) fun x23 w24 =>
          some (x23, w24, f20)
  else
    ck (vp_in x1 9) <| nm (wI f 2 (Int32.toNatClampNeg x1) ((1 : Int32) + x3)) fun f25 =>
    bxn2 (f_X3_setWeight fu w x1 ((1 : Int32) + x3)) fun x26 w27 =>
    some (x26, w27, f25)

noncomputable def bd_L_read6_10 (fu : Nat) (y2 : Int32) (y3 : Int32) (w : WS) (f : WS) : Option ((Int32 × WS × WS) ⊕ (WS × WS)) :=
  if 9 ≤ y3 then
    some (.inr (w, f))
  else
    bxn2 (f_X3_hasArc fu w y2 y3) fun x1 w2 =>
    if x1 = 0 then
      ck (vp_in (((9 : Int32) * y2) + y3) 81) <| nm (wI f 6 (Int32.toNatClampNeg (((9 : Int32) * y2) + y3)) ((-2) : Int32)) fun f3 =>
      nm (y3 + 1) fun x4 =>
      some (.inl (x4, w2, f3))
    else
      bxn2 (f_X3_arcCost fu w2 y2 y3) fun x5 w6 =>
      ck (vp_in (((9 : Int32) * y2) + y3) 81) <| nm (wI f 6 (Int32.toNatClampNeg (((9 : Int32) * y2) + y3)) x5) fun f7 =>
      nm (y3 + 1) fun x8 =>
      some (.inl (x8, w6, f7))

noncomputable def bd_L_read6_2 (fu : Nat)  (y2 : Int32) (w : WS) (f : WS) : Option ((Int32 × WS × WS) ⊕ (WS × WS)) :=
  if 9 ≤ y2 then
    some (.inr (w, f))
  else
    bn2 (iter (fun q => bd_L_read6_10 fu y2 q.1 q.2.1 q.2.2) fu ((0 : Int32), w, f)) fun w1 f2 =>
    nm (y2 + 1) fun x4 =>
    some (.inl (x4, w1, f2))

noncomputable def f_L_read6 (fu : Nat) (w : WS) (f : WS)  : Option (WS × WS) :=
  bn2 (iter (fun q => bd_L_read6_2 fu q.1 q.2.1 q.2.2) fu ((0 : Int32), w, f)) fun w1 f2 =>
  some (w1, f2)

noncomputable def bd_L_read7_10 (fu : Nat) (y2 : Int32) (y3 : Int32) (w : WS) (f : WS) : Option ((Int32 × WS × WS) ⊕ (WS × WS)) :=
  if 9 ≤ y3 then
    some (.inr (w, f))
  else
    bxn2 (f_X3_hasArc fu w y2 y3) fun x1 w2 =>
    if x1 = 0 then
      ck (vp_in (((9 : Int32) * y2) + y3) 81) <| nm (wI f 7 (Int32.toNatClampNeg (((9 : Int32) * y2) + y3)) ((-2) : Int32)) fun f3 =>
      nm (y3 + 1) fun x4 =>
      some (.inl (x4, w2, f3))
    else
      bxn2 (f_X3_arcCost fu w2 y2 y3) fun x5 w6 =>
      ck (vp_in (((9 : Int32) * y2) + y3) 81) <| nm (wI f 7 (Int32.toNatClampNeg (((9 : Int32) * y2) + y3)) x5) fun f7 =>
      nm (y3 + 1) fun x8 =>
      some (.inl (x8, w6, f7))

noncomputable def bd_L_read7_2 (fu : Nat)  (y2 : Int32) (w : WS) (f : WS) : Option ((Int32 × WS × WS) ⊕ (WS × WS)) :=
  if 9 ≤ y2 then
    some (.inr (w, f))
  else
    bn2 (iter (fun q => bd_L_read7_10 fu y2 q.1 q.2.1 q.2.2) fu ((0 : Int32), w, f)) fun w1 f2 =>
    nm (y2 + 1) fun x4 =>
    some (.inl (x4, w1, f2))

noncomputable def f_L_read7 (fu : Nat) (w : WS) (f : WS)  : Option (WS × WS) :=
  bn2 (iter (fun q => bd_L_read7_2 fu q.1 q.2.1 q.2.2) fu ((0 : Int32), w, f)) fun w1 f2 =>
  some (w1, f2)

noncomputable def bd_L_unlike_4 (fu : Nat) (w : WS) (f : WS) (y2 : Int32) (y3 : Int32) : Option ((Int32 × Int32) ⊕ (Int32)) :=
  if 81 ≤ y3 then
    some (.inr (y2))
  else
    ck (vp_in y3 81) <| nm (f.1 6 (Int32.toNatClampNeg y3)) fun x1 =>
    ck (vp_in y3 81) <| nm (f.1 7 (Int32.toNatClampNeg y3)) fun x2 =>
    if x1 = x2 then
      nm ((y2 + 0)) fun x5 =>
      nm (y3 + 1) fun x6 =>
      some (.inl (x5, x6))
    else
      nm ((y2 + 1)) fun x3 =>
      nm (y3 + 1) fun x4 =>
      some (.inl (x3, x4))

noncomputable def f_L_unlike (fu : Nat) (w : WS) (f : WS)  : Option (Int32) :=
  bn (iter (fun q => bd_L_unlike_4 fu w f q.1 q.2) fu ((0 : Int32), (0 : Int32))) fun x1 =>
  some (x1)
end
section
section
variable {p : Program} {l : Launch} {e : Env} {s : State} {m : MethodId} {args : Array Value} {below : List Frame} {meth : Method} {c : Code} {D : va_G} {kA : Nat → ClassId} {A : Nat → Prop} {Q : State → Prop} {ad al : Nat → Nat} {b L : Nat} {xs : Nat → Int32}
abbrev rm_J13_bitCount_95d88 : Room := { frames := 0, cells := 0, slots := 0, locals := 0 }
set_option maxRecDepth 100000 in
set_option maxHeartbeats 4000000 in
theorem met_J13_bitCount_95d88 (l : Launch) (fu : Nat) (a0 : Int64) (v : Int32) (hf : f_J13_bitCount_95d88 fu a0 = some v) : Met l yJ13_bitCount_95d88 (wsY yJ13_bitCount_95d88 cJ13_bitCount_95d88 2 (some .int)) rm_J13_bitCount_95d88 (va_Pc [.long a0] (fun _ => True)) (va_Qi (fun (r : Int32) (_ : Unit) => r = v) (fun _ _ => True) (fun _ => False)) 0 0 (fun _ => False) := by
  refine metS (own := RJ13) (by decide +kernel) rfl (Nat.le_of_ble_eq_true rfl) rfl ?_
  intro p e s m below meth c X hr hlk
  generalize ([] : va_W) = ws
  unfold f_J13_bitCount_95d88 at hf
  refine x_lload_n X dJ13_bitCount_95d88_0 0 rfl ?_
  refine x_lload_n X dJ13_bitCount_95d88_1 0 rfl ?_
  refine x_iconst X (v := 1) dJ13_bitCount_95d88_2 (by decide) ?_
  refine x_lushr X dJ13_bitCount_95d88_3 ?_
  refine x_ldc2 X (v := 6148914691236517205) w_595 dJ13_bitCount_95d88_4 ?_
  refine x_land X dJ13_bitCount_95d88_7 ?_
  refine x_lsub X dJ13_bitCount_95d88_8 ?_
  refine x_nmL hf (fun x1 hf => ?_)
  refine x_lstore_n X (lv2 := [(0, .long x1)]) dJ13_bitCount_95d88_9 (by decide) rfl ?_
  refine x_lload_n X dJ13_bitCount_95d88_10 0 rfl ?_
  refine x_ldc2 X (v := 3689348814741910323) w_596 dJ13_bitCount_95d88_11 ?_
  refine x_land X dJ13_bitCount_95d88_14 ?_
  refine x_lload_n X dJ13_bitCount_95d88_15 0 rfl ?_
  refine x_iconst X (v := 2) dJ13_bitCount_95d88_16 (by decide) ?_
  refine x_lushr X dJ13_bitCount_95d88_17 ?_
  refine x_ldc2 X (v := 3689348814741910323) w_596 dJ13_bitCount_95d88_18 ?_
  refine x_land X dJ13_bitCount_95d88_21 ?_
  refine x_ladd X dJ13_bitCount_95d88_22 ?_
  refine x_nmL hf (fun x2 hf => ?_)
  refine x_lstore_n X (lv2 := [(0, .long x2)]) dJ13_bitCount_95d88_23 (by decide) rfl ?_
  refine x_lload_n X dJ13_bitCount_95d88_24 0 rfl ?_
  refine x_lload_n X dJ13_bitCount_95d88_25 0 rfl ?_
  refine x_iconst X (v := 4) dJ13_bitCount_95d88_26 (by decide) ?_
  refine x_lushr X dJ13_bitCount_95d88_27 ?_
  refine x_ladd X dJ13_bitCount_95d88_28 ?_
  refine x_ldc2 X (v := 1085102592571150095) w_597 dJ13_bitCount_95d88_29 ?_
  refine x_land X dJ13_bitCount_95d88_32 ?_
  refine x_nmL hf (fun x3 hf => ?_)
  refine x_lstore_n X (lv2 := [(0, .long x3)]) dJ13_bitCount_95d88_33 (by decide) rfl ?_
  refine x_lload_n X dJ13_bitCount_95d88_34 0 rfl ?_
  refine x_lload_n X dJ13_bitCount_95d88_35 0 rfl ?_
  refine x_bipush X (v := 8) dJ13_bitCount_95d88_36 (by decide) ?_
  refine x_lushr X dJ13_bitCount_95d88_38 ?_
  refine x_ladd X dJ13_bitCount_95d88_39 ?_
  refine x_nmL hf (fun x4 hf => ?_)
  refine x_lstore_n X (lv2 := [(0, .long x4)]) dJ13_bitCount_95d88_40 (by decide) rfl ?_
  refine x_lload_n X dJ13_bitCount_95d88_41 0 rfl ?_
  refine x_lload_n X dJ13_bitCount_95d88_42 0 rfl ?_
  refine x_bipush X (v := 16) dJ13_bitCount_95d88_43 (by decide) ?_
  refine x_lushr X dJ13_bitCount_95d88_45 ?_
  refine x_ladd X dJ13_bitCount_95d88_46 ?_
  refine x_nmL hf (fun x5 hf => ?_)
  refine x_lstore_n X (lv2 := [(0, .long x5)]) dJ13_bitCount_95d88_47 (by decide) rfl ?_
  refine x_lload_n X dJ13_bitCount_95d88_48 0 rfl ?_
  refine x_lload_n X dJ13_bitCount_95d88_49 0 rfl ?_
  refine x_bipush X (v := 32) dJ13_bitCount_95d88_50 (by decide) ?_
  refine x_lushr X dJ13_bitCount_95d88_52 ?_
  refine x_ladd X dJ13_bitCount_95d88_53 ?_
  refine x_nmL hf (fun x6 hf => ?_)
  refine x_lstore_n X (lv2 := [(0, .long x6)]) dJ13_bitCount_95d88_54 (by decide) rfl ?_
  refine x_lload_n X dJ13_bitCount_95d88_55 0 rfl ?_
  refine x_l2i X dJ13_bitCount_95d88_56 ?_
  refine x_bipush X (v := 127) dJ13_bitCount_95d88_57 (by decide) ?_
  refine x_iand X dJ13_bitCount_95d88_59 ?_
  exact x_iretS X hr hlk (Option.some.inj hf) dJ13_bitCount_95d88_60
end
section
variable {p : Program} {l : Launch} {e : Env} {s : State} {m : MethodId} {args : Array Value} {below : List Frame} {meth : Method} {c : Code} {D : va_G} {kA : Nat → ClassId} {A : Nat → Prop} {Q : State → Prop} {ad al : Nat → Nat} {b L : Nat} {xs : Nat → Int32}
abbrev rm_X3_only : Room := { frames := 0, cells := 0, slots := 0, locals := 0 }
set_option maxRecDepth 100000 in
set_option maxHeartbeats 4000000 in
theorem met_X3_only (l : Launch) (fu : Nat) (a0 : Int32) (v : Int64) (hf : f_X3_only fu a0 = some v) : Met l yX3_only (wsY yX3_only cX3_only 1 (some .long)) rm_X3_only (va_Pc [.int a0] (fun _ => True)) (va_Ql (fun (r : Int64) (_ : Unit) => r = v) (fun _ _ => True) (fun _ => False)) 0 0 (fun _ => False) := by
  refine metS (own := RX3) (by decide +kernel) rfl (Nat.le_of_ble_eq_true rfl) rfl ?_
  intro p e s m below meth c X hr hlk
  generalize ([] : va_W) = ws
  unfold f_X3_only at hf
  refine x_lconst X (v := 1) dX3_only_0 (by decide) ?_
  refine x_iload_n X dX3_only_1 0 rfl ?_
  refine x_lshl X dX3_only_2 ?_
  exact x_lretS X hr hlk (Option.some.inj hf) dX3_only_3
end
section
variable {p : Program} {l : Launch} {e : Env} {s : State} {m : MethodId} {args : Array Value} {below : List Frame} {meth : Method} {c : Code} {D : va_G} {kA : Nat → ClassId} {A : Nat → Prop} {Q : State → Prop} {ad al : Nat → Nat} {b L : Nat} {xs : Nat → Int32}
abbrev rm_X3_has : Room := { frames := 0, cells := 0, slots := 0, locals := 0 }
set_option maxRecDepth 100000 in
set_option maxHeartbeats 4000000 in
theorem met_X3_has (l : Launch) (fu : Nat) (a0 : Int64) (a2 : Int32) (v : Int32) (hf : f_X3_has fu a0 a2 = some v) : Met l yX3_has (wsY yX3_has cX3_has 3 (some .boolean)) rm_X3_has (va_Pc [.long a0, .int a2] (fun _ => True)) (va_Qi (fun (r : Int32) (_ : Unit) => r = v) (fun _ _ => True) (fun _ => False)) 0 0 (fun _ => False) := by
  refine metS (own := RX3) (by decide +kernel) rfl (Nat.le_of_ble_eq_true rfl) rfl ?_
  intro p e s m below meth c X hr hlk
  generalize ([] : va_W) = ws
  unfold f_X3_has at hf
  refine x_lload_n X dX3_has_0 0 rfl ?_
  refine x_iload_n X dX3_has_1 1 rfl ?_
  refine x_lshr X dX3_has_2 ?_
  refine x_lconst X (v := 1) dX3_has_3 (by decide) ?_
  refine x_land X dX3_has_4 ?_
  refine x_lconst X (v := 0) dX3_has_5 (by decide) ?_
  refine x_lcmp X dX3_has_6 ?_
  refine x_if_eq X (tgt := 14) dX3_has_7 (by decide) hf (fun hf => ?_) (fun hf => ?_)
  · refine x_iconst X (v := 0) dX3_has_14 (by decide) ?_
    exact x_zretS X hr hlk (by decide) (Option.some.inj hf) dX3_has_15
  · refine x_iconst X (v := 1) dX3_has_10 (by decide) ?_
    refine x_goto X (tgt := 15) dX3_has_11 (by decide) ?_
    exact x_zretS X hr hlk (by decide) (Option.some.inj hf) dX3_has_15
end
section
variable {p : Program} {l : Launch} {e : Env} {s : State} {m : MethodId} {args : Array Value} {below : List Frame} {meth : Method} {c : Code} {D : va_G} {kA : Nat → ClassId} {A : Nat → Prop} {Q : State → Prop} {ad al : Nat → Nat} {b L : Nat} {xs : Nat → Int32}
abbrev rm_X3_pair : Room := { frames := 0, cells := 0, slots := 0, locals := 0 }
set_option maxRecDepth 100000 in
set_option maxHeartbeats 4000000 in
theorem met_X3_pair (l : Launch) (fu : Nat) (a0 : Int32) (a1 : Int32) (v : Int32) (hf : f_X3_pair fu a0 a1 = some v) : Met l yX3_pair (wsY yX3_pair cX3_pair 2 (some .int)) rm_X3_pair (va_Pc [.int a0, .int a1] (fun _ => True)) (va_Qi (fun (r : Int32) (_ : Unit) => r = v) (fun _ _ => True) (fun _ => False)) 0 0 (fun _ => False) := by
  refine metS (own := RX3) (by decide +kernel) rfl (Nat.le_of_ble_eq_true rfl) rfl ?_
  intro p e s m below meth c X hr hlk
  generalize ([] : va_W) = ws
  unfold f_X3_pair at hf
  refine x_iload_n X dX3_pair_0 0 rfl ?_
  refine x_bipush X (v := 64) dX3_pair_1 (by decide) ?_
  refine x_imul X dX3_pair_3 ?_
  refine x_iload_n X dX3_pair_4 1 rfl ?_
  refine x_iadd X dX3_pair_5 ?_
  exact x_iretS X hr hlk (Option.some.inj hf) dX3_pair_6
end
section
variable {p : Program} {l : Launch} {e : Env} {s : State} {m : MethodId} {args : Array Value} {below : List Frame} {meth : Method} {c : Code} {D : va_G} {kA : Nat → ClassId} {A : Nat → Prop} {Q : State → Prop} {ad al : Nat → Nat} {b L : Nat} {xs : Nat → Int32}
abbrev rm_X3_costOf : Room := { frames := 0, cells := 0, slots := 0, locals := 0 }
set_option maxRecDepth 100000 in
set_option maxHeartbeats 4000000 in
theorem met_X3_costOf (l : Launch) (fu : Nat) (a0 : Int32) (v : Int32) (hf : f_X3_costOf fu a0 = some v) : Met l yX3_costOf (wsY yX3_costOf cX3_costOf 1 (some .int)) rm_X3_costOf (va_Pc [.int a0] (fun _ => True)) (va_Qi (fun (r : Int32) (_ : Unit) => r = v) (fun _ _ => True) (fun _ => False)) 0 0 (fun _ => False) := by
  refine metS (own := RX3) (by decide +kernel) rfl (Nat.le_of_ble_eq_true rfl) rfl ?_
  intro p e s m below meth c X hr hlk
  generalize ([] : va_W) = ws
  unfold f_X3_costOf at hf
  refine x_iload_n X dX3_costOf_0 0 rfl ?_
  refine x_ldc X (v := 536870912) w_5089 dX3_costOf_1 ?_
  refine x_icmp_lt X (tgt := 10) dX3_costOf_3 (by decide) hf (fun hf => ?_) (fun hf => ?_)
  · refine x_iload_n X dX3_costOf_10 0 rfl ?_
    refine x_bipush X (v := 7) dX3_costOf_11 (by decide) ?_
    refine x_ishr X dX3_costOf_13 ?_
    exact x_iretS X hr hlk (Option.some.inj hf) dX3_costOf_14
  · refine x_iconst X (v := (-1)) dX3_costOf_6 (by decide) ?_
    refine x_goto X (tgt := 14) dX3_costOf_7 (by decide) ?_
    exact x_iretS X hr hlk (Option.some.inj hf) dX3_costOf_14
end
end
section
section
variable {p : Program} {l : Launch} {e : Env} {s : State} {m : MethodId} {args : Array Value} {below : List Frame} {meth : Method} {c : Code} {D : va_G} {kA : Nat → ClassId} {A : Nat → Prop} {Q : State → Prop} {ad al : Nat → Nat} {b L : Nat} {xs : Nat → Int32}
abbrev rm_X2_followersOf : Room := { frames := 0, cells := 0, slots := 0, locals := 0 }
set_option maxRecDepth 100000 in
set_option maxHeartbeats 4000000 in
theorem met_X2_followersOf (l : Launch) (hst : l.stackTraces = false) (D : va_G) (kA : Nat → ClassId) (ad : Nat → Nat) (fu : Nat) (w : WS) (a1 : Int32) (v : Int64) (hf : f_X2_followersOf fu w a1 = some v) (sz : Nat) : Met l yX2_followersOf (wsY yX2_followersOf cX2_followersOf 2 (some .long)) rm_X2_followersOf (va_Pc [.ref (ad 1), .int a1] (PreG D kA (picC kA ad w) sz)) (va_Ql (fun (r : Int64) (_ : Unit) => r = v) (fun _ t => PosG D (va_A (picC kA ad w) sz) (picC kA ad w) t) (va_A (picC kA ad w) sz)) 0 0 (va_A (picC kA ad w) sz) := by
  refine metG (own := RX2) hst (by decide +kernel) rfl (Nat.le_of_ble_eq_true rfl) rfl ?_
  intro p e s m below meth c X hr hlk E _
  unfold f_X2_followersOf at hf
  refine x_aload_n X dX2_followersOf_0 0 rfl ?_
  refine x_get X E.1.1 (T := TX2) (C := RX2) inW2 1 rfl rfl 6 (by decide) w_97 rfl (v := .ref (ad 13)) rfl dX2_followersOf_1 ?_
  refine x_aload_n X dX2_followersOf_4 0 rfl ?_
  refine x_get X E.1.1 (T := TX2) (C := RX2) inW2 1 rfl rfl 3 (by decide) w_89 rfl (v := .ref (ad 10)) rfl dX2_followersOf_5 ?_
  refine x_iload_n X dX2_followersOf_8 1 rfl ?_
  refine x_iald X E.1.1 10 rfl dX2_followersOf_9 hf (fun x1 hf => ?_)
  refine x_lald X E.1.1 13 rfl dX2_followersOf_10 hf (fun x2 hf => ?_)
  exact x_lret X hr hlk rfl (Option.some.inj hf) dX2_followersOf_11
end
section
variable {p : Program} {l : Launch} {e : Env} {s : State} {m : MethodId} {args : Array Value} {below : List Frame} {meth : Method} {c : Code} {D : va_G} {kA : Nat → ClassId} {A : Nat → Prop} {Q : State → Prop} {ad al : Nat → Nat} {b L : Nat} {xs : Nat → Int32}
abbrev rm_X2_forerunnersOf : Room := { frames := 0, cells := 0, slots := 0, locals := 0 }
set_option maxRecDepth 100000 in
set_option maxHeartbeats 4000000 in
theorem met_X2_forerunnersOf (l : Launch) (hst : l.stackTraces = false) (D : va_G) (kA : Nat → ClassId) (ad : Nat → Nat) (fu : Nat) (w : WS) (a1 : Int32) (v : Int64) (hf : f_X2_forerunnersOf fu w a1 = some v) (sz : Nat) : Met l yX2_forerunnersOf (wsY yX2_forerunnersOf cX2_forerunnersOf 2 (some .long)) rm_X2_forerunnersOf (va_Pc [.ref (ad 1), .int a1] (PreG D kA (picC kA ad w) sz)) (va_Ql (fun (r : Int64) (_ : Unit) => r = v) (fun _ t => PosG D (va_A (picC kA ad w) sz) (picC kA ad w) t) (va_A (picC kA ad w) sz)) 0 0 (va_A (picC kA ad w) sz) := by
  refine metG (own := RX2) hst (by decide +kernel) rfl (Nat.le_of_ble_eq_true rfl) rfl ?_
  intro p e s m below meth c X hr hlk E _
  unfold f_X2_forerunnersOf at hf
  refine x_aload_n X dX2_forerunnersOf_0 0 rfl ?_
  refine x_get X E.1.1 (T := TX2) (C := RX2) inW2 1 rfl rfl 7 (by decide) w_99 rfl (v := .ref (ad 14)) rfl dX2_forerunnersOf_1 ?_
  refine x_aload_n X dX2_forerunnersOf_4 0 rfl ?_
  refine x_get X E.1.1 (T := TX2) (C := RX2) inW2 1 rfl rfl 2 (by decide) w_87 rfl (v := .ref (ad 9)) rfl dX2_forerunnersOf_5 ?_
  refine x_iload_n X dX2_forerunnersOf_8 1 rfl ?_
  refine x_iald X E.1.1 9 rfl dX2_forerunnersOf_9 hf (fun x1 hf => ?_)
  refine x_lald X E.1.1 14 rfl dX2_forerunnersOf_10 hf (fun x2 hf => ?_)
  exact x_lret X hr hlk rfl (Option.some.inj hf) dX2_forerunnersOf_11
end
section
variable {p : Program} {l : Launch} {e : Env} {s : State} {m : MethodId} {args : Array Value} {below : List Frame} {meth : Method} {c : Code} {D : va_G} {kA : Nat → ClassId} {A : Nat → Prop} {Q : State → Prop} {ad al : Nat → Nat} {b L : Nat} {xs : Nat → Int32}
abbrev rm_X0_linkTurns : Room := { frames := 1, cells := 0, slots := 0, locals := 21 }
set_option maxRecDepth 100000 in
set_option maxHeartbeats 4000000 in
theorem lp_X0_linkTurns_4 (X : CX p m c cX0_linkTurns 3 s args RX0) (E : EX l s D kA A) (fu : Nat)  : ∀ (n : Nat) (y1 : Int32) (y2 : Int32) (w : WS) (r1 : Int32) (rw : WS), iter (fun q => bd_X0_linkTurns_4 fu q.1 q.2.1 q.2.2) n (y1, y2, w) = some (r1, rw) → CS p l e rm_X0_linkTurns s m args below meth c D A 3 0 0 Q (picC kA ad rw) 58 [(1, .int r1)] [] → CS p l e rm_X0_linkTurns s m args below meth c D A 3 0 0 Q (picC kA ad w) 4 [(0, .ref (ad 2)), (1, .int y1), (2, .int y2)] [] := by
  intro n
  induction n with
  | zero =>
    intro y1 y2 w r1 rw hit kk
    exact (iter_0 hit).elim
  | succ n ih =>
    intro y1 y2 w r1 rw hit kk
    obtain ⟨o, h1, hit⟩ := iter_one hit
    have hf : bd_X0_linkTurns_4 fu y1 y2 w = some o := h1
    unfold bd_X0_linkTurns_4 at hf
    refine x_iload_n X dX0_linkTurns_4 2 rfl ?_
    refine x_aload_n X dX0_linkTurns_5 0 rfl ?_
    refine x_get X E.1.1 (T := TX0) (C := RX0) inW0 2 rfl rfl 2 (by decide) w_5026 rfl (v := .int (w.1 2 2)) rfl dX0_linkTurns_6 ?_
    refine x_nmI hf (fun x1 hf => ?_)
    refine x_icmp_ge X (tgt := 58) dX0_linkTurns_9 (by decide) hf (fun hf => ?_) (fun hf => ?_)
    · cases hf
      cases hit
      refine x_lpick (lv2 := [(1, .int y1)]) [1] rfl ?_
      exact kk
    · refine x_aload_n X dX0_linkTurns_12 0 rfl ?_
      refine x_get X E.1.1 (T := TX0) (C := RX0) inW0 2 rfl rfl 7 (by decide) w_5032 rfl (v := .ref (ad 18)) rfl dX0_linkTurns_13 ?_
      refine x_iload_n X dX0_linkTurns_16 2 rfl ?_
      refine x_aload_n X dX0_linkTurns_17 0 rfl ?_
      refine x_get X E.1.1 (T := TX0) (C := RX0) inW0 2 rfl rfl 0 (by decide) w_136 rfl (v := .ref (ad 1)) rfl dX0_linkTurns_18 ?_
      refine x_iload_n X dX0_linkTurns_21 2 rfl ?_
      obtain ⟨x2, hx2, hf⟩ := bn_some hf
      refine x_callV_l X E (As := [.int y2]) (rest := [.int y2, .ref (ad 18)]) (n := 1) (ws2 := (picC kA ad w)) (goodV w_459 w_460 w_461 w_48 w_462) (met_X2_followersOf l E.2.2.2 D kA ad fu w y2 x2 hx2) rfl rfl (by decide +kernel) ⟨by decide, by decide⟩ 1 rfl (qc := (RX2, TX2, _)) rfl rfl rfl rfl (Nat.le_of_ble_eq_true rfl) dX0_linkTurns_22 ⟨by decide, by decide⟩ ?_
      refine x_last X E.1.1 18 rfl dX0_linkTurns_25 hf (picC kA ad) (setC_18 kA ad _ _ _) (fun w3 hf => ?_)
      refine x_aload_n X dX0_linkTurns_26 0 rfl ?_
      refine x_get X E.1.1 (T := TX0) (C := RX0) inW0 2 rfl rfl 8 (by decide) w_5034 rfl (v := .ref (ad 19)) rfl dX0_linkTurns_27 ?_
      refine x_iload_n X dX0_linkTurns_30 2 rfl ?_
      refine x_aload_n X dX0_linkTurns_31 0 rfl ?_
      refine x_get X E.1.1 (T := TX0) (C := RX0) inW0 2 rfl rfl 0 (by decide) w_136 rfl (v := .ref (ad 1)) rfl dX0_linkTurns_32 ?_
      refine x_iload_n X dX0_linkTurns_35 2 rfl ?_
      obtain ⟨x4, hx4, hf⟩ := bn_some hf
      refine x_callV_l X E (As := [.int y2]) (rest := [.int y2, .ref (ad 19)]) (n := 1) (ws2 := (picC kA ad w3)) (goodV w_450 w_451 w_452 w_48 w_453) (met_X2_forerunnersOf l E.2.2.2 D kA ad fu w3 y2 x4 hx4) rfl rfl (by decide +kernel) ⟨by decide, by decide⟩ 1 rfl (qc := (RX2, TX2, _)) rfl rfl rfl rfl (Nat.le_of_ble_eq_true rfl) dX0_linkTurns_36 ⟨by decide, by decide⟩ ?_
      refine x_last X E.1.1 19 rfl dX0_linkTurns_39 hf (picC kA ad) (setC_19 kA ad _ _ _) (fun w5 hf => ?_)
      refine x_iload_n X dX0_linkTurns_40 1 rfl ?_
      refine x_aload_n X dX0_linkTurns_41 0 rfl ?_
      refine x_get X E.1.1 (T := TX0) (C := RX0) inW0 2 rfl rfl 7 (by decide) w_5032 rfl (v := .ref (ad 18)) rfl dX0_linkTurns_42 ?_
      refine x_iload_n X dX0_linkTurns_45 2 rfl ?_
      refine x_lald X E.1.1 18 rfl dX0_linkTurns_46 hf (fun x6 hf => ?_)
      obtain ⟨x7, hx7, hf⟩ := bn_some hf
      refine x_callS_i X (As := [.long x6]) (rest := [.int y1]) (n := 1) (goodS w_5148 w_593 w_60 w_594) (met_J13_bitCount_95d88 l fu x6 x7 hx7) rfl rfl (by decide +kernel) ⟨by decide, by decide⟩ rfl rfl (Nat.le_of_ble_eq_true rfl) dX0_linkTurns_47 ⟨by decide, by decide⟩ ?_
      refine x_iadd X dX0_linkTurns_50 ?_
      refine x_nmI hf (fun x8 hf => ?_)
      refine x_istore_n X (lv2 := [(1, .int x8), (0, .ref (ad 2)), (2, .int y2)]) dX0_linkTurns_51 (by decide) rfl ?_
      refine x_iinc X dX0_linkTurns_52 2 rfl (by decide) (y2 + 1) rfl hf (fun x9 => [(2, .int x9), (1, .int x8), (0, .ref (ad 2))]) (fun _ => rfl) (fun x9 hf => ?_)
      refine x_goto X (tgt := 4) dX0_linkTurns_55 (by decide) ?_
      cases hf
      refine x_lpick (lv2 := [(0, .ref (ad 2)), (1, .int x8), (2, .int x9)]) [2, 1, 0] rfl ?_
      exact ih _ _ _ _ _ hit kk
set_option maxRecDepth 100000 in
set_option maxHeartbeats 4000000 in
theorem met_X0_linkTurns (l : Launch) (hst : l.stackTraces = false) (D : va_G) (kA : Nat → ClassId) (ad : Nat → Nat) (fu : Nat) (w : WS)  (v : Int32) (w1 : WS) (hf : f_X0_linkTurns fu w = some (v, w1)) (sz : Nat) : Met l yX0_linkTurns (wsY yX0_linkTurns cX0_linkTurns 3 (some .int)) rm_X0_linkTurns (va_Pc [.ref (ad 2)] (PreG D kA (picC kA ad w) sz)) (va_Qi (fun (r : Int32) (_ : Unit) => r = v) (fun _ t => PosG D (va_A (picC kA ad w) sz) (picC kA ad w1) t) (va_A (picC kA ad w) sz)) 0 0 (va_A (picC kA ad w) sz) := by
  refine metG (own := RX0) hst (by decide +kernel) rfl (Nat.le_of_ble_eq_true rfl) rfl ?_
  intro p e s m below meth c X hr hlk E _
  unfold f_X0_linkTurns at hf
  refine x_iconst X (v := 0) dX0_linkTurns_0 (by decide) ?_
  refine x_istore_n X (lv2 := [(1, .int 0), (0, .ref (ad 2))]) dX0_linkTurns_1 (by decide) rfl ?_
  refine x_iconst X (v := 0) dX0_linkTurns_2 (by decide) ?_
  refine x_istore_n X (lv2 := [(2, .int 0), (1, .int 0), (0, .ref (ad 2))]) dX0_linkTurns_3 (by decide) rfl ?_
  refine x_lpick (lv2 := [(0, .ref (ad 2)), (1, .int 0), (2, .int 0)]) [2, 1, 0] rfl ?_
  obtain ⟨x1, w2, h3, hf⟩ := bn2_some hf
  refine lp_X0_linkTurns_4 X E fu  fu (0 : Int32) (0 : Int32) w x1 w2 h3 ?_
  refine x_iload_n X dX0_linkTurns_58 0 rfl ?_
  cases hf
  exact x_iret X hr hlk rfl rfl dX0_linkTurns_59
end
section
variable {p : Program} {l : Launch} {e : Env} {s : State} {m : MethodId} {args : Array Value} {below : List Frame} {meth : Method} {c : Code} {D : va_G} {kA : Nat → ClassId} {A : Nat → Prop} {Q : State → Prop} {ad al : Nat → Nat} {b L : Nat} {xs : Nat → Int32}
abbrev rm_X2_allRoads : Room := { frames := 1, cells := 0, slots := 0, locals := 20 }
set_option maxRecDepth 100000 in
set_option maxHeartbeats 4000000 in
theorem met_X2_allRoads (l : Launch) (hst : l.stackTraces = false) (D : va_G) (kA : Nat → ClassId) (ad : Nat → Nat) (fu : Nat) (w : WS)  (v : Int64) (hf : f_X2_allRoads fu w = some v) (sz : Nat) : Met l yX2_allRoads (wsY yX2_allRoads cX2_allRoads 1 (some .long)) rm_X2_allRoads (va_Pc [.ref (ad 1)] (PreG D kA (picC kA ad w) sz)) (va_Ql (fun (r : Int64) (_ : Unit) => r = v) (fun _ t => PosG D (va_A (picC kA ad w) sz) (picC kA ad w) t) (va_A (picC kA ad w) sz)) 0 0 (va_A (picC kA ad w) sz) := by
  refine metG (own := RX2) hst (by decide +kernel) rfl (Nat.le_of_ble_eq_true rfl) rfl ?_
  intro p e s m below meth c X hr hlk E _
  unfold f_X2_allRoads at hf
  refine x_aload_n X dX2_allRoads_0 0 rfl ?_
  refine x_get X E.1.1 (T := TX2) (C := RX2) inW2 1 rfl rfl 1 (by decide) w_83 rfl (v := .int (w.1 1 1)) rfl dX2_allRoads_1 ?_
  refine x_nmI hf (fun x1 hf => ?_)
  refine x_bipush X (v := 64) dX2_allRoads_4 (by decide) ?_
  refine x_icmp_lt X (tgt := 15) dX2_allRoads_6 (by decide) hf (fun hf => ?_) (fun hf => ?_)
  · refine x_aload_n X dX2_allRoads_15 0 rfl ?_
    refine x_get X E.1.1 (T := TX2) (C := RX2) inW2 1 rfl rfl 1 (by decide) w_83 rfl (v := .int (w.1 1 1)) rfl dX2_allRoads_16 ?_
    refine x_nmI hf (fun x2 hf => ?_)
    obtain ⟨x3, hx3, hf⟩ := bn_some hf
    refine x_callSN_l X (As := [.int x2]) (rest := []) (n := 1) (goodY w_433) w_432 w_47 (host := "RoadOracle") (E.1.2.1 _ (NWL_in 305 (by decide +kernel) rfl)) (met_X3_only l fu x2 x3 hx3) rfl rfl (by decide +kernel) ⟨by decide, by decide⟩ rfl rfl (Nat.le_of_ble_eq_true rfl) dX2_allRoads_19 ⟨by decide, by decide⟩ ?_
    refine x_lconst X (v := 1) dX2_allRoads_22 (by decide) ?_
    refine x_lsub X dX2_allRoads_23 ?_
    exact x_lret X hr hlk rfl (Option.some.inj hf) dX2_allRoads_24
  · refine x_ldc2 X (v := (-1)) w_553 dX2_allRoads_9 ?_
    refine x_goto X (tgt := 24) dX2_allRoads_12 (by decide) ?_
    exact x_lret X hr hlk rfl (Option.some.inj hf) dX2_allRoads_24
end
section
variable {p : Program} {l : Launch} {e : Env} {s : State} {m : MethodId} {args : Array Value} {below : List Frame} {meth : Method} {c : Code} {D : va_G} {kA : Nat → ClassId} {A : Nat → Prop} {Q : State → Prop} {ad al : Nat → Nat} {b L : Nat} {xs : Nat → Int32}
abbrev rm_X0_cheapest : Room := { frames := 1, cells := 0, slots := 0, locals := 22 }
set_option maxRecDepth 100000 in
set_option maxHeartbeats 4000000 in
theorem lp_X0_cheapest_9 (X : CX p m c cX0_cheapest 8 s args RX0) (E : EX l s D kA A) (fu : Nat) (w : WS) (y1 : Int64) : ∀ (n : Nat) (y3 : Int32) (y4 : Int32) (y5 : Int32) (r3 : Int32), iter (fun q => bd_X0_cheapest_9 fu w y1 q.1 q.2.1 q.2.2) n (y3, y4, y5) = some (r3) → CS p l e rm_X0_cheapest s m args below meth c D A 8 0 0 Q (picC kA ad w) 81 [(3, .int r3)] [] → CS p l e rm_X0_cheapest s m args below meth c D A 8 0 0 Q (picC kA ad w) 9 [(0, .ref (ad 2)), (1, .long y1), (3, .int y3), (4, .int y4), (5, .int y5)] [] := by
  intro n
  induction n with
  | zero =>
    intro y3 y4 y5 r3 hit kk
    exact (iter_0 hit).elim
  | succ n ih =>
    intro y3 y4 y5 r3 hit kk
    obtain ⟨o, h1, hit⟩ := iter_one hit
    have hf : bd_X0_cheapest_9 fu w y1 y3 y4 y5 = some o := h1
    unfold bd_X0_cheapest_9 at hf
    refine x_iload X dX0_cheapest_9 4 rfl ?_
    refine x_aload_n X dX0_cheapest_11 0 rfl ?_
    refine x_get X E.1.1 (T := TX0) (C := RX0) inW0 2 rfl rfl 2 (by decide) w_5026 rfl (v := .int (w.1 2 2)) rfl dX0_cheapest_12 ?_
    refine x_nmI hf (fun x1 hf => ?_)
    refine x_icmp_ge X (tgt := 81) dX0_cheapest_15 (by decide) hf (fun hf => ?_) (fun hf => ?_)
    · cases hf
      cases hit
      refine x_lpick (lv2 := [(3, .int y3)]) [2] rfl ?_
      exact kk
    · refine x_lload_n X dX0_cheapest_18 1 rfl ?_
      refine x_iload X dX0_cheapest_19 4 rfl ?_
      obtain ⟨x2, hx2, hf⟩ := bn_some hf
      refine x_callSN_i X (As := [.long y1, .int y5]) (rest := []) (n := 2) (goodY w_275) w_274 w_47 (host := "RoadOracle") (E.1.2.1 _ (NWL_in 313 (by decide +kernel) rfl)) (met_X3_has l fu y1 y5 x2 hx2) rfl rfl (by decide +kernel) ⟨by decide, by decide⟩ rfl rfl (Nat.le_of_ble_eq_true rfl) dX0_cheapest_21 ⟨by decide, by decide⟩ ?_
      refine x_if_eq X (tgt := 75) dX0_cheapest_24 (by decide) hf (fun hf => ?_) (fun hf => ?_)
      · refine x_iinc X dX0_cheapest_75 4 rfl (by decide) (y5 + 1) rfl hf (fun x3 => [(5, .int x3), (0, .ref (ad 2)), (1, .long y1), (3, .int y3), (4, .int y4)]) (fun _ => rfl) (fun x3 hf => ?_)
        refine x_goto X (tgt := 9) dX0_cheapest_78 (by decide) ?_
        cases hf
        refine x_lpick (lv2 := [(0, .ref (ad 2)), (1, .long y1), (3, .int y3), (4, .int y4), (5, .int x3)]) [1, 2, 3, 4, 0] rfl ?_
        exact ih _ _ _ _ hit kk
      · refine x_aload_n X dX0_cheapest_27 0 rfl ?_
        refine x_get X E.1.1 (T := TX0) (C := RX0) inW0 2 rfl rfl 8 (by decide) w_5034 rfl (v := .ref (ad 19)) rfl dX0_cheapest_28 ?_
        refine x_iload X dX0_cheapest_31 4 rfl ?_
        refine x_lald X E.1.1 19 rfl dX0_cheapest_33 hf (fun x4 hf => ?_)
        refine x_lload_n X dX0_cheapest_34 1 rfl ?_
        refine x_land X dX0_cheapest_35 ?_
        obtain ⟨x5, hx5, hf⟩ := bn_some hf
        refine x_callS_i X (As := [.long (x4 &&& y1)]) (rest := []) (n := 1) (goodS w_5148 w_593 w_60 w_594) (met_J13_bitCount_95d88 l fu (x4 &&& y1) x5 hx5) rfl rfl (by decide +kernel) ⟨by decide, by decide⟩ rfl rfl (Nat.le_of_ble_eq_true rfl) dX0_cheapest_36 ⟨by decide, by decide⟩ ?_
        refine x_istore X (lv2 := [(6, .int x5), (0, .ref (ad 2)), (1, .long y1), (3, .int y3), (4, .int y4), (5, .int y5)]) dX0_cheapest_39 (by decide) rfl ?_
        refine x_aload_n X dX0_cheapest_41 1 rfl ?_
        refine x_get X E.1.1 (T := TX0) (C := RX0) inW0 2 rfl rfl 7 (by decide) w_5032 rfl (v := .ref (ad 18)) rfl dX0_cheapest_42 ?_
        refine x_iload X dX0_cheapest_45 5 rfl ?_
        refine x_lald X E.1.1 18 rfl dX0_cheapest_47 hf (fun x6 hf => ?_)
        refine x_lload_n X dX0_cheapest_48 2 rfl ?_
        refine x_land X dX0_cheapest_49 ?_
        obtain ⟨x7, hx7, hf⟩ := bn_some hf
        refine x_callS_i X (As := [.long (x6 &&& y1)]) (rest := []) (n := 1) (goodS w_5148 w_593 w_60 w_594) (met_J13_bitCount_95d88 l fu (x6 &&& y1) x7 hx7) rfl rfl (by decide +kernel) ⟨by decide, by decide⟩ rfl rfl (Nat.le_of_ble_eq_true rfl) dX0_cheapest_50 ⟨by decide, by decide⟩ ?_
        refine x_istore X (lv2 := [(7, .int x7), (6, .int x5), (0, .ref (ad 2)), (1, .long y1), (3, .int y3), (4, .int y4), (5, .int y5)]) dX0_cheapest_53 (by decide) rfl ?_
        refine x_iload X dX0_cheapest_55 1 rfl ?_
        refine x_iload X dX0_cheapest_57 0 rfl ?_
        refine x_imul X dX0_cheapest_59 ?_
        refine x_iload X dX0_cheapest_60 5 rfl ?_
        refine x_icmp_ge X (tgt := 75) dX0_cheapest_62 (by decide) hf (fun hf => ?_) (fun hf => ?_)
        · refine x_iinc X dX0_cheapest_75 6 rfl (by decide) (y5 + 1) rfl hf (fun x8 => [(5, .int x8), (7, .int x7), (6, .int x5), (0, .ref (ad 2)), (1, .long y1), (3, .int y3), (4, .int y4)]) (fun _ => rfl) (fun x8 hf => ?_)
          refine x_goto X (tgt := 9) dX0_cheapest_78 (by decide) ?_
          cases hf
          refine x_lpick (lv2 := [(0, .ref (ad 2)), (1, .long y1), (3, .int y3), (4, .int y4), (5, .int x8)]) [3, 4, 5, 6, 0] rfl ?_
          exact ih _ _ _ _ hit kk
        · refine x_iload X dX0_cheapest_65 6 rfl ?_
          refine x_istore_n X (lv2 := [(3, .int y5), (7, .int x7), (6, .int x5), (0, .ref (ad 2)), (1, .long y1), (4, .int y4), (5, .int y5)]) dX0_cheapest_67 (by decide) rfl ?_
          refine x_iload X dX0_cheapest_68 2 rfl ?_
          refine x_iload X dX0_cheapest_70 1 rfl ?_
          refine x_imul X dX0_cheapest_72 ?_
          refine x_nmI hf (fun x9 hf => ?_)
          refine x_istore X (lv2 := [(4, .int x9), (3, .int y5), (7, .int x7), (6, .int x5), (0, .ref (ad 2)), (1, .long y1), (5, .int y5)]) dX0_cheapest_73 (by decide) rfl ?_
          refine x_iinc X dX0_cheapest_75 6 rfl (by decide) (y5 + 1) rfl hf (fun x10 => [(5, .int x10), (4, .int x9), (3, .int y5), (7, .int x7), (6, .int x5), (0, .ref (ad 2)), (1, .long y1)]) (fun _ => rfl) (fun x10 hf => ?_)
          refine x_goto X (tgt := 9) dX0_cheapest_78 (by decide) ?_
          cases hf
          refine x_lpick (lv2 := [(0, .ref (ad 2)), (1, .long y1), (3, .int y5), (4, .int x9), (5, .int x10)]) [5, 6, 2, 1, 0] rfl ?_
          exact ih _ _ _ _ hit kk
set_option maxRecDepth 100000 in
set_option maxHeartbeats 4000000 in
theorem met_X0_cheapest (l : Launch) (hst : l.stackTraces = false) (D : va_G) (kA : Nat → ClassId) (ad : Nat → Nat) (fu : Nat) (w : WS) (a1 : Int64) (v : Int32) (hf : f_X0_cheapest fu w a1 = some v) (sz : Nat) : Met l yX0_cheapest (wsY yX0_cheapest cX0_cheapest 8 (some .int)) rm_X0_cheapest (va_Pc [.ref (ad 2), .long a1] (PreG D kA (picC kA ad w) sz)) (va_Qi (fun (r : Int32) (_ : Unit) => r = v) (fun _ t => PosG D (va_A (picC kA ad w) sz) (picC kA ad w) t) (va_A (picC kA ad w) sz)) 0 0 (va_A (picC kA ad w) sz) := by
  refine metG (own := RX0) hst (by decide +kernel) rfl (Nat.le_of_ble_eq_true rfl) rfl ?_
  intro p e s m below meth c X hr hlk E _
  unfold f_X0_cheapest at hf
  refine x_iconst X (v := 0) dX0_cheapest_0 (by decide) ?_
  refine x_istore_n X (lv2 := [(3, .int 0), (0, .ref (ad 2)), (1, .long a1)]) dX0_cheapest_1 (by decide) rfl ?_
  refine x_ldc X (v := 536870912) w_5151 dX0_cheapest_2 ?_
  refine x_istore X (lv2 := [(4, .int 536870912), (3, .int 0), (0, .ref (ad 2)), (1, .long a1)]) dX0_cheapest_4 (by decide) rfl ?_
  refine x_iconst X (v := 0) dX0_cheapest_6 (by decide) ?_
  refine x_istore X (lv2 := [(5, .int 0), (4, .int 536870912), (3, .int 0), (0, .ref (ad 2)), (1, .long a1)]) dX0_cheapest_7 (by decide) rfl ?_
  refine x_lpick (lv2 := [(0, .ref (ad 2)), (1, .long a1), (3, .int 0), (4, .int 536870912), (5, .int 0)]) [3, 4, 2, 1, 0] rfl ?_
  obtain ⟨x1, h2, hf⟩ := bn_some hf
  refine lp_X0_cheapest_9 X E fu w a1 fu (0 : Int32) (536870912 : Int32) (0 : Int32) x1 h2 ?_
  refine x_iload_n X dX0_cheapest_81 0 rfl ?_
  exact x_iret X hr hlk rfl (Option.some.inj hf) dX0_cheapest_82
end
section
variable {p : Program} {l : Launch} {e : Env} {s : State} {m : MethodId} {args : Array Value} {below : List Frame} {meth : Method} {c : Code} {D : va_G} {kA : Nat → ClassId} {A : Nat → Prop} {Q : State → Prop} {ad al : Nat → Nat} {b L : Nat} {xs : Nat → Int32}
abbrev rm_X0_bridge : Room := { frames := 1, cells := 0, slots := 0, locals := 22 }
set_option maxRecDepth 100000 in
set_option maxHeartbeats 4000000 in
theorem lp_X0_bridge_3 (X : CX p m c cX0_bridge 6 s args RX0) (E : EX l s D kA A) (fu : Nat) (y1 : Int64) (y3 : Int64) : ∀ (n : Nat) (y5 : Int32) (w : WS) (rw : WS), iter (fun q => bd_X0_bridge_3 fu y1 y3 q.1 q.2) n (y5, w) = some (rw) → CS p l e rm_X0_bridge s m args below meth c D A 6 0 0 Q (picC kA ad rw) 78 [] [] → CS p l e rm_X0_bridge s m args below meth c D A 6 0 0 Q (picC kA ad w) 3 [(0, .ref (ad 2)), (1, .long y1), (3, .long y3), (5, .int y5)] [] := by
  intro n
  induction n with
  | zero =>
    intro y5 w rw hit kk
    exact (iter_0 hit).elim
  | succ n ih =>
    intro y5 w rw hit kk
    obtain ⟨o, h1, hit⟩ := iter_one hit
    have hf : bd_X0_bridge_3 fu y1 y3 y5 w = some o := h1
    unfold bd_X0_bridge_3 at hf
    refine x_iload X dX0_bridge_3 3 rfl ?_
    refine x_aload_n X dX0_bridge_5 0 rfl ?_
    refine x_get X E.1.1 (T := TX0) (C := RX0) inW0 2 rfl rfl 2 (by decide) w_5026 rfl (v := .int (w.1 2 2)) rfl dX0_bridge_6 ?_
    refine x_nmI hf (fun x1 hf => ?_)
    refine x_icmp_ge X (tgt := 78) dX0_bridge_9 (by decide) hf (fun hf => ?_) (fun hf => ?_)
    · cases hf
      cases hit
      refine x_lpick (lv2 := []) [] rfl ?_
      exact kk
    · refine x_lload_n X dX0_bridge_12 1 rfl ?_
      refine x_iload X dX0_bridge_13 3 rfl ?_
      obtain ⟨x2, hx2, hf⟩ := bn_some hf
      refine x_callSN_i X (As := [.long y1, .int y5]) (rest := []) (n := 2) (goodY w_275) w_274 w_47 (host := "RoadOracle") (E.1.2.1 _ (NWL_in 313 (by decide +kernel) rfl)) (met_X3_has l fu y1 y5 x2 hx2) rfl rfl (by decide +kernel) ⟨by decide, by decide⟩ rfl rfl (Nat.le_of_ble_eq_true rfl) dX0_bridge_15 ⟨by decide, by decide⟩ ?_
      refine x_if_eq X (tgt := 42) dX0_bridge_18 (by decide) hf (fun hf => ?_) (fun hf => ?_)
      · refine x_lload_n X dX0_bridge_42 2 rfl ?_
        refine x_iload X dX0_bridge_43 3 rfl ?_
        obtain ⟨x3, hx3, hf⟩ := bn_some hf
        refine x_callSN_i X (As := [.long y3, .int y5]) (rest := []) (n := 2) (goodY w_275) w_274 w_47 (host := "RoadOracle") (E.1.2.1 _ (NWL_in 313 (by decide +kernel) rfl)) (met_X3_has l fu y3 y5 x3 hx3) rfl rfl (by decide +kernel) ⟨by decide, by decide⟩ rfl rfl (Nat.le_of_ble_eq_true rfl) dX0_bridge_45 ⟨by decide, by decide⟩ ?_
        refine x_if_eq X (tgt := 72) dX0_bridge_48 (by decide) hf (fun hf => ?_) (fun hf => ?_)
        · refine x_iinc X dX0_bridge_72 3 rfl (by decide) (y5 + 1) rfl hf (fun x4 => [(5, .int x4), (0, .ref (ad 2)), (1, .long y1), (3, .long y3)]) (fun _ => rfl) (fun x4 hf => ?_)
          refine x_goto X (tgt := 3) dX0_bridge_75 (by decide) ?_
          cases hf
          refine x_lpick (lv2 := [(0, .ref (ad 2)), (1, .long y1), (3, .long y3), (5, .int x4)]) [1, 2, 3, 0] rfl ?_
          exact ih _ _ _ hit kk
        · refine x_aload_n X dX0_bridge_51 0 rfl ?_
          refine x_get X E.1.1 (T := TX0) (C := RX0) inW0 2 rfl rfl 8 (by decide) w_5034 rfl (v := .ref (ad 19)) rfl dX0_bridge_52 ?_
          refine x_iload X dX0_bridge_55 3 rfl ?_
          refine x_dup2 X dX0_bridge_57 rfl rfl ?_
          refine x_lald X E.1.1 19 rfl dX0_bridge_58 hf (fun x5 hf => ?_)
          refine x_lload_n X dX0_bridge_59 1 rfl ?_
          refine x_iload X dX0_bridge_60 3 rfl ?_
          obtain ⟨x6, hx6, hf⟩ := bn_some hf
          refine x_callSN_l X (As := [.int y5]) (rest := [.long y1, .long x5, .int y5, .ref (ad 19)]) (n := 1) (goodY w_433) w_432 w_47 (host := "RoadOracle") (E.1.2.1 _ (NWL_in 316 (by decide +kernel) rfl)) (met_X3_only l fu y5 x6 hx6) rfl rfl (by decide +kernel) ⟨by decide, by decide⟩ rfl rfl (Nat.le_of_ble_eq_true rfl) dX0_bridge_62 ⟨by decide, by decide⟩ ?_
          refine x_ldc2 X (v := (-1)) w_5152 dX0_bridge_65 ?_
          refine x_lxor X dX0_bridge_68 ?_
          refine x_land X dX0_bridge_69 ?_
          refine x_lor X dX0_bridge_70 ?_
          refine x_last X E.1.1 19 rfl dX0_bridge_71 hf (picC kA ad) (setC_19 kA ad _ _ _) (fun w7 hf => ?_)
          refine x_iinc X dX0_bridge_72 3 rfl (by decide) (y5 + 1) rfl hf (fun x8 => [(5, .int x8), (0, .ref (ad 2)), (1, .long y1), (3, .long y3)]) (fun _ => rfl) (fun x8 hf => ?_)
          refine x_goto X (tgt := 3) dX0_bridge_75 (by decide) ?_
          cases hf
          refine x_lpick (lv2 := [(0, .ref (ad 2)), (1, .long y1), (3, .long y3), (5, .int x8)]) [1, 2, 3, 0] rfl ?_
          exact ih _ _ _ hit kk
      · refine x_aload_n X dX0_bridge_21 0 rfl ?_
        refine x_get X E.1.1 (T := TX0) (C := RX0) inW0 2 rfl rfl 7 (by decide) w_5032 rfl (v := .ref (ad 18)) rfl dX0_bridge_22 ?_
        refine x_iload X dX0_bridge_25 3 rfl ?_
        refine x_dup2 X dX0_bridge_27 rfl rfl ?_
        refine x_lald X E.1.1 18 rfl dX0_bridge_28 hf (fun x9 hf => ?_)
        refine x_lload_n X dX0_bridge_29 2 rfl ?_
        refine x_iload X dX0_bridge_30 3 rfl ?_
        obtain ⟨x10, hx10, hf⟩ := bn_some hf
        refine x_callSN_l X (As := [.int y5]) (rest := [.long y3, .long x9, .int y5, .ref (ad 18)]) (n := 1) (goodY w_433) w_432 w_47 (host := "RoadOracle") (E.1.2.1 _ (NWL_in 316 (by decide +kernel) rfl)) (met_X3_only l fu y5 x10 hx10) rfl rfl (by decide +kernel) ⟨by decide, by decide⟩ rfl rfl (Nat.le_of_ble_eq_true rfl) dX0_bridge_32 ⟨by decide, by decide⟩ ?_
        refine x_ldc2 X (v := (-1)) w_5152 dX0_bridge_35 ?_
        refine x_lxor X dX0_bridge_38 ?_
        refine x_land X dX0_bridge_39 ?_
        refine x_lor X dX0_bridge_40 ?_
        refine x_last X E.1.1 18 rfl dX0_bridge_41 hf (picC kA ad) (setC_18 kA ad _ _ _) (fun w11 hf => ?_)
        refine x_lload_n X dX0_bridge_42 2 rfl ?_
        refine x_iload X dX0_bridge_43 3 rfl ?_
        obtain ⟨x12, hx12, hf⟩ := bn_some hf
        refine x_callSN_i X (As := [.long y3, .int y5]) (rest := []) (n := 2) (goodY w_275) w_274 w_47 (host := "RoadOracle") (E.1.2.1 _ (NWL_in 313 (by decide +kernel) rfl)) (met_X3_has l fu y3 y5 x12 hx12) rfl rfl (by decide +kernel) ⟨by decide, by decide⟩ rfl rfl (Nat.le_of_ble_eq_true rfl) dX0_bridge_45 ⟨by decide, by decide⟩ ?_
        refine x_if_eq X (tgt := 72) dX0_bridge_48 (by decide) hf (fun hf => ?_) (fun hf => ?_)
        · refine x_iinc X dX0_bridge_72 3 rfl (by decide) (y5 + 1) rfl hf (fun x13 => [(5, .int x13), (0, .ref (ad 2)), (1, .long y1), (3, .long y3)]) (fun _ => rfl) (fun x13 hf => ?_)
          refine x_goto X (tgt := 3) dX0_bridge_75 (by decide) ?_
          cases hf
          refine x_lpick (lv2 := [(0, .ref (ad 2)), (1, .long y1), (3, .long y3), (5, .int x13)]) [1, 2, 3, 0] rfl ?_
          exact ih _ _ _ hit kk
        · refine x_aload_n X dX0_bridge_51 0 rfl ?_
          refine x_get X E.1.1 (T := TX0) (C := RX0) inW0 2 rfl rfl 8 (by decide) w_5034 rfl (v := .ref (ad 19)) rfl dX0_bridge_52 ?_
          refine x_iload X dX0_bridge_55 3 rfl ?_
          refine x_dup2 X dX0_bridge_57 rfl rfl ?_
          refine x_lald X E.1.1 19 rfl dX0_bridge_58 hf (fun x14 hf => ?_)
          refine x_lload_n X dX0_bridge_59 1 rfl ?_
          refine x_iload X dX0_bridge_60 3 rfl ?_
          obtain ⟨x15, hx15, hf⟩ := bn_some hf
          refine x_callSN_l X (As := [.int y5]) (rest := [.long y1, .long x14, .int y5, .ref (ad 19)]) (n := 1) (goodY w_433) w_432 w_47 (host := "RoadOracle") (E.1.2.1 _ (NWL_in 316 (by decide +kernel) rfl)) (met_X3_only l fu y5 x15 hx15) rfl rfl (by decide +kernel) ⟨by decide, by decide⟩ rfl rfl (Nat.le_of_ble_eq_true rfl) dX0_bridge_62 ⟨by decide, by decide⟩ ?_
          refine x_ldc2 X (v := (-1)) w_5152 dX0_bridge_65 ?_
          refine x_lxor X dX0_bridge_68 ?_
          refine x_land X dX0_bridge_69 ?_
          refine x_lor X dX0_bridge_70 ?_
          refine x_last X E.1.1 19 rfl dX0_bridge_71 hf (picC kA ad) (setC_19 kA ad _ _ _) (fun w16 hf => ?_)
          refine x_iinc X dX0_bridge_72 3 rfl (by decide) (y5 + 1) rfl hf (fun x17 => [(5, .int x17), (0, .ref (ad 2)), (1, .long y1), (3, .long y3)]) (fun _ => rfl) (fun x17 hf => ?_)
          refine x_goto X (tgt := 3) dX0_bridge_75 (by decide) ?_
          cases hf
          refine x_lpick (lv2 := [(0, .ref (ad 2)), (1, .long y1), (3, .long y3), (5, .int x17)]) [1, 2, 3, 0] rfl ?_
          exact ih _ _ _ hit kk
set_option maxRecDepth 100000 in
set_option maxHeartbeats 4000000 in
theorem met_X0_bridge (l : Launch) (hst : l.stackTraces = false) (D : va_G) (kA : Nat → ClassId) (ad : Nat → Nat) (fu : Nat) (w : WS) (a1 : Int64) (a3 : Int64) (w1 : WS) (hf : f_X0_bridge fu w a1 a3 = some w1) (sz : Nat) : Met l yX0_bridge (wsY yX0_bridge cX0_bridge 6 none) rm_X0_bridge (va_Pc [.ref (ad 2), .long a1, .long a3] (PreG D kA (picC kA ad w) sz)) (va_Qv (fun (_ : Unit) => True) (fun _ t => PosG D (va_A (picC kA ad w) sz) (picC kA ad w1) t) (va_A (picC kA ad w) sz)) 0 0 (va_A (picC kA ad w) sz) := by
  refine metG (own := RX0) hst (by decide +kernel) rfl (Nat.le_of_ble_eq_true rfl) rfl ?_
  intro p e s m below meth c X hr hlk E _
  unfold f_X0_bridge at hf
  refine x_iconst X (v := 0) dX0_bridge_0 (by decide) ?_
  refine x_istore X (lv2 := [(5, .int 0), (0, .ref (ad 2)), (1, .long a1), (3, .long a3)]) dX0_bridge_1 (by decide) rfl ?_
  refine x_lpick (lv2 := [(0, .ref (ad 2)), (1, .long a1), (3, .long a3), (5, .int 0)]) [1, 2, 3, 0] rfl ?_
  obtain ⟨w1, h2, hf⟩ := bn_some hf
  refine lp_X0_bridge_3 X E fu a1 a3 fu (0 : Int32) w w1 h2 ?_
  cases hf
  exact x_vret X hr hlk rfl dX0_bridge_78
end
section
variable {p : Program} {l : Launch} {e : Env} {s : State} {m : MethodId} {args : Array Value} {below : List Frame} {meth : Method} {c : Code} {D : va_G} {kA : Nat → ClassId} {A : Nat → Prop} {Q : State → Prop} {ad al : Nat → Nat} {b L : Nat} {xs : Nat → Int32}
abbrev rm_X2_penaltyOf : Room := { frames := 1, cells := 0, slots := 0, locals := 21 }
set_option maxRecDepth 100000 in
set_option maxHeartbeats 4000000 in
theorem met_X2_penaltyOf (l : Launch) (hst : l.stackTraces = false) (D : va_G) (kA : Nat → ClassId) (ad : Nat → Nat) (fu : Nat) (w : WS) (a1 : Int32) (a2 : Int32) (v : Int32) (hf : f_X2_penaltyOf fu w a1 a2 = some v) (sz : Nat) : Met l yX2_penaltyOf (wsY yX2_penaltyOf cX2_penaltyOf 4 (some .int)) rm_X2_penaltyOf (va_Pc [.ref (ad 1), .int a1, .int a2] (PreG D kA (picC kA ad w) sz)) (va_Qi (fun (r : Int32) (_ : Unit) => r = v) (fun _ t => PosG D (va_A (picC kA ad w) sz) (picC kA ad w) t) (va_A (picC kA ad w) sz)) 0 0 (va_A (picC kA ad w) sz) := by
  refine metG (own := RX2) hst (by decide +kernel) rfl (Nat.le_of_ble_eq_true rfl) rfl ?_
  intro p e s m below meth c X hr hlk E _
  unfold f_X2_penaltyOf at hf
  refine x_aload_n X dX2_penaltyOf_0 0 rfl ?_
  refine x_get X E.1.1 (T := TX2) (C := RX2) inW2 1 rfl rfl 5 (by decide) w_94 rfl (v := .ref (ad 12)) rfl dX2_penaltyOf_1 ?_
  refine x_iload_n X dX2_penaltyOf_4 1 rfl ?_
  refine x_iload_n X dX2_penaltyOf_5 2 rfl ?_
  obtain ⟨x1, hx1, hf⟩ := bn_some hf
  refine x_callSN_i X (As := [.int a1, .int a2]) (rest := [.ref (ad 12)]) (n := 2) (goodY w_294) w_293 w_47 (host := "RoadOracle") (E.1.2.1 _ (NWL_in 339 (by decide +kernel) rfl)) (met_X3_pair l fu a1 a2 x1 hx1) rfl rfl (by decide +kernel) ⟨by decide, by decide⟩ rfl rfl (Nat.le_of_ble_eq_true rfl) dX2_penaltyOf_6 ⟨by decide, by decide⟩ ?_
  refine x_iald X E.1.1 12 rfl dX2_penaltyOf_9 hf (fun x2 hf => ?_)
  refine x_istore_n X (lv2 := [(3, .int x2), (0, .ref (ad 1)), (1, .int a1), (2, .int a2)]) dX2_penaltyOf_10 (by decide) rfl ?_
  refine x_iload_n X dX2_penaltyOf_11 0 rfl ?_
  refine x_bipush X (v := (-2)) dX2_penaltyOf_12 (by decide) ?_
  refine x_icmp_eq X (tgt := 19) dX2_penaltyOf_14 (by decide) hf (fun hf => ?_) (fun hf => ?_)
  · refine x_aload_n X dX2_penaltyOf_19 1 rfl ?_
    refine x_get X E.1.1 (T := TX2) (C := RX2) inW2 1 rfl rfl 3 (by decide) w_89 rfl (v := .ref (ad 10)) rfl dX2_penaltyOf_20 ?_
    refine x_iload_n X dX2_penaltyOf_23 3 rfl ?_
    refine x_iald X E.1.1 10 rfl dX2_penaltyOf_24 hf (fun x3 hf => ?_)
    refine x_aload_n X dX2_penaltyOf_25 1 rfl ?_
    refine x_get X E.1.1 (T := TX2) (C := RX2) inW2 1 rfl rfl 2 (by decide) w_87 rfl (v := .ref (ad 9)) rfl dX2_penaltyOf_26 ?_
    refine x_iload_n X dX2_penaltyOf_29 2 rfl ?_
    refine x_iald X E.1.1 9 rfl dX2_penaltyOf_30 hf (fun x4 hf => ?_)
    refine x_icmp_ne X (tgt := 41) dX2_penaltyOf_31 (by decide) hf (fun hf => ?_) (fun hf => ?_)
    · refine x_iconst X (v := 0) dX2_penaltyOf_41 (by decide) ?_
      exact x_iret X hr hlk rfl (Option.some.inj hf) dX2_penaltyOf_42
    · refine x_aload_n X dX2_penaltyOf_34 1 rfl ?_
      refine x_get X E.1.1 (T := TX2) (C := RX2) inW2 1 rfl rfl 9 (by decide) w_104 rfl (v := .int (w.1 1 9)) rfl dX2_penaltyOf_35 ?_
      refine x_nmI hf (fun x5 hf => ?_)
      refine x_goto X (tgt := 42) dX2_penaltyOf_38 (by decide) ?_
      exact x_iret X hr hlk rfl (Option.some.inj hf) dX2_penaltyOf_42
  · refine x_iload_n X dX2_penaltyOf_17 0 rfl ?_
    exact x_iret X hr hlk rfl (Option.some.inj hf) dX2_penaltyOf_18
end
section
variable {p : Program} {l : Launch} {e : Env} {s : State} {m : MethodId} {args : Array Value} {below : List Frame} {meth : Method} {c : Code} {D : va_G} {kA : Nat → ClassId} {A : Nat → Prop} {Q : State → Prop} {ad al : Nat → Nat} {b L : Nat} {xs : Nat → Int32}
abbrev rm_X2_roadLength : Room := { frames := 0, cells := 0, slots := 0, locals := 0 }
set_option maxRecDepth 100000 in
set_option maxHeartbeats 4000000 in
theorem met_X2_roadLength (l : Launch) (hst : l.stackTraces = false) (D : va_G) (kA : Nat → ClassId) (ad : Nat → Nat) (fu : Nat) (w : WS) (a1 : Int32) (v : Int32) (hf : f_X2_roadLength fu w a1 = some v) (sz : Nat) : Met l yX2_roadLength (wsY yX2_roadLength cX2_roadLength 2 (some .int)) rm_X2_roadLength (va_Pc [.ref (ad 1), .int a1] (PreG D kA (picC kA ad w) sz)) (va_Qi (fun (r : Int32) (_ : Unit) => r = v) (fun _ t => PosG D (va_A (picC kA ad w) sz) (picC kA ad w) t) (va_A (picC kA ad w) sz)) 0 0 (va_A (picC kA ad w) sz) := by
  refine metG (own := RX2) hst (by decide +kernel) rfl (Nat.le_of_ble_eq_true rfl) rfl ?_
  intro p e s m below meth c X hr hlk E _
  unfold f_X2_roadLength at hf
  refine x_aload_n X dX2_roadLength_0 0 rfl ?_
  refine x_get X E.1.1 (T := TX2) (C := RX2) inW2 1 rfl rfl 4 (by decide) w_91 rfl (v := .ref (ad 11)) rfl dX2_roadLength_1 ?_
  refine x_iload_n X dX2_roadLength_4 1 rfl ?_
  refine x_iald X E.1.1 11 rfl dX2_roadLength_5 hf (fun x1 hf => ?_)
  refine x_bipush X (v := 7) dX2_roadLength_6 (by decide) ?_
  refine x_ishl X dX2_roadLength_8 ?_
  refine x_iconst X (v := 1) dX2_roadLength_9 (by decide) ?_
  refine x_iadd X dX2_roadLength_10 ?_
  exact x_iret X hr hlk rfl (Option.some.inj hf) dX2_roadLength_11
end
section
variable {p : Program} {l : Launch} {e : Env} {s : State} {m : MethodId} {args : Array Value} {below : List Frame} {meth : Method} {c : Code} {D : va_G} {kA : Nat → ClassId} {A : Nat → Prop} {Q : State → Prop} {ad al : Nat → Nat} {b L : Nat} {xs : Nat → Int32}
abbrev rm_X2_stepLength : Room := { frames := 2, cells := 0, slots := 0, locals := 44 }
set_option maxRecDepth 100000 in
set_option maxHeartbeats 4000000 in
theorem met_X2_stepLength (l : Launch) (hst : l.stackTraces = false) (D : va_G) (kA : Nat → ClassId) (ad : Nat → Nat) (fu : Nat) (w : WS) (a1 : Int32) (a2 : Int32) (v : Int32) (hf : f_X2_stepLength fu w a1 a2 = some v) (sz : Nat) : Met l yX2_stepLength (wsY yX2_stepLength cX2_stepLength 4 (some .int)) rm_X2_stepLength (va_Pc [.ref (ad 1), .int a1, .int a2] (PreG D kA (picC kA ad w) sz)) (va_Qi (fun (r : Int32) (_ : Unit) => r = v) (fun _ t => PosG D (va_A (picC kA ad w) sz) (picC kA ad w) t) (va_A (picC kA ad w) sz)) 0 0 (va_A (picC kA ad w) sz) := by
  refine metG (own := RX2) hst (by decide +kernel) rfl (Nat.le_of_ble_eq_true rfl) rfl ?_
  intro p e s m below meth c X hr hlk E _
  unfold f_X2_stepLength at hf
  refine x_aload_n X dX2_stepLength_0 0 rfl ?_
  refine x_iload_n X dX2_stepLength_1 1 rfl ?_
  refine x_iload_n X dX2_stepLength_2 2 rfl ?_
  obtain ⟨x1, hx1, hf⟩ := bn_some hf
  refine x_callV_i X E (As := [.int a1, .int a2]) (rest := []) (n := 2) (ws2 := (picC kA ad w)) (goodV w_467 w_468 w_469 w_48 w_470) (met_X2_penaltyOf l E.2.2.2 D kA ad fu w a1 a2 x1 hx1) rfl rfl (by decide +kernel) ⟨by decide, by decide⟩ 1 rfl (qc := (RX2, TX2, _)) rfl rfl rfl rfl (Nat.le_of_ble_eq_true rfl) dX2_stepLength_3 ⟨by decide, by decide⟩ ?_
  refine x_istore_n X (lv2 := [(3, .int x1), (0, .ref (ad 1)), (1, .int a1), (2, .int a2)]) dX2_stepLength_6 (by decide) rfl ?_
  refine x_iload_n X dX2_stepLength_7 0 rfl ?_
  refine x_iconst X (v := (-1)) dX2_stepLength_8 (by decide) ?_
  refine x_icmp_eq X (tgt := 34) dX2_stepLength_9 (by decide) hf (fun hf => ?_) (fun hf => ?_)
  · refine x_ldc X (v := 536870912) w_473 dX2_stepLength_34 ?_
    exact x_iret X hr hlk rfl (Option.some.inj hf) dX2_stepLength_36
  · refine x_aload_n X dX2_stepLength_12 1 rfl ?_
    refine x_get X E.1.1 (T := TX2) (C := RX2) inW2 1 rfl rfl 8 (by decide) w_101 rfl (v := .long (w.2 1 8)) rfl dX2_stepLength_13 ?_
    refine x_nmL hf (fun x2 hf => ?_)
    refine x_iload_n X dX2_stepLength_16 2 rfl ?_
    obtain ⟨x3, hx3, hf⟩ := bn_some hf
    refine x_callSN_i X (As := [.long x2, .int a1]) (rest := []) (n := 2) (goodY w_275) w_274 w_47 (host := "RoadOracle") (E.1.2.1 _ (NWL_in 342 (by decide +kernel) rfl)) (met_X3_has l fu x2 a1 x3 hx3) rfl rfl (by decide +kernel) ⟨by decide, by decide⟩ rfl rfl (Nat.le_of_ble_eq_true rfl) dX2_stepLength_17 ⟨by decide, by decide⟩ ?_
    refine x_if_eq X (tgt := 34) dX2_stepLength_20 (by decide) hf (fun hf => ?_) (fun hf => ?_)
    · refine x_ldc X (v := 536870912) w_473 dX2_stepLength_34 ?_
      exact x_iret X hr hlk rfl (Option.some.inj hf) dX2_stepLength_36
    · refine x_aload_n X dX2_stepLength_23 1 rfl ?_
      refine x_get X E.1.1 (T := TX2) (C := RX2) inW2 1 rfl rfl 8 (by decide) w_101 rfl (v := .long (w.2 1 8)) rfl dX2_stepLength_24 ?_
      refine x_nmL hf (fun x4 hf => ?_)
      refine x_iload_n X dX2_stepLength_27 3 rfl ?_
      obtain ⟨x5, hx5, hf⟩ := bn_some hf
      refine x_callSN_i X (As := [.long x4, .int a2]) (rest := []) (n := 2) (goodY w_275) w_274 w_47 (host := "RoadOracle") (E.1.2.1 _ (NWL_in 342 (by decide +kernel) rfl)) (met_X3_has l fu x4 a2 x5 hx5) rfl rfl (by decide +kernel) ⟨by decide, by decide⟩ rfl rfl (Nat.le_of_ble_eq_true rfl) dX2_stepLength_28 ⟨by decide, by decide⟩ ?_
      refine x_if_ne X (tgt := 37) dX2_stepLength_31 (by decide) hf (fun hf => ?_) (fun hf => ?_)
      · refine x_iload_n X dX2_stepLength_37 0 rfl ?_
        refine x_bipush X (v := 7) dX2_stepLength_38 (by decide) ?_
        refine x_ishl X dX2_stepLength_40 ?_
        refine x_aload_n X dX2_stepLength_41 1 rfl ?_
        refine x_iload_n X dX2_stepLength_42 3 rfl ?_
        obtain ⟨x6, hx6, hf⟩ := bn_some hf
        refine x_callV_i X E (As := [.int a2]) (rest := [.int (x1 <<< ((7 : Int32) &&& 31))]) (n := 1) (ws2 := (picC kA ad w)) (goodV w_474 w_475 w_476 w_48 w_477) (met_X2_roadLength l E.2.2.2 D kA ad fu w a2 x6 hx6) rfl rfl (by decide +kernel) ⟨by decide, by decide⟩ 1 rfl (qc := (RX2, TX2, _)) rfl rfl rfl rfl (Nat.le_of_ble_eq_true rfl) dX2_stepLength_43 ⟨by decide, by decide⟩ ?_
        refine x_iadd X dX2_stepLength_46 ?_
        exact x_iret X hr hlk rfl (Option.some.inj hf) dX2_stepLength_47
      · refine x_ldc X (v := 536870912) w_473 dX2_stepLength_34 ?_
        exact x_iret X hr hlk rfl (Option.some.inj hf) dX2_stepLength_36
end
section
variable {p : Program} {l : Launch} {e : Env} {s : State} {m : MethodId} {args : Array Value} {below : List Frame} {meth : Method} {c : Code} {D : va_G} {kA : Nat → ClassId} {A : Nat → Prop} {Q : State → Prop} {ad al : Nat → Nat} {b L : Nat} {xs : Nat → Int32}
abbrev rm_X0_markArc : Room := { frames := 1, cells := 0, slots := 0, locals := 20 }
set_option maxRecDepth 100000 in
set_option maxHeartbeats 4000000 in
theorem met_X0_markArc (l : Launch) (hst : l.stackTraces = false) (D : va_G) (kA : Nat → ClassId) (ad : Nat → Nat) (fu : Nat) (w : WS) (a1 : Int32) (a2 : Int32) (w1 : WS) (hf : f_X0_markArc fu w a1 a2 = some w1) (sz : Nat) : Met l yX0_markArc (wsY yX0_markArc cX0_markArc 3 none) rm_X0_markArc (va_Pc [.ref (ad 2), .int a1, .int a2] (PreG D kA (picC kA ad w) sz)) (va_Qv (fun (_ : Unit) => True) (fun _ t => PosG D (va_A (picC kA ad w) sz) (picC kA ad w1) t) (va_A (picC kA ad w) sz)) 0 0 (va_A (picC kA ad w) sz) := by
  refine metG (own := RX0) hst (by decide +kernel) rfl (Nat.le_of_ble_eq_true rfl) rfl ?_
  intro p e s m below meth c X hr hlk E _
  unfold f_X0_markArc at hf
  refine x_aload_n X dX0_markArc_0 0 rfl ?_
  refine x_get X E.1.1 (T := TX0) (C := RX0) inW0 2 rfl rfl 5 (by decide) w_144 rfl (v := .ref (ad 15)) rfl dX0_markArc_1 ?_
  refine x_iload_n X dX0_markArc_4 1 rfl ?_
  refine x_iald X E.1.1 15 rfl dX0_markArc_5 hf (fun x1 hf => ?_)
  refine x_aload_n X dX0_markArc_6 0 rfl ?_
  refine x_get X E.1.1 (T := TX0) (C := RX0) inW0 2 rfl rfl 5 (by decide) w_144 rfl (v := .ref (ad 15)) rfl dX0_markArc_7 ?_
  refine x_iload_n X dX0_markArc_10 2 rfl ?_
  refine x_iald X E.1.1 15 rfl dX0_markArc_11 hf (fun x2 hf => ?_)
  refine x_icmp_ge X (tgt := 31) dX0_markArc_12 (by decide) hf (fun hf => ?_) (fun hf => ?_)
  · refine x_aload_n X dX0_markArc_31 0 rfl ?_
    refine x_get X E.1.1 (T := TX0) (C := RX0) inW0 2 rfl rfl 12 (by decide) w_5039 rfl (v := .ref (ad 23)) rfl dX0_markArc_32 ?_
    refine x_iload_n X dX0_markArc_35 2 rfl ?_
    refine x_dup2 X dX0_markArc_36 rfl rfl ?_
    refine x_lald X E.1.1 23 rfl dX0_markArc_37 hf (fun x3 hf => ?_)
    refine x_iload_n X dX0_markArc_38 1 rfl ?_
    obtain ⟨x4, hx4, hf⟩ := bn_some hf
    refine x_callSN_l X (As := [.int a1]) (rest := [.long x3, .int a2, .ref (ad 23)]) (n := 1) (goodY w_433) w_432 w_47 (host := "RoadOracle") (E.1.2.1 _ (NWL_in 316 (by decide +kernel) rfl)) (met_X3_only l fu a1 x4 hx4) rfl rfl (by decide +kernel) ⟨by decide, by decide⟩ rfl rfl (Nat.le_of_ble_eq_true rfl) dX0_markArc_39 ⟨by decide, by decide⟩ ?_
    refine x_lor X dX0_markArc_42 ?_
    refine x_last X E.1.1 23 rfl dX0_markArc_43 hf (picC kA ad) (setC_23 kA ad _ _ _) (fun w5 hf => ?_)
    cases hf
    exact x_vret X hr hlk rfl dX0_markArc_44
  · refine x_aload_n X dX0_markArc_15 0 rfl ?_
    refine x_get X E.1.1 (T := TX0) (C := RX0) inW0 2 rfl rfl 11 (by decide) w_5038 rfl (v := .ref (ad 22)) rfl dX0_markArc_16 ?_
    refine x_iload_n X dX0_markArc_19 1 rfl ?_
    refine x_dup2 X dX0_markArc_20 rfl rfl ?_
    refine x_lald X E.1.1 22 rfl dX0_markArc_21 hf (fun x6 hf => ?_)
    refine x_iload_n X dX0_markArc_22 2 rfl ?_
    obtain ⟨x7, hx7, hf⟩ := bn_some hf
    refine x_callSN_l X (As := [.int a2]) (rest := [.long x6, .int a1, .ref (ad 22)]) (n := 1) (goodY w_433) w_432 w_47 (host := "RoadOracle") (E.1.2.1 _ (NWL_in 316 (by decide +kernel) rfl)) (met_X3_only l fu a2 x7 hx7) rfl rfl (by decide +kernel) ⟨by decide, by decide⟩ rfl rfl (Nat.le_of_ble_eq_true rfl) dX0_markArc_23 ⟨by decide, by decide⟩ ?_
    refine x_lor X dX0_markArc_26 ?_
    refine x_last X E.1.1 22 rfl dX0_markArc_27 hf (picC kA ad) (setC_22 kA ad _ _ _) (fun w8 hf => ?_)
    refine x_goto X (tgt := 44) dX0_markArc_28 (by decide) ?_
    cases hf
    exact x_vret X hr hlk rfl dX0_markArc_44
end
section
variable {p : Program} {l : Launch} {e : Env} {s : State} {m : MethodId} {args : Array Value} {below : List Frame} {meth : Method} {c : Code} {D : va_G} {kA : Nat → ClassId} {A : Nat → Prop} {Q : State → Prop} {ad al : Nat → Nat} {b L : Nat} {xs : Nat → Int32}
abbrev rm_X0_renewStepsFrom : Room := { frames := 3, cells := 0, slots := 0, locals := 67 }
set_option maxRecDepth 100000 in
set_option maxHeartbeats 4000000 in
theorem lp_X0_renewStepsFrom_3 (X : CX p m c cX0_renewStepsFrom 6 s args RX0) (E : EX l s D kA A) (fu : Nat) (y1 : Int32) (y2 : Int64) : ∀ (n : Nat) (y4 : Int32) (w : WS) (rw : WS), iter (fun q => bd_X0_renewStepsFrom_3 fu y1 y2 q.1 q.2) n (y4, w) = some (rw) → CS p l e rm_X0_renewStepsFrom s m args below meth c D A 6 0 0 Q (picC kA ad rw) 75 [] [] → CS p l e rm_X0_renewStepsFrom s m args below meth c D A 6 0 0 Q (picC kA ad w) 3 [(0, .ref (ad 2)), (1, .int y1), (2, .long y2), (4, .int y4)] [] := by
  intro n
  induction n with
  | zero =>
    intro y4 w rw hit kk
    exact (iter_0 hit).elim
  | succ n ih =>
    intro y4 w rw hit kk
    obtain ⟨o, h1, hit⟩ := iter_one hit
    have hf : bd_X0_renewStepsFrom_3 fu y1 y2 y4 w = some o := h1
    unfold bd_X0_renewStepsFrom_3 at hf
    refine x_iload X dX0_renewStepsFrom_3 3 rfl ?_
    refine x_aload_n X dX0_renewStepsFrom_5 0 rfl ?_
    refine x_get X E.1.1 (T := TX0) (C := RX0) inW0 2 rfl rfl 2 (by decide) w_5026 rfl (v := .int (w.1 2 2)) rfl dX0_renewStepsFrom_6 ?_
    refine x_nmI hf (fun x1 hf => ?_)
    refine x_icmp_ge X (tgt := 75) dX0_renewStepsFrom_9 (by decide) hf (fun hf => ?_) (fun hf => ?_)
    · cases hf
      cases hit
      refine x_lpick (lv2 := []) [] rfl ?_
      exact kk
    · refine x_lload_n X dX0_renewStepsFrom_12 2 rfl ?_
      refine x_iload X dX0_renewStepsFrom_13 3 rfl ?_
      obtain ⟨x2, hx2, hf⟩ := bn_some hf
      refine x_callSN_i X (As := [.long y2, .int y4]) (rest := []) (n := 2) (goodY w_275) w_274 w_47 (host := "RoadOracle") (E.1.2.1 _ (NWL_in 313 (by decide +kernel) rfl)) (met_X3_has l fu y2 y4 x2 hx2) rfl rfl (by decide +kernel) ⟨by decide, by decide⟩ rfl rfl (Nat.le_of_ble_eq_true rfl) dX0_renewStepsFrom_15 ⟨by decide, by decide⟩ ?_
      refine x_if_eq X (tgt := 69) dX0_renewStepsFrom_18 (by decide) hf (fun hf => ?_) (fun hf => ?_)
      · refine x_iinc X dX0_renewStepsFrom_69 3 rfl (by decide) (y4 + 1) rfl hf (fun x3 => [(4, .int x3), (0, .ref (ad 2)), (1, .int y1), (2, .long y2)]) (fun _ => rfl) (fun x3 hf => ?_)
        refine x_goto X (tgt := 3) dX0_renewStepsFrom_72 (by decide) ?_
        cases hf
        refine x_lpick (lv2 := [(0, .ref (ad 2)), (1, .int y1), (2, .long y2), (4, .int x3)]) [1, 2, 3, 0] rfl ?_
        exact ih _ _ _ hit kk
      · refine x_aload_n X dX0_renewStepsFrom_21 0 rfl ?_
        refine x_get X E.1.1 (T := TX0) (C := RX0) inW0 2 rfl rfl 0 (by decide) w_136 rfl (v := .ref (ad 1)) rfl dX0_renewStepsFrom_22 ?_
        refine x_iload_n X dX0_renewStepsFrom_25 1 rfl ?_
        refine x_iload X dX0_renewStepsFrom_26 3 rfl ?_
        obtain ⟨x4, hx4, hf⟩ := bn_some hf
        refine x_callV_i X E (As := [.int y1, .int y4]) (rest := []) (n := 2) (ws2 := (picC kA ad w)) (goodV w_5124 w_464 w_465 w_48 w_466) (met_X2_stepLength l E.2.2.2 D kA ad fu w y1 y4 x4 hx4) rfl rfl (by decide +kernel) ⟨by decide, by decide⟩ 1 rfl (qc := (RX2, TX2, _)) rfl rfl rfl rfl (Nat.le_of_ble_eq_true rfl) dX0_renewStepsFrom_28 ⟨by decide, by decide⟩ ?_
        refine x_istore X (lv2 := [(5, .int x4), (0, .ref (ad 2)), (1, .int y1), (2, .long y2), (4, .int y4)]) dX0_renewStepsFrom_31 (by decide) rfl ?_
        refine x_iload X dX0_renewStepsFrom_33 0 rfl ?_
        refine x_aload_n X dX0_renewStepsFrom_35 1 rfl ?_
        refine x_get X E.1.1 (T := TX0) (C := RX0) inW0 2 rfl rfl 10 (by decide) w_5037 rfl (v := .ref (ad 21)) rfl dX0_renewStepsFrom_36 ?_
        refine x_iload_n X dX0_renewStepsFrom_39 2 rfl ?_
        refine x_iload X dX0_renewStepsFrom_40 4 rfl ?_
        obtain ⟨x5, hx5, hf⟩ := bn_some hf
        refine x_callSN_i X (As := [.int y1, .int y4]) (rest := [.ref (ad 21), .int x4]) (n := 2) (goodY w_294) w_293 w_47 (host := "RoadOracle") (E.1.2.1 _ (NWL_in 348 (by decide +kernel) rfl)) (met_X3_pair l fu y1 y4 x5 hx5) rfl rfl (by decide +kernel) ⟨by decide, by decide⟩ rfl rfl (Nat.le_of_ble_eq_true rfl) dX0_renewStepsFrom_42 ⟨by decide, by decide⟩ ?_
        refine x_iald X E.1.1 21 rfl dX0_renewStepsFrom_45 hf (fun x6 hf => ?_)
        refine x_icmp_eq X (tgt := 69) dX0_renewStepsFrom_46 (by decide) hf (fun hf => ?_) (fun hf => ?_)
        · refine x_iinc X dX0_renewStepsFrom_69 4 rfl (by decide) (y4 + 1) rfl hf (fun x7 => [(4, .int x7), (5, .int x4), (0, .ref (ad 2)), (1, .int y1), (2, .long y2)]) (fun _ => rfl) (fun x7 hf => ?_)
          refine x_goto X (tgt := 3) dX0_renewStepsFrom_72 (by decide) ?_
          cases hf
          refine x_lpick (lv2 := [(0, .ref (ad 2)), (1, .int y1), (2, .long y2), (4, .int x7)]) [2, 3, 4, 0] rfl ?_
          exact ih _ _ _ hit kk
        · refine x_aload_n X dX0_renewStepsFrom_49 1 rfl ?_
          refine x_get X E.1.1 (T := TX0) (C := RX0) inW0 2 rfl rfl 10 (by decide) w_5037 rfl (v := .ref (ad 21)) rfl dX0_renewStepsFrom_50 ?_
          refine x_iload_n X dX0_renewStepsFrom_53 2 rfl ?_
          refine x_iload X dX0_renewStepsFrom_54 4 rfl ?_
          obtain ⟨x8, hx8, hf⟩ := bn_some hf
          refine x_callSN_i X (As := [.int y1, .int y4]) (rest := [.ref (ad 21)]) (n := 2) (goodY w_294) w_293 w_47 (host := "RoadOracle") (E.1.2.1 _ (NWL_in 348 (by decide +kernel) rfl)) (met_X3_pair l fu y1 y4 x8 hx8) rfl rfl (by decide +kernel) ⟨by decide, by decide⟩ rfl rfl (Nat.le_of_ble_eq_true rfl) dX0_renewStepsFrom_56 ⟨by decide, by decide⟩ ?_
          refine x_iload X dX0_renewStepsFrom_59 0 rfl ?_
          refine x_iast X E.1.1 21 rfl dX0_renewStepsFrom_61 hf (picC kA ad) (setC_21 kA ad _ _ _) (fun w9 hf => ?_)
          refine x_aload_n X dX0_renewStepsFrom_62 1 rfl ?_
          refine x_iload_n X dX0_renewStepsFrom_63 2 rfl ?_
          refine x_iload X dX0_renewStepsFrom_64 4 rfl ?_
          obtain ⟨w10, hw10, hf⟩ := bn_some hf
          refine x_callV_v X E (As := [.int y1, .int y4]) (rest := []) (n := 2) (ws2 := (picC kA ad w10)) (goodV w_5125 w_5126 s_501 w_50 w_5127) (met_X0_markArc l E.2.2.2 D kA ad fu w9 y1 y4 w10 hw10) rfl rfl (by decide +kernel) ⟨by decide, by decide⟩ 2 rfl (qc := (RX0, TX0, _)) rfl rfl rfl rfl (Nat.le_of_ble_eq_true rfl) dX0_renewStepsFrom_66 ⟨by decide, by decide⟩ ?_
          refine x_iinc X dX0_renewStepsFrom_69 4 rfl (by decide) (y4 + 1) rfl hf (fun x11 => [(4, .int x11), (5, .int x4), (0, .ref (ad 2)), (1, .int y1), (2, .long y2)]) (fun _ => rfl) (fun x11 hf => ?_)
          refine x_goto X (tgt := 3) dX0_renewStepsFrom_72 (by decide) ?_
          cases hf
          refine x_lpick (lv2 := [(0, .ref (ad 2)), (1, .int y1), (2, .long y2), (4, .int x11)]) [2, 3, 4, 0] rfl ?_
          exact ih _ _ _ hit kk
set_option maxRecDepth 100000 in
set_option maxHeartbeats 4000000 in
theorem met_X0_renewStepsFrom (l : Launch) (hst : l.stackTraces = false) (D : va_G) (kA : Nat → ClassId) (ad : Nat → Nat) (fu : Nat) (w : WS) (a1 : Int32) (a2 : Int64) (w1 : WS) (hf : f_X0_renewStepsFrom fu w a1 a2 = some w1) (sz : Nat) : Met l yX0_renewStepsFrom (wsY yX0_renewStepsFrom cX0_renewStepsFrom 6 none) rm_X0_renewStepsFrom (va_Pc [.ref (ad 2), .int a1, .long a2] (PreG D kA (picC kA ad w) sz)) (va_Qv (fun (_ : Unit) => True) (fun _ t => PosG D (va_A (picC kA ad w) sz) (picC kA ad w1) t) (va_A (picC kA ad w) sz)) 0 0 (va_A (picC kA ad w) sz) := by
  refine metG (own := RX0) hst (by decide +kernel) rfl (Nat.le_of_ble_eq_true rfl) rfl ?_
  intro p e s m below meth c X hr hlk E _
  unfold f_X0_renewStepsFrom at hf
  refine x_iconst X (v := 0) dX0_renewStepsFrom_0 (by decide) ?_
  refine x_istore X (lv2 := [(4, .int 0), (0, .ref (ad 2)), (1, .int a1), (2, .long a2)]) dX0_renewStepsFrom_1 (by decide) rfl ?_
  refine x_lpick (lv2 := [(0, .ref (ad 2)), (1, .int a1), (2, .long a2), (4, .int 0)]) [1, 2, 3, 0] rfl ?_
  obtain ⟨w1, h2, hf⟩ := bn_some hf
  refine lp_X0_renewStepsFrom_3 X E fu a1 a2 fu (0 : Int32) w w1 h2 ?_
  cases hf
  exact x_vret X hr hlk rfl dX0_renewStepsFrom_75
end
section
variable {p : Program} {l : Launch} {e : Env} {s : State} {m : MethodId} {args : Array Value} {below : List Frame} {meth : Method} {c : Code} {D : va_G} {kA : Nat → ClassId} {A : Nat → Prop} {Q : State → Prop} {ad al : Nat → Nat} {b L : Nat} {xs : Nat → Int32}
abbrev rm_X0_renewSteps : Room := { frames := 4, cells := 0, slots := 0, locals := 92 }
set_option maxRecDepth 100000 in
set_option maxHeartbeats 4000000 in
theorem lp_X0_renewSteps_3 (X : CX p m c cX0_renewSteps 6 s args RX0) (E : EX l s D kA A) (fu : Nat) (y1 : Int64) (y3 : Int64) : ∀ (n : Nat) (y5 : Int32) (w : WS) (rw : WS), iter (fun q => bd_X0_renewSteps_3 fu y1 y3 q.1 q.2) n (y5, w) = some (rw) → CS p l e rm_X0_renewSteps s m args below meth c D A 6 0 0 Q (picC kA ad rw) 44 [] [] → CS p l e rm_X0_renewSteps s m args below meth c D A 6 0 0 Q (picC kA ad w) 3 [(0, .ref (ad 2)), (1, .long y1), (3, .long y3), (5, .int y5)] [] := by
  intro n
  induction n with
  | zero =>
    intro y5 w rw hit kk
    exact (iter_0 hit).elim
  | succ n ih =>
    intro y5 w rw hit kk
    obtain ⟨o, h1, hit⟩ := iter_one hit
    have hf : bd_X0_renewSteps_3 fu y1 y3 y5 w = some o := h1
    unfold bd_X0_renewSteps_3 at hf
    refine x_iload X dX0_renewSteps_3 3 rfl ?_
    refine x_aload_n X dX0_renewSteps_5 0 rfl ?_
    refine x_get X E.1.1 (T := TX0) (C := RX0) inW0 2 rfl rfl 2 (by decide) w_5026 rfl (v := .int (w.1 2 2)) rfl dX0_renewSteps_6 ?_
    refine x_nmI hf (fun x1 hf => ?_)
    refine x_icmp_ge X (tgt := 44) dX0_renewSteps_9 (by decide) hf (fun hf => ?_) (fun hf => ?_)
    · cases hf
      cases hit
      refine x_lpick (lv2 := []) [] rfl ?_
      exact kk
    · refine x_lload_n X dX0_renewSteps_12 1 rfl ?_
      refine x_iload X dX0_renewSteps_13 3 rfl ?_
      obtain ⟨x2, hx2, hf⟩ := bn_some hf
      refine x_callSN_i X (As := [.long y1, .int y5]) (rest := []) (n := 2) (goodY w_275) w_274 w_47 (host := "RoadOracle") (E.1.2.1 _ (NWL_in 313 (by decide +kernel) rfl)) (met_X3_has l fu y1 y5 x2 hx2) rfl rfl (by decide +kernel) ⟨by decide, by decide⟩ rfl rfl (Nat.le_of_ble_eq_true rfl) dX0_renewSteps_15 ⟨by decide, by decide⟩ ?_
      refine x_if_eq X (tgt := 38) dX0_renewSteps_18 (by decide) hf (fun hf => ?_) (fun hf => ?_)
      · refine x_iinc X dX0_renewSteps_38 3 rfl (by decide) (y5 + 1) rfl hf (fun x3 => [(5, .int x3), (0, .ref (ad 2)), (1, .long y1), (3, .long y3)]) (fun _ => rfl) (fun x3 hf => ?_)
        refine x_goto X (tgt := 3) dX0_renewSteps_41 (by decide) ?_
        cases hf
        refine x_lpick (lv2 := [(0, .ref (ad 2)), (1, .long y1), (3, .long y3), (5, .int x3)]) [1, 2, 3, 0] rfl ?_
        exact ih _ _ _ hit kk
      · refine x_aload_n X dX0_renewSteps_21 0 rfl ?_
        refine x_iload X dX0_renewSteps_22 3 rfl ?_
        refine x_aload_n X dX0_renewSteps_24 0 rfl ?_
        refine x_get X E.1.1 (T := TX0) (C := RX0) inW0 2 rfl rfl 0 (by decide) w_136 rfl (v := .ref (ad 1)) rfl dX0_renewSteps_25 ?_
        refine x_iload X dX0_renewSteps_28 3 rfl ?_
        obtain ⟨x4, hx4, hf⟩ := bn_some hf
        refine x_callV_l X E (As := [.int y5]) (rest := [.int y5, .ref (ad 2)]) (n := 1) (ws2 := (picC kA ad w)) (goodV w_459 w_460 w_461 w_48 w_462) (met_X2_followersOf l E.2.2.2 D kA ad fu w y5 x4 hx4) rfl rfl (by decide +kernel) ⟨by decide, by decide⟩ 1 rfl (qc := (RX2, TX2, _)) rfl rfl rfl rfl (Nat.le_of_ble_eq_true rfl) dX0_renewSteps_30 ⟨by decide, by decide⟩ ?_
        refine x_lload_n X dX0_renewSteps_33 2 rfl ?_
        refine x_land X dX0_renewSteps_34 ?_
        obtain ⟨w5, hw5, hf⟩ := bn_some hf
        refine x_callV_v X E (As := [.int y5, .long (x4 &&& y3)]) (rest := []) (n := 2) (ws2 := (picC kA ad w5)) (goodV w_5121 w_5122 s_500 w_50 w_5123) (met_X0_renewStepsFrom l E.2.2.2 D kA ad fu w y5 (x4 &&& y3) w5 hw5) rfl rfl (by decide +kernel) ⟨by decide, by decide⟩ 2 rfl (qc := (RX0, TX0, _)) rfl rfl rfl rfl (Nat.le_of_ble_eq_true rfl) dX0_renewSteps_35 ⟨by decide, by decide⟩ ?_
        refine x_iinc X dX0_renewSteps_38 3 rfl (by decide) (y5 + 1) rfl hf (fun x6 => [(5, .int x6), (0, .ref (ad 2)), (1, .long y1), (3, .long y3)]) (fun _ => rfl) (fun x6 hf => ?_)
        refine x_goto X (tgt := 3) dX0_renewSteps_41 (by decide) ?_
        cases hf
        refine x_lpick (lv2 := [(0, .ref (ad 2)), (1, .long y1), (3, .long y3), (5, .int x6)]) [1, 2, 3, 0] rfl ?_
        exact ih _ _ _ hit kk
set_option maxRecDepth 100000 in
set_option maxHeartbeats 4000000 in
theorem met_X0_renewSteps (l : Launch) (hst : l.stackTraces = false) (D : va_G) (kA : Nat → ClassId) (ad : Nat → Nat) (fu : Nat) (w : WS) (a1 : Int64) (a3 : Int64) (w1 : WS) (hf : f_X0_renewSteps fu w a1 a3 = some w1) (sz : Nat) : Met l yX0_renewSteps (wsY yX0_renewSteps cX0_renewSteps 6 none) rm_X0_renewSteps (va_Pc [.ref (ad 2), .long a1, .long a3] (PreG D kA (picC kA ad w) sz)) (va_Qv (fun (_ : Unit) => True) (fun _ t => PosG D (va_A (picC kA ad w) sz) (picC kA ad w1) t) (va_A (picC kA ad w) sz)) 0 0 (va_A (picC kA ad w) sz) := by
  refine metG (own := RX0) hst (by decide +kernel) rfl (Nat.le_of_ble_eq_true rfl) rfl ?_
  intro p e s m below meth c X hr hlk E _
  unfold f_X0_renewSteps at hf
  refine x_iconst X (v := 0) dX0_renewSteps_0 (by decide) ?_
  refine x_istore X (lv2 := [(5, .int 0), (0, .ref (ad 2)), (1, .long a1), (3, .long a3)]) dX0_renewSteps_1 (by decide) rfl ?_
  refine x_lpick (lv2 := [(0, .ref (ad 2)), (1, .long a1), (3, .long a3), (5, .int 0)]) [1, 2, 3, 0] rfl ?_
  obtain ⟨w1, h2, hf⟩ := bn_some hf
  refine lp_X0_renewSteps_3 X E fu a1 a3 fu (0 : Int32) w w1 h2 ?_
  cases hf
  exact x_vret X hr hlk rfl dX0_renewSteps_44
end
section
variable {p : Program} {l : Launch} {e : Env} {s : State} {m : MethodId} {args : Array Value} {below : List Frame} {meth : Method} {c : Code} {D : va_G} {kA : Nat → ClassId} {A : Nat → Prop} {Q : State → Prop} {ad al : Nat → Nat} {b L : Nat} {xs : Nat → Int32}
abbrev rm_X0_computeArc : Room := { frames := 1, cells := 0, slots := 0, locals := 22 }
set_option maxRecDepth 100000 in
set_option maxHeartbeats 4000000 in
theorem lp_X0_computeArc_46 (X : CX p m c cX0_computeArc 10 s args RX0) (E : EX l s D kA A) (fu : Nat) (w : WS) (y1 : Int32) (y2 : Int32) (y4 : Int64) (y6 : Int32) : ∀ (n : Nat) (y3 : Int32) (y7 : Int32) (r3 : Int32), iter (fun q => bd_X0_computeArc_46 fu w y1 y2 y4 y6 q.1 q.2) n (y3, y7) = some (r3) → CS p l e rm_X0_computeArc s m args below meth c D A 10 0 0 Q (picC kA ad w) 110 [(3, .int r3)] [] → CS p l e rm_X0_computeArc s m args below meth c D A 10 0 0 Q (picC kA ad w) 46 [(0, .ref (ad 2)), (1, .int y1), (2, .int y2), (3, .int y3), (4, .long y4), (6, .int y6), (7, .int y7)] [] := by
  intro n
  induction n with
  | zero =>
    intro y3 y7 r3 hit kk
    exact (iter_0 hit).elim
  | succ n ih =>
    intro y3 y7 r3 hit kk
    obtain ⟨o, h1, hit⟩ := iter_one hit
    have hf : bd_X0_computeArc_46 fu w y1 y2 y4 y6 y3 y7 = some o := h1
    unfold bd_X0_computeArc_46 at hf
    refine x_iload X dX0_computeArc_46 6 rfl ?_
    refine x_iload X dX0_computeArc_48 5 rfl ?_
    refine x_icmp_ge X (tgt := 110) dX0_computeArc_50 (by decide) hf (fun hf => ?_) (fun hf => ?_)
    · cases hf
      cases hit
      refine x_lpick (lv2 := [(3, .int y3)]) [3] rfl ?_
      exact kk
    · refine x_aload_n X dX0_computeArc_53 0 rfl ?_
      refine x_get X E.1.1 (T := TX0) (C := RX0) inW0 2 rfl rfl 6 (by decide) w_146 rfl (v := .ref (ad 16)) rfl dX0_computeArc_54 ?_
      refine x_iload X dX0_computeArc_57 6 rfl ?_
      refine x_iald X E.1.1 16 rfl dX0_computeArc_59 hf (fun x1 hf => ?_)
      refine x_istore X (lv2 := [(8, .int x1), (0, .ref (ad 2)), (1, .int y1), (2, .int y2), (3, .int y3), (4, .long y4), (6, .int y6), (7, .int y7)]) dX0_computeArc_60 (by decide) rfl ?_
      refine x_lload X dX0_computeArc_62 5 rfl ?_
      refine x_iload X dX0_computeArc_64 0 rfl ?_
      obtain ⟨x2, hx2, hf⟩ := bn_some hf
      refine x_callSN_i X (As := [.long y4, .int x1]) (rest := []) (n := 2) (goodY w_275) w_274 w_47 (host := "RoadOracle") (E.1.2.1 _ (NWL_in 313 (by decide +kernel) rfl)) (met_X3_has l fu y4 x1 x2 hx2) rfl rfl (by decide +kernel) ⟨by decide, by decide⟩ rfl rfl (Nat.le_of_ble_eq_true rfl) dX0_computeArc_66 ⟨by decide, by decide⟩ ?_
      refine x_if_eq X (tgt := 104) dX0_computeArc_69 (by decide) hf (fun hf => ?_) (fun hf => ?_)
      · refine x_iinc X dX0_computeArc_104 7 rfl (by decide) (y7 + 1) rfl hf (fun x3 => [(7, .int x3), (8, .int x1), (0, .ref (ad 2)), (1, .int y1), (2, .int y2), (3, .int y3), (4, .long y4), (6, .int y6)]) (fun _ => rfl) (fun x3 hf => ?_)
        refine x_goto X (tgt := 46) dX0_computeArc_107 (by decide) ?_
        cases hf
        refine x_lpick (lv2 := [(0, .ref (ad 2)), (1, .int y1), (2, .int y2), (3, .int y3), (4, .long y4), (6, .int y6), (7, .int x3)]) [2, 3, 4, 5, 6, 7, 0] rfl ?_
        exact ih _ _ _ hit kk
      · refine x_aload_n X dX0_computeArc_72 1 rfl ?_
        refine x_get X E.1.1 (T := TX0) (C := RX0) inW0 2 rfl rfl 9 (by decide) w_5035 rfl (v := .ref (ad 20)) rfl dX0_computeArc_73 ?_
        refine x_iload_n X dX0_computeArc_76 2 rfl ?_
        refine x_iload X dX0_computeArc_77 0 rfl ?_
        obtain ⟨x4, hx4, hf⟩ := bn_some hf
        refine x_callSN_i X (As := [.int y1, .int x1]) (rest := [.ref (ad 20)]) (n := 2) (goodY w_294) w_293 w_47 (host := "RoadOracle") (E.1.2.1 _ (NWL_in 348 (by decide +kernel) rfl)) (met_X3_pair l fu y1 x1 x4 hx4) rfl rfl (by decide +kernel) ⟨by decide, by decide⟩ rfl rfl (Nat.le_of_ble_eq_true rfl) dX0_computeArc_79 ⟨by decide, by decide⟩ ?_
        refine x_iald X E.1.1 20 rfl dX0_computeArc_82 hf (fun x5 hf => ?_)
        refine x_aload_n X dX0_computeArc_83 1 rfl ?_
        refine x_get X E.1.1 (T := TX0) (C := RX0) inW0 2 rfl rfl 9 (by decide) w_5035 rfl (v := .ref (ad 20)) rfl dX0_computeArc_84 ?_
        refine x_iload X dX0_computeArc_87 0 rfl ?_
        refine x_iload_n X dX0_computeArc_89 3 rfl ?_
        obtain ⟨x6, hx6, hf⟩ := bn_some hf
        refine x_callSN_i X (As := [.int x1, .int y2]) (rest := [.ref (ad 20), .int x5]) (n := 2) (goodY w_294) w_293 w_47 (host := "RoadOracle") (E.1.2.1 _ (NWL_in 348 (by decide +kernel) rfl)) (met_X3_pair l fu x1 y2 x6 hx6) rfl rfl (by decide +kernel) ⟨by decide, by decide⟩ rfl rfl (Nat.le_of_ble_eq_true rfl) dX0_computeArc_90 ⟨by decide, by decide⟩ ?_
        refine x_iald X E.1.1 20 rfl dX0_computeArc_93 hf (fun x7 hf => ?_)
        refine x_iadd X dX0_computeArc_94 ?_
        refine x_nmI hf (fun x8 hf => ?_)
        refine x_istore X (lv2 := [(9, .int x8), (8, .int x1), (0, .ref (ad 2)), (1, .int y1), (2, .int y2), (3, .int y3), (4, .long y4), (6, .int y6), (7, .int y7)]) dX0_computeArc_95 (by decide) rfl ?_
        refine x_iload_n X dX0_computeArc_97 5 rfl ?_
        refine x_iload X dX0_computeArc_98 0 rfl ?_
        refine x_mmin X w_5133 w_496 w_62 w_497 (by decide) (Nat.le_of_ble_eq_true rfl) (by decide) (by decide) dX0_computeArc_100 ?_
        refine x_nmI hf (fun x9 hf => ?_)
        refine x_istore_n X (lv2 := [(3, .int x9), (9, .int x8), (8, .int x1), (0, .ref (ad 2)), (1, .int y1), (2, .int y2), (4, .long y4), (6, .int y6), (7, .int y7)]) dX0_computeArc_103 (by decide) rfl ?_
        refine x_iinc X dX0_computeArc_104 8 rfl (by decide) (y7 + 1) rfl hf (fun x10 => [(7, .int x10), (3, .int x9), (9, .int x8), (8, .int x1), (0, .ref (ad 2)), (1, .int y1), (2, .int y2), (4, .long y4), (6, .int y6)]) (fun _ => rfl) (fun x10 hf => ?_)
        refine x_goto X (tgt := 46) dX0_computeArc_107 (by decide) ?_
        cases hf
        refine x_lpick (lv2 := [(0, .ref (ad 2)), (1, .int y1), (2, .int y2), (3, .int x9), (4, .long y4), (6, .int y6), (7, .int x10)]) [4, 5, 6, 1, 7, 8, 0] rfl ?_
        exact ih _ _ _ hit kk
set_option maxRecDepth 100000 in
set_option maxHeartbeats 4000000 in
theorem met_X0_computeArc (l : Launch) (hst : l.stackTraces = false) (D : va_G) (kA : Nat → ClassId) (ad : Nat → Nat) (fu : Nat) (w : WS) (a1 : Int32) (a2 : Int32) (v : Int32) (hf : f_X0_computeArc fu w a1 a2 = some v) (sz : Nat) : Met l yX0_computeArc (wsY yX0_computeArc cX0_computeArc 10 (some .int)) rm_X0_computeArc (va_Pc [.ref (ad 2), .int a1, .int a2] (PreG D kA (picC kA ad w) sz)) (va_Qi (fun (r : Int32) (_ : Unit) => r = v) (fun _ t => PosG D (va_A (picC kA ad w) sz) (picC kA ad w) t) (va_A (picC kA ad w) sz)) 0 0 (va_A (picC kA ad w) sz) := by
  refine metG (own := RX0) hst (by decide +kernel) rfl (Nat.le_of_ble_eq_true rfl) rfl ?_
  intro p e s m below meth c X hr hlk E _
  unfold f_X0_computeArc at hf
  refine x_aload_n X dX0_computeArc_0 0 rfl ?_
  refine x_get X E.1.1 (T := TX0) (C := RX0) inW0 2 rfl rfl 10 (by decide) w_5037 rfl (v := .ref (ad 21)) rfl dX0_computeArc_1 ?_
  refine x_iload_n X dX0_computeArc_4 1 rfl ?_
  refine x_iload_n X dX0_computeArc_5 2 rfl ?_
  obtain ⟨x1, hx1, hf⟩ := bn_some hf
  refine x_callSN_i X (As := [.int a1, .int a2]) (rest := [.ref (ad 21)]) (n := 2) (goodY w_294) w_293 w_47 (host := "RoadOracle") (E.1.2.1 _ (NWL_in 348 (by decide +kernel) rfl)) (met_X3_pair l fu a1 a2 x1 hx1) rfl rfl (by decide +kernel) ⟨by decide, by decide⟩ rfl rfl (Nat.le_of_ble_eq_true rfl) dX0_computeArc_6 ⟨by decide, by decide⟩ ?_
  refine x_iald X E.1.1 21 rfl dX0_computeArc_9 hf (fun x2 hf => ?_)
  refine x_istore_n X (lv2 := [(3, .int x2), (0, .ref (ad 2)), (1, .int a1), (2, .int a2)]) dX0_computeArc_10 (by decide) rfl ?_
  refine x_aload_n X dX0_computeArc_11 1 rfl ?_
  refine x_get X E.1.1 (T := TX0) (C := RX0) inW0 2 rfl rfl 7 (by decide) w_5032 rfl (v := .ref (ad 18)) rfl dX0_computeArc_12 ?_
  refine x_iload_n X dX0_computeArc_15 2 rfl ?_
  refine x_lald X E.1.1 18 rfl dX0_computeArc_16 hf (fun x3 hf => ?_)
  refine x_aload_n X dX0_computeArc_17 1 rfl ?_
  refine x_get X E.1.1 (T := TX0) (C := RX0) inW0 2 rfl rfl 8 (by decide) w_5034 rfl (v := .ref (ad 19)) rfl dX0_computeArc_18 ?_
  refine x_iload_n X dX0_computeArc_21 3 rfl ?_
  refine x_lald X E.1.1 19 rfl dX0_computeArc_22 hf (fun x4 hf => ?_)
  refine x_land X dX0_computeArc_23 ?_
  refine x_nmL hf (fun x5 hf => ?_)
  refine x_lstore X (lv2 := [(4, .long x5), (3, .int x2), (0, .ref (ad 2)), (1, .int a1), (2, .int a2)]) dX0_computeArc_24 (by decide) rfl ?_
  refine x_aload_n X dX0_computeArc_26 2 rfl ?_
  refine x_get X E.1.1 (T := TX0) (C := RX0) inW0 2 rfl rfl 5 (by decide) w_144 rfl (v := .ref (ad 15)) rfl dX0_computeArc_27 ?_
  refine x_iload_n X dX0_computeArc_30 3 rfl ?_
  refine x_iald X E.1.1 15 rfl dX0_computeArc_31 hf (fun x6 hf => ?_)
  refine x_aload_n X dX0_computeArc_32 2 rfl ?_
  refine x_get X E.1.1 (T := TX0) (C := RX0) inW0 2 rfl rfl 5 (by decide) w_144 rfl (v := .ref (ad 15)) rfl dX0_computeArc_33 ?_
  refine x_iload_n X dX0_computeArc_36 4 rfl ?_
  refine x_iald X E.1.1 15 rfl dX0_computeArc_37 hf (fun x7 hf => ?_)
  refine x_mmin X w_5133 w_496 w_62 w_497 (by decide) (Nat.le_of_ble_eq_true rfl) (by decide) (by decide) dX0_computeArc_38 ?_
  refine x_nmI hf (fun x8 hf => ?_)
  refine x_istore X (lv2 := [(6, .int x8), (4, .long x5), (3, .int x2), (0, .ref (ad 2)), (1, .int a1), (2, .int a2)]) dX0_computeArc_41 (by decide) rfl ?_
  refine x_iconst X (v := 0) dX0_computeArc_43 (by decide) ?_
  refine x_istore X (lv2 := [(7, .int 0), (6, .int x8), (4, .long x5), (3, .int x2), (0, .ref (ad 2)), (1, .int a1), (2, .int a2)]) dX0_computeArc_44 (by decide) rfl ?_
  refine x_lpick (lv2 := [(0, .ref (ad 2)), (1, .int a1), (2, .int a2), (3, .int x2), (4, .long x5), (6, .int x8), (7, .int 0)]) [4, 5, 6, 3, 2, 1, 0] rfl ?_
  obtain ⟨x9, h10, hf⟩ := bn_some hf
  refine lp_X0_computeArc_46 X E fu w a1 a2 x5 x8 fu x2 (0 : Int32) x9 h10 ?_
  refine x_iload_n X dX0_computeArc_110 0 rfl ?_
  exact x_iret X hr hlk rfl (Option.some.inj hf) dX0_computeArc_111
end
section
variable {p : Program} {l : Launch} {e : Env} {s : State} {m : MethodId} {args : Array Value} {below : List Frame} {meth : Method} {c : Code} {D : va_G} {kA : Nat → ClassId} {A : Nat → Prop} {Q : State → Prop} {ad al : Nat → Nat} {b L : Nat} {xs : Nat → Int32}
abbrev rm_X0_markAbove : Room := { frames := 2, cells := 0, slots := 0, locals := 42 }
set_option maxRecDepth 100000 in
set_option maxHeartbeats 4000000 in
theorem lp_X0_markAbove_85 (X : CX p m c cX0_markAbove 5 s args RX0) (E : EX l s D kA A) (fu : Nat) (y1 : Int32) (y2 : Int32) : ∀ (n : Nat) (y3 : Int32) (w : WS) (rw : WS), iter (fun q => bd_X0_markAbove_85 fu y1 y2 q.1 q.2) n (y3, w) = some (rw) → CS p l e rm_X0_markAbove s m args below meth c D A 5 0 0 Q (picC kA ad rw) 134 [] [] → CS p l e rm_X0_markAbove s m args below meth c D A 5 0 0 Q (picC kA ad w) 85 [(0, .ref (ad 2)), (1, .int y1), (2, .int y2), (3, .int y3)] [] := by
  intro n
  induction n with
  | zero =>
    intro y3 w rw hit kk
    exact (iter_0 hit).elim
  | succ n ih =>
    intro y3 w rw hit kk
    obtain ⟨o, h1, hit⟩ := iter_one hit
    have hf : bd_X0_markAbove_85 fu y1 y2 y3 w = some o := h1
    unfold bd_X0_markAbove_85 at hf
    refine x_iload_n X dX0_markAbove_85 3 rfl ?_
    refine x_aload_n X dX0_markAbove_86 0 rfl ?_
    refine x_get X E.1.1 (T := TX0) (C := RX0) inW0 2 rfl rfl 2 (by decide) w_5026 rfl (v := .int (w.1 2 2)) rfl dX0_markAbove_87 ?_
    refine x_nmI hf (fun x1 hf => ?_)
    refine x_icmp_ge X (tgt := 134) dX0_markAbove_90 (by decide) hf (fun hf => ?_) (fun hf => ?_)
    · cases hf
      cases hit
      refine x_lpick (lv2 := []) [] rfl ?_
      exact kk
    · refine x_aload_n X dX0_markAbove_93 0 rfl ?_
      refine x_get X E.1.1 (T := TX0) (C := RX0) inW0 2 rfl rfl 6 (by decide) w_146 rfl (v := .ref (ad 16)) rfl dX0_markAbove_94 ?_
      refine x_iload_n X dX0_markAbove_97 3 rfl ?_
      refine x_iald X E.1.1 16 rfl dX0_markAbove_98 hf (fun x2 hf => ?_)
      refine x_istore X (lv2 := [(4, .int x2), (0, .ref (ad 2)), (1, .int y1), (2, .int y2), (3, .int y3)]) dX0_markAbove_99 (by decide) rfl ?_
      refine x_iload X dX0_markAbove_101 0 rfl ?_
      refine x_iload_n X dX0_markAbove_103 2 rfl ?_
      refine x_icmp_eq X (tgt := 128) dX0_markAbove_104 (by decide) hf (fun hf => ?_) (fun hf => ?_)
      · refine x_iinc X dX0_markAbove_128 4 rfl (by decide) (y3 + 1) rfl hf (fun x3 => [(3, .int x3), (4, .int x2), (0, .ref (ad 2)), (1, .int y1), (2, .int y2)]) (fun _ => rfl) (fun x3 hf => ?_)
        refine x_goto X (tgt := 85) dX0_markAbove_131 (by decide) ?_
        cases hf
        refine x_lpick (lv2 := [(0, .ref (ad 2)), (1, .int y1), (2, .int y2), (3, .int x3)]) [2, 3, 4, 0] rfl ?_
        exact ih _ _ _ hit kk
      · refine x_aload_n X dX0_markAbove_107 1 rfl ?_
        refine x_get X E.1.1 (T := TX0) (C := RX0) inW0 2 rfl rfl 7 (by decide) w_5032 rfl (v := .ref (ad 18)) rfl dX0_markAbove_108 ?_
        refine x_iload_n X dX0_markAbove_111 3 rfl ?_
        refine x_lald X E.1.1 18 rfl dX0_markAbove_112 hf (fun x4 hf => ?_)
        refine x_iload X dX0_markAbove_113 0 rfl ?_
        obtain ⟨x5, hx5, hf⟩ := bn_some hf
        refine x_callSN_i X (As := [.long x4, .int x2]) (rest := []) (n := 2) (goodY w_275) w_274 w_47 (host := "RoadOracle") (E.1.2.1 _ (NWL_in 313 (by decide +kernel) rfl)) (met_X3_has l fu x4 x2 x5 hx5) rfl rfl (by decide +kernel) ⟨by decide, by decide⟩ rfl rfl (Nat.le_of_ble_eq_true rfl) dX0_markAbove_115 ⟨by decide, by decide⟩ ?_
        refine x_if_eq X (tgt := 128) dX0_markAbove_118 (by decide) hf (fun hf => ?_) (fun hf => ?_)
        · refine x_iinc X dX0_markAbove_128 4 rfl (by decide) (y3 + 1) rfl hf (fun x6 => [(3, .int x6), (4, .int x2), (0, .ref (ad 2)), (1, .int y1), (2, .int y2)]) (fun _ => rfl) (fun x6 hf => ?_)
          refine x_goto X (tgt := 85) dX0_markAbove_131 (by decide) ?_
          cases hf
          refine x_lpick (lv2 := [(0, .ref (ad 2)), (1, .int y1), (2, .int y2), (3, .int x6)]) [2, 3, 4, 0] rfl ?_
          exact ih _ _ _ hit kk
        · refine x_aload_n X dX0_markAbove_121 1 rfl ?_
          refine x_iload_n X dX0_markAbove_122 2 rfl ?_
          refine x_iload X dX0_markAbove_123 0 rfl ?_
          obtain ⟨w7, hw7, hf⟩ := bn_some hf
          refine x_callV_v X E (As := [.int y1, .int x2]) (rest := []) (n := 2) (ws2 := (picC kA ad w7)) (goodV w_5125 w_5126 s_501 w_50 w_5127) (met_X0_markArc l E.2.2.2 D kA ad fu w y1 x2 w7 hw7) rfl rfl (by decide +kernel) ⟨by decide, by decide⟩ 2 rfl (qc := (RX0, TX0, _)) rfl rfl rfl rfl (Nat.le_of_ble_eq_true rfl) dX0_markAbove_125 ⟨by decide, by decide⟩ ?_
          refine x_iinc X dX0_markAbove_128 4 rfl (by decide) (y3 + 1) rfl hf (fun x8 => [(3, .int x8), (4, .int x2), (0, .ref (ad 2)), (1, .int y1), (2, .int y2)]) (fun _ => rfl) (fun x8 hf => ?_)
          refine x_goto X (tgt := 85) dX0_markAbove_131 (by decide) ?_
          cases hf
          refine x_lpick (lv2 := [(0, .ref (ad 2)), (1, .int y1), (2, .int y2), (3, .int x8)]) [2, 3, 4, 0] rfl ?_
          exact ih _ _ _ hit kk
set_option maxRecDepth 100000 in
set_option maxHeartbeats 4000000 in
theorem lp_X0_markAbove_24 (X : CX p m c cX0_markAbove 5 s args RX0) (E : EX l s D kA A) (fu : Nat) (y1 : Int32) (y2 : Int32) : ∀ (n : Nat) (y3 : Int32) (w : WS) (rw : WS), iter (fun q => bd_X0_markAbove_24 fu y1 y2 q.1 q.2) n (y3, w) = some (rw) → CS p l e rm_X0_markAbove s m args below meth c D A 5 0 0 Q (picC kA ad rw) 73 [] [] → CS p l e rm_X0_markAbove s m args below meth c D A 5 0 0 Q (picC kA ad w) 24 [(0, .ref (ad 2)), (1, .int y1), (2, .int y2), (3, .int y3)] [] := by
  intro n
  induction n with
  | zero =>
    intro y3 w rw hit kk
    exact (iter_0 hit).elim
  | succ n ih =>
    intro y3 w rw hit kk
    obtain ⟨o, h1, hit⟩ := iter_one hit
    have hf : bd_X0_markAbove_24 fu y1 y2 y3 w = some o := h1
    unfold bd_X0_markAbove_24 at hf
    refine x_iload_n X dX0_markAbove_24 3 rfl ?_
    refine x_aload_n X dX0_markAbove_25 0 rfl ?_
    refine x_get X E.1.1 (T := TX0) (C := RX0) inW0 2 rfl rfl 2 (by decide) w_5026 rfl (v := .int (w.1 2 2)) rfl dX0_markAbove_26 ?_
    refine x_nmI hf (fun x1 hf => ?_)
    refine x_icmp_ge X (tgt := 73) dX0_markAbove_29 (by decide) hf (fun hf => ?_) (fun hf => ?_)
    · cases hf
      cases hit
      refine x_lpick (lv2 := []) [] rfl ?_
      exact kk
    · refine x_aload_n X dX0_markAbove_32 0 rfl ?_
      refine x_get X E.1.1 (T := TX0) (C := RX0) inW0 2 rfl rfl 6 (by decide) w_146 rfl (v := .ref (ad 16)) rfl dX0_markAbove_33 ?_
      refine x_iload_n X dX0_markAbove_36 3 rfl ?_
      refine x_iald X E.1.1 16 rfl dX0_markAbove_37 hf (fun x2 hf => ?_)
      refine x_istore X (lv2 := [(4, .int x2), (0, .ref (ad 2)), (1, .int y1), (2, .int y2), (3, .int y3)]) dX0_markAbove_38 (by decide) rfl ?_
      refine x_iload X dX0_markAbove_40 0 rfl ?_
      refine x_iload_n X dX0_markAbove_42 3 rfl ?_
      refine x_icmp_eq X (tgt := 67) dX0_markAbove_43 (by decide) hf (fun hf => ?_) (fun hf => ?_)
      · refine x_iinc X dX0_markAbove_67 4 rfl (by decide) (y3 + 1) rfl hf (fun x3 => [(3, .int x3), (4, .int x2), (0, .ref (ad 2)), (1, .int y1), (2, .int y2)]) (fun _ => rfl) (fun x3 hf => ?_)
        refine x_goto X (tgt := 24) dX0_markAbove_70 (by decide) ?_
        cases hf
        refine x_lpick (lv2 := [(0, .ref (ad 2)), (1, .int y1), (2, .int y2), (3, .int x3)]) [2, 3, 4, 0] rfl ?_
        exact ih _ _ _ hit kk
      · refine x_aload_n X dX0_markAbove_46 1 rfl ?_
        refine x_get X E.1.1 (T := TX0) (C := RX0) inW0 2 rfl rfl 8 (by decide) w_5034 rfl (v := .ref (ad 19)) rfl dX0_markAbove_47 ?_
        refine x_iload_n X dX0_markAbove_50 2 rfl ?_
        refine x_lald X E.1.1 19 rfl dX0_markAbove_51 hf (fun x4 hf => ?_)
        refine x_iload X dX0_markAbove_52 0 rfl ?_
        obtain ⟨x5, hx5, hf⟩ := bn_some hf
        refine x_callSN_i X (As := [.long x4, .int x2]) (rest := []) (n := 2) (goodY w_275) w_274 w_47 (host := "RoadOracle") (E.1.2.1 _ (NWL_in 313 (by decide +kernel) rfl)) (met_X3_has l fu x4 x2 x5 hx5) rfl rfl (by decide +kernel) ⟨by decide, by decide⟩ rfl rfl (Nat.le_of_ble_eq_true rfl) dX0_markAbove_54 ⟨by decide, by decide⟩ ?_
        refine x_if_eq X (tgt := 67) dX0_markAbove_57 (by decide) hf (fun hf => ?_) (fun hf => ?_)
        · refine x_iinc X dX0_markAbove_67 4 rfl (by decide) (y3 + 1) rfl hf (fun x6 => [(3, .int x6), (4, .int x2), (0, .ref (ad 2)), (1, .int y1), (2, .int y2)]) (fun _ => rfl) (fun x6 hf => ?_)
          refine x_goto X (tgt := 24) dX0_markAbove_70 (by decide) ?_
          cases hf
          refine x_lpick (lv2 := [(0, .ref (ad 2)), (1, .int y1), (2, .int y2), (3, .int x6)]) [2, 3, 4, 0] rfl ?_
          exact ih _ _ _ hit kk
        · refine x_aload_n X dX0_markAbove_60 1 rfl ?_
          refine x_iload X dX0_markAbove_61 0 rfl ?_
          refine x_iload_n X dX0_markAbove_63 3 rfl ?_
          obtain ⟨w7, hw7, hf⟩ := bn_some hf
          refine x_callV_v X E (As := [.int x2, .int y2]) (rest := []) (n := 2) (ws2 := (picC kA ad w7)) (goodV w_5125 w_5126 s_501 w_50 w_5127) (met_X0_markArc l E.2.2.2 D kA ad fu w x2 y2 w7 hw7) rfl rfl (by decide +kernel) ⟨by decide, by decide⟩ 2 rfl (qc := (RX0, TX0, _)) rfl rfl rfl rfl (Nat.le_of_ble_eq_true rfl) dX0_markAbove_64 ⟨by decide, by decide⟩ ?_
          refine x_iinc X dX0_markAbove_67 4 rfl (by decide) (y3 + 1) rfl hf (fun x8 => [(3, .int x8), (4, .int x2), (0, .ref (ad 2)), (1, .int y1), (2, .int y2)]) (fun _ => rfl) (fun x8 hf => ?_)
          refine x_goto X (tgt := 24) dX0_markAbove_70 (by decide) ?_
          cases hf
          refine x_lpick (lv2 := [(0, .ref (ad 2)), (1, .int y1), (2, .int y2), (3, .int x8)]) [2, 3, 4, 0] rfl ?_
          exact ih _ _ _ hit kk
set_option maxRecDepth 100000 in
set_option maxHeartbeats 4000000 in
theorem met_X0_markAbove (l : Launch) (hst : l.stackTraces = false) (D : va_G) (kA : Nat → ClassId) (ad : Nat → Nat) (fu : Nat) (w : WS) (a1 : Int32) (a2 : Int32) (w1 : WS) (hf : f_X0_markAbove fu w a1 a2 = some w1) (sz : Nat) : Met l yX0_markAbove (wsY yX0_markAbove cX0_markAbove 5 none) rm_X0_markAbove (va_Pc [.ref (ad 2), .int a1, .int a2] (PreG D kA (picC kA ad w) sz)) (va_Qv (fun (_ : Unit) => True) (fun _ t => PosG D (va_A (picC kA ad w) sz) (picC kA ad w1) t) (va_A (picC kA ad w) sz)) 0 0 (va_A (picC kA ad w) sz) := by
  refine metG (own := RX0) hst (by decide +kernel) rfl (Nat.le_of_ble_eq_true rfl) rfl ?_
  intro p e s m below meth c X hr hlk E _
  unfold f_X0_markAbove at hf
  refine x_aload_n X dX0_markAbove_0 0 rfl ?_
  refine x_get X E.1.1 (T := TX0) (C := RX0) inW0 2 rfl rfl 5 (by decide) w_144 rfl (v := .ref (ad 15)) rfl dX0_markAbove_1 ?_
  refine x_iload_n X dX0_markAbove_4 1 rfl ?_
  refine x_iald X E.1.1 15 rfl dX0_markAbove_5 hf (fun x1 hf => ?_)
  refine x_aload_n X dX0_markAbove_6 0 rfl ?_
  refine x_get X E.1.1 (T := TX0) (C := RX0) inW0 2 rfl rfl 5 (by decide) w_144 rfl (v := .ref (ad 15)) rfl dX0_markAbove_7 ?_
  refine x_iload_n X dX0_markAbove_10 2 rfl ?_
  refine x_iald X E.1.1 15 rfl dX0_markAbove_11 hf (fun x2 hf => ?_)
  refine x_icmp_ge X (tgt := 76) dX0_markAbove_12 (by decide) hf (fun hf => ?_) (fun hf => ?_)
  · refine x_aload_n X dX0_markAbove_76 0 rfl ?_
    refine x_get X E.1.1 (T := TX0) (C := RX0) inW0 2 rfl rfl 5 (by decide) w_144 rfl (v := .ref (ad 15)) rfl dX0_markAbove_77 ?_
    refine x_iload_n X dX0_markAbove_80 2 rfl ?_
    refine x_iald X E.1.1 15 rfl dX0_markAbove_81 hf (fun x3 hf => ?_)
    refine x_iconst X (v := 1) dX0_markAbove_82 (by decide) ?_
    refine x_iadd X dX0_markAbove_83 ?_
    refine x_nmI hf (fun x4 hf => ?_)
    refine x_istore_n X (lv2 := [(3, .int x4), (0, .ref (ad 2)), (1, .int a1), (2, .int a2)]) dX0_markAbove_84 (by decide) rfl ?_
    refine x_lpick (lv2 := [(0, .ref (ad 2)), (1, .int a1), (2, .int a2), (3, .int x4)]) [1, 2, 3, 0] rfl ?_
    obtain ⟨w5, h6, hf⟩ := bn_some hf
    refine lp_X0_markAbove_85 X E fu a1 a2 fu x4 w w5 h6 ?_
    cases hf
    exact x_vret X hr hlk rfl dX0_markAbove_134
  · refine x_aload_n X dX0_markAbove_15 0 rfl ?_
    refine x_get X E.1.1 (T := TX0) (C := RX0) inW0 2 rfl rfl 5 (by decide) w_144 rfl (v := .ref (ad 15)) rfl dX0_markAbove_16 ?_
    refine x_iload_n X dX0_markAbove_19 1 rfl ?_
    refine x_iald X E.1.1 15 rfl dX0_markAbove_20 hf (fun x7 hf => ?_)
    refine x_iconst X (v := 1) dX0_markAbove_21 (by decide) ?_
    refine x_iadd X dX0_markAbove_22 ?_
    refine x_nmI hf (fun x8 hf => ?_)
    refine x_istore_n X (lv2 := [(3, .int x8), (0, .ref (ad 2)), (1, .int a1), (2, .int a2)]) dX0_markAbove_23 (by decide) rfl ?_
    refine x_lpick (lv2 := [(0, .ref (ad 2)), (1, .int a1), (2, .int a2), (3, .int x8)]) [1, 2, 3, 0] rfl ?_
    obtain ⟨w9, h10, hf⟩ := bn_some hf
    refine lp_X0_markAbove_24 X E fu a1 a2 fu x8 w w9 h10 ?_
    refine x_goto X (tgt := 134) dX0_markAbove_73 (by decide) ?_
    cases hf
    exact x_vret X hr hlk rfl dX0_markAbove_134
end
section
variable {p : Program} {l : Launch} {e : Env} {s : State} {m : MethodId} {args : Array Value} {below : List Frame} {meth : Method} {c : Code} {D : va_G} {kA : Nat → ClassId} {A : Nat → Prop} {Q : State → Prop} {ad al : Nat → Nat} {b L : Nat} {xs : Nat → Int32}
abbrev rm_X0_settleArc : Room := { frames := 3, cells := 0, slots := 0, locals := 66 }
set_option maxRecDepth 100000 in
set_option maxHeartbeats 4000000 in
theorem met_X0_settleArc (l : Launch) (hst : l.stackTraces = false) (D : va_G) (kA : Nat → ClassId) (ad : Nat → Nat) (fu : Nat) (w : WS) (a1 : Int32) (a2 : Int32) (v : Int32) (w1 : WS) (hf : f_X0_settleArc fu w a1 a2 = some (v, w1)) (sz : Nat) : Met l yX0_settleArc (wsY yX0_settleArc cX0_settleArc 5 (some .int)) rm_X0_settleArc (va_Pc [.ref (ad 2), .int a1, .int a2] (PreG D kA (picC kA ad w) sz)) (va_Qi (fun (r : Int32) (_ : Unit) => r = v) (fun _ t => PosG D (va_A (picC kA ad w) sz) (picC kA ad w1) t) (va_A (picC kA ad w) sz)) 0 0 (va_A (picC kA ad w) sz) := by
  refine metG (own := RX0) hst (by decide +kernel) rfl (Nat.le_of_ble_eq_true rfl) rfl ?_
  intro p e s m below meth c X hr hlk E _
  unfold f_X0_settleArc at hf
  refine x_aload_n X dX0_settleArc_0 0 rfl ?_
  refine x_get X E.1.1 (T := TX0) (C := RX0) inW0 2 rfl rfl 9 (by decide) w_5035 rfl (v := .ref (ad 20)) rfl dX0_settleArc_1 ?_
  refine x_iload_n X dX0_settleArc_4 1 rfl ?_
  refine x_iload_n X dX0_settleArc_5 2 rfl ?_
  obtain ⟨x1, hx1, hf⟩ := bn_some hf
  refine x_callSN_i X (As := [.int a1, .int a2]) (rest := [.ref (ad 20)]) (n := 2) (goodY w_294) w_293 w_47 (host := "RoadOracle") (E.1.2.1 _ (NWL_in 348 (by decide +kernel) rfl)) (met_X3_pair l fu a1 a2 x1 hx1) rfl rfl (by decide +kernel) ⟨by decide, by decide⟩ rfl rfl (Nat.le_of_ble_eq_true rfl) dX0_settleArc_6 ⟨by decide, by decide⟩ ?_
  refine x_iald X E.1.1 20 rfl dX0_settleArc_9 hf (fun x2 hf => ?_)
  refine x_istore_n X (lv2 := [(3, .int x2), (0, .ref (ad 2)), (1, .int a1), (2, .int a2)]) dX0_settleArc_10 (by decide) rfl ?_
  refine x_aload_n X dX0_settleArc_11 1 rfl ?_
  refine x_iload_n X dX0_settleArc_12 2 rfl ?_
  refine x_iload_n X dX0_settleArc_13 3 rfl ?_
  obtain ⟨x3, hx3, hf⟩ := bn_some hf
  refine x_callV_i X E (As := [.int a1, .int a2]) (rest := []) (n := 2) (ws2 := (picC kA ad w)) (goodV w_5131 w_493 s_8 w_50 w_5132) (met_X0_computeArc l E.2.2.2 D kA ad fu w a1 a2 x3 hx3) rfl rfl (by decide +kernel) ⟨by decide, by decide⟩ 2 rfl (qc := (RX0, TX0, _)) rfl rfl rfl rfl (Nat.le_of_ble_eq_true rfl) dX0_settleArc_14 ⟨by decide, by decide⟩ ?_
  refine x_istore X (lv2 := [(4, .int x3), (3, .int x2), (0, .ref (ad 2)), (1, .int a1), (2, .int a2)]) dX0_settleArc_17 (by decide) rfl ?_
  refine x_iload X dX0_settleArc_19 0 rfl ?_
  refine x_iload_n X dX0_settleArc_21 1 rfl ?_
  refine x_icmp_eq X (tgt := 43) dX0_settleArc_22 (by decide) hf (fun hf => ?_) (fun hf => ?_)
  · refine x_iload X dX0_settleArc_43 0 rfl ?_
    obtain ⟨x4, hx4, hf⟩ := bn_some hf
    refine x_callSN_i X (As := [.int x3]) (rest := []) (n := 1) (goodY w_297) w_296 w_47 (host := "RoadOracle") (E.1.2.1 _ (NWL_in 372 (by decide +kernel) rfl)) (met_X3_costOf l fu x3 x4 hx4) rfl rfl (by decide +kernel) ⟨by decide, by decide⟩ rfl rfl (Nat.le_of_ble_eq_true rfl) dX0_settleArc_45 ⟨by decide, by decide⟩ ?_
    refine x_iload_n X dX0_settleArc_48 1 rfl ?_
    obtain ⟨x5, hx5, hf⟩ := bn_some hf
    refine x_callSN_i X (As := [.int x2]) (rest := [.int x4]) (n := 1) (goodY w_297) w_296 w_47 (host := "RoadOracle") (E.1.2.1 _ (NWL_in 372 (by decide +kernel) rfl)) (met_X3_costOf l fu x2 x5 hx5) rfl rfl (by decide +kernel) ⟨by decide, by decide⟩ rfl rfl (Nat.le_of_ble_eq_true rfl) dX0_settleArc_49 ⟨by decide, by decide⟩ ?_
    refine x_icmp_ne X (tgt := 59) dX0_settleArc_52 (by decide) hf (fun hf => ?_) (fun hf => ?_)
    · refine x_iconst X (v := 1) dX0_settleArc_59 (by decide) ?_
      cases hf
      exact x_iret X hr hlk rfl rfl dX0_settleArc_60
    · refine x_iconst X (v := 0) dX0_settleArc_55 (by decide) ?_
      refine x_goto X (tgt := 60) dX0_settleArc_56 (by decide) ?_
      cases hf
      exact x_iret X hr hlk rfl rfl dX0_settleArc_60
  · refine x_aload_n X dX0_settleArc_25 2 rfl ?_
    refine x_get X E.1.1 (T := TX0) (C := RX0) inW0 2 rfl rfl 9 (by decide) w_5035 rfl (v := .ref (ad 20)) rfl dX0_settleArc_26 ?_
    refine x_iload_n X dX0_settleArc_29 3 rfl ?_
    refine x_iload_n X dX0_settleArc_30 4 rfl ?_
    obtain ⟨x6, hx6, hf⟩ := bn_some hf
    refine x_callSN_i X (As := [.int a1, .int a2]) (rest := [.ref (ad 20)]) (n := 2) (goodY w_294) w_293 w_47 (host := "RoadOracle") (E.1.2.1 _ (NWL_in 348 (by decide +kernel) rfl)) (met_X3_pair l fu a1 a2 x6 hx6) rfl rfl (by decide +kernel) ⟨by decide, by decide⟩ rfl rfl (Nat.le_of_ble_eq_true rfl) dX0_settleArc_31 ⟨by decide, by decide⟩ ?_
    refine x_iload X dX0_settleArc_34 0 rfl ?_
    refine x_iast X E.1.1 20 rfl dX0_settleArc_36 hf (picC kA ad) (setC_20 kA ad _ _ _) (fun w7 hf => ?_)
    refine x_aload_n X dX0_settleArc_37 2 rfl ?_
    refine x_iload_n X dX0_settleArc_38 3 rfl ?_
    refine x_iload_n X dX0_settleArc_39 4 rfl ?_
    obtain ⟨w8, hw8, hf⟩ := bn_some hf
    refine x_callV_v X E (As := [.int a1, .int a2]) (rest := []) (n := 2) (ws2 := (picC kA ad w8)) (goodV w_5134 w_500 s_9 w_50 w_5135) (met_X0_markAbove l E.2.2.2 D kA ad fu w7 a1 a2 w8 hw8) rfl rfl (by decide +kernel) ⟨by decide, by decide⟩ 2 rfl (qc := (RX0, TX0, _)) rfl rfl rfl rfl (Nat.le_of_ble_eq_true rfl) dX0_settleArc_40 ⟨by decide, by decide⟩ ?_
    refine x_iload X dX0_settleArc_43 0 rfl ?_
    obtain ⟨x9, hx9, hf⟩ := bn_some hf
    refine x_callSN_i X (As := [.int x3]) (rest := []) (n := 1) (goodY w_297) w_296 w_47 (host := "RoadOracle") (E.1.2.1 _ (NWL_in 372 (by decide +kernel) rfl)) (met_X3_costOf l fu x3 x9 hx9) rfl rfl (by decide +kernel) ⟨by decide, by decide⟩ rfl rfl (Nat.le_of_ble_eq_true rfl) dX0_settleArc_45 ⟨by decide, by decide⟩ ?_
    refine x_iload_n X dX0_settleArc_48 1 rfl ?_
    obtain ⟨x10, hx10, hf⟩ := bn_some hf
    refine x_callSN_i X (As := [.int x2]) (rest := [.int x9]) (n := 1) (goodY w_297) w_296 w_47 (host := "RoadOracle") (E.1.2.1 _ (NWL_in 372 (by decide +kernel) rfl)) (met_X3_costOf l fu x2 x10 hx10) rfl rfl (by decide +kernel) ⟨by decide, by decide⟩ rfl rfl (Nat.le_of_ble_eq_true rfl) dX0_settleArc_49 ⟨by decide, by decide⟩ ?_
    refine x_icmp_ne X (tgt := 59) dX0_settleArc_52 (by decide) hf (fun hf => ?_) (fun hf => ?_)
    · refine x_iconst X (v := 1) dX0_settleArc_59 (by decide) ?_
      cases hf
      exact x_iret X hr hlk rfl rfl dX0_settleArc_60
    · refine x_iconst X (v := 0) dX0_settleArc_55 (by decide) ?_
      refine x_goto X (tgt := 60) dX0_settleArc_56 (by decide) ?_
      cases hf
      exact x_iret X hr hlk rfl rfl dX0_settleArc_60
end
section
variable {p : Program} {l : Launch} {e : Env} {s : State} {m : MethodId} {args : Array Value} {below : List Frame} {meth : Method} {c : Code} {D : va_G} {kA : Nat → ClassId} {A : Nat → Prop} {Q : State → Prop} {ad al : Nat → Nat} {b L : Nat} {xs : Nat → Int32}
abbrev rm_X0_settle : Room := { frames := 4, cells := 0, slots := 0, locals := 90 }
set_option maxRecDepth 100000 in
set_option maxHeartbeats 4000000 in
theorem lp_X0_settle_49 (X : CX p m c cX0_settle 6 s args RX0) (E : EX l s D kA A) (fu : Nat) (y2 : Int32) (y3 : Int32) : ∀ (n : Nat) (y1 : Int32) (y4 : Int32) (w : WS) (r1 : Int32) (rw : WS), iter (fun q => bd_X0_settle_49 fu y2 y3 q.1 q.2.1 q.2.2) n (y1, y4, w) = some (r1, rw) → CS p l e rm_X0_settle s m args below meth c D A 6 0 0 Q (picC kA ad rw) 121 [(0, .ref (ad 2)), (1, .int r1), (2, .int y2), (3, .int y3)] [] → CS p l e rm_X0_settle s m args below meth c D A 6 0 0 Q (picC kA ad w) 49 [(0, .ref (ad 2)), (1, .int y1), (2, .int y2), (3, .int y3), (4, .int y4)] [] := by
  intro n
  induction n with
  | zero =>
    intro y1 y4 w r1 rw hit kk
    exact (iter_0 hit).elim
  | succ n ih =>
    intro y1 y4 w r1 rw hit kk
    obtain ⟨o, h1, hit⟩ := iter_one hit
    have hf : bd_X0_settle_49 fu y2 y3 y1 y4 w = some o := h1
    unfold bd_X0_settle_49 at hf
    refine x_iload X dX0_settle_49 4 rfl ?_
    refine x_aload_n X dX0_settle_51 0 rfl ?_
    refine x_get X E.1.1 (T := TX0) (C := RX0) inW0 2 rfl rfl 2 (by decide) w_5026 rfl (v := .int (w.1 2 2)) rfl dX0_settle_52 ?_
    refine x_nmI hf (fun x1 hf => ?_)
    refine x_icmp_ge X (tgt := 121) dX0_settle_55 (by decide) hf (fun hf => ?_) (fun hf => ?_)
    · cases hf
      cases hit
      refine x_lpick (lv2 := [(0, .ref (ad 2)), (1, .int y1), (2, .int y2), (3, .int y3)]) [0, 1, 2, 3] rfl ?_
      exact kk
    · refine x_aload_n X dX0_settle_58 0 rfl ?_
      refine x_get X E.1.1 (T := TX0) (C := RX0) inW0 2 rfl rfl 6 (by decide) w_146 rfl (v := .ref (ad 16)) rfl dX0_settle_59 ?_
      refine x_iload X dX0_settle_62 4 rfl ?_
      refine x_iald X E.1.1 16 rfl dX0_settle_64 hf (fun x2 hf => ?_)
      refine x_istore X (lv2 := [(5, .int x2), (0, .ref (ad 2)), (1, .int y1), (2, .int y2), (3, .int y3), (4, .int y4)]) dX0_settle_65 (by decide) rfl ?_
      refine x_aload_n X dX0_settle_67 1 rfl ?_
      refine x_get X E.1.1 (T := TX0) (C := RX0) inW0 2 rfl rfl 11 (by decide) w_5038 rfl (v := .ref (ad 22)) rfl dX0_settle_68 ?_
      refine x_iload_n X dX0_settle_71 4 rfl ?_
      refine x_lald X E.1.1 22 rfl dX0_settle_72 hf (fun x3 hf => ?_)
      refine x_iload X dX0_settle_73 0 rfl ?_
      obtain ⟨x4, hx4, hf⟩ := bn_some hf
      refine x_callSN_i X (As := [.long x3, .int x2]) (rest := []) (n := 2) (goodY w_275) w_274 w_47 (host := "RoadOracle") (E.1.2.1 _ (NWL_in 313 (by decide +kernel) rfl)) (met_X3_has l fu x3 x2 x4 hx4) rfl rfl (by decide +kernel) ⟨by decide, by decide⟩ rfl rfl (Nat.le_of_ble_eq_true rfl) dX0_settle_75 ⟨by decide, by decide⟩ ?_
      refine x_if_eq X (tgt := 91) dX0_settle_78 (by decide) hf (fun hf => ?_) (fun hf => ?_)
      · refine x_aload_n X dX0_settle_91 1 rfl ?_
        refine x_get X E.1.1 (T := TX0) (C := RX0) inW0 2 rfl rfl 12 (by decide) w_5039 rfl (v := .ref (ad 23)) rfl dX0_settle_92 ?_
        refine x_iload_n X dX0_settle_95 4 rfl ?_
        refine x_lald X E.1.1 23 rfl dX0_settle_96 hf (fun x5 hf => ?_)
        refine x_iload X dX0_settle_97 0 rfl ?_
        obtain ⟨x6, hx6, hf⟩ := bn_some hf
        refine x_callSN_i X (As := [.long x5, .int x2]) (rest := []) (n := 2) (goodY w_275) w_274 w_47 (host := "RoadOracle") (E.1.2.1 _ (NWL_in 313 (by decide +kernel) rfl)) (met_X3_has l fu x5 x2 x6 hx6) rfl rfl (by decide +kernel) ⟨by decide, by decide⟩ rfl rfl (Nat.le_of_ble_eq_true rfl) dX0_settle_99 ⟨by decide, by decide⟩ ?_
        refine x_if_eq X (tgt := 115) dX0_settle_102 (by decide) hf (fun hf => ?_) (fun hf => ?_)
        · refine x_iinc X dX0_settle_115 5 rfl (by decide) (y4 + 1) rfl hf (fun x7 => [(4, .int x7), (5, .int x2), (0, .ref (ad 2)), (1, .int y1), (2, .int y2), (3, .int y3)]) (fun _ => rfl) (fun x7 hf => ?_)
          refine x_goto X (tgt := 49) dX0_settle_118 (by decide) ?_
          cases hf
          refine x_lpick (lv2 := [(0, .ref (ad 2)), (1, .int y1), (2, .int y2), (3, .int y3), (4, .int x7)]) [2, 3, 4, 5, 0] rfl ?_
          exact ih _ _ _ _ _ hit kk
        · refine x_iload_n X dX0_settle_105 2 rfl ?_
          refine x_aload_n X dX0_settle_106 1 rfl ?_
          refine x_iload X dX0_settle_107 0 rfl ?_
          refine x_iload_n X dX0_settle_109 4 rfl ?_
          obtain ⟨x9, w8, hx9, hf⟩ := bn2_some hf
          refine x_callV_i X E (As := [.int x2, .int y3]) (rest := [.int y1]) (n := 2) (ws2 := (picC kA ad w8)) (goodV w_5130 w_489 s_7 w_50 w_490) (met_X0_settleArc l E.2.2.2 D kA ad fu w x2 y3 x9 w8 hx9) rfl rfl (by decide +kernel) ⟨by decide, by decide⟩ 2 rfl (qc := (RX0, TX0, _)) rfl rfl rfl rfl (Nat.le_of_ble_eq_true rfl) dX0_settle_110 ⟨by decide, by decide⟩ ?_
          refine x_iadd X dX0_settle_113 ?_
          refine x_nmI hf (fun x10 hf => ?_)
          refine x_istore_n X (lv2 := [(1, .int x10), (5, .int x2), (0, .ref (ad 2)), (2, .int y2), (3, .int y3), (4, .int y4)]) dX0_settle_114 (by decide) rfl ?_
          refine x_iinc X dX0_settle_115 5 rfl (by decide) (y4 + 1) rfl hf (fun x11 => [(4, .int x11), (1, .int x10), (5, .int x2), (0, .ref (ad 2)), (2, .int y2), (3, .int y3)]) (fun _ => rfl) (fun x11 hf => ?_)
          refine x_goto X (tgt := 49) dX0_settle_118 (by decide) ?_
          cases hf
          refine x_lpick (lv2 := [(0, .ref (ad 2)), (1, .int x10), (2, .int y2), (3, .int y3), (4, .int x11)]) [3, 1, 4, 5, 0] rfl ?_
          exact ih _ _ _ _ _ hit kk
      · refine x_iload_n X dX0_settle_81 2 rfl ?_
        refine x_aload_n X dX0_settle_82 1 rfl ?_
        refine x_iload_n X dX0_settle_83 4 rfl ?_
        refine x_iload X dX0_settle_84 0 rfl ?_
        obtain ⟨x13, w12, hx13, hf⟩ := bn2_some hf
        refine x_callV_i X E (As := [.int y3, .int x2]) (rest := [.int y1]) (n := 2) (ws2 := (picC kA ad w12)) (goodV w_5130 w_489 s_7 w_50 w_490) (met_X0_settleArc l E.2.2.2 D kA ad fu w y3 x2 x13 w12 hx13) rfl rfl (by decide +kernel) ⟨by decide, by decide⟩ 2 rfl (qc := (RX0, TX0, _)) rfl rfl rfl rfl (Nat.le_of_ble_eq_true rfl) dX0_settle_86 ⟨by decide, by decide⟩ ?_
        refine x_iadd X dX0_settle_89 ?_
        refine x_nmI hf (fun x14 hf => ?_)
        refine x_istore_n X (lv2 := [(1, .int x14), (5, .int x2), (0, .ref (ad 2)), (2, .int y2), (3, .int y3), (4, .int y4)]) dX0_settle_90 (by decide) rfl ?_
        refine x_aload_n X dX0_settle_91 2 rfl ?_
        refine x_get X E.1.1 (T := TX0) (C := RX0) inW0 2 rfl rfl 12 (by decide) w_5039 rfl (v := .ref (ad 23)) rfl dX0_settle_92 ?_
        refine x_iload_n X dX0_settle_95 4 rfl ?_
        refine x_lald X E.1.1 23 rfl dX0_settle_96 hf (fun x15 hf => ?_)
        refine x_iload X dX0_settle_97 1 rfl ?_
        obtain ⟨x16, hx16, hf⟩ := bn_some hf
        refine x_callSN_i X (As := [.long x15, .int x2]) (rest := []) (n := 2) (goodY w_275) w_274 w_47 (host := "RoadOracle") (E.1.2.1 _ (NWL_in 313 (by decide +kernel) rfl)) (met_X3_has l fu x15 x2 x16 hx16) rfl rfl (by decide +kernel) ⟨by decide, by decide⟩ rfl rfl (Nat.le_of_ble_eq_true rfl) dX0_settle_99 ⟨by decide, by decide⟩ ?_
        refine x_if_eq X (tgt := 115) dX0_settle_102 (by decide) hf (fun hf => ?_) (fun hf => ?_)
        · refine x_iinc X dX0_settle_115 5 rfl (by decide) (y4 + 1) rfl hf (fun x17 => [(4, .int x17), (1, .int x14), (5, .int x2), (0, .ref (ad 2)), (2, .int y2), (3, .int y3)]) (fun _ => rfl) (fun x17 hf => ?_)
          refine x_goto X (tgt := 49) dX0_settle_118 (by decide) ?_
          cases hf
          refine x_lpick (lv2 := [(0, .ref (ad 2)), (1, .int x14), (2, .int y2), (3, .int y3), (4, .int x17)]) [3, 1, 4, 5, 0] rfl ?_
          exact ih _ _ _ _ _ hit kk
        · refine x_iload_n X dX0_settle_105 0 rfl ?_
          refine x_aload_n X dX0_settle_106 2 rfl ?_
          refine x_iload X dX0_settle_107 1 rfl ?_
          refine x_iload_n X dX0_settle_109 4 rfl ?_
          obtain ⟨x19, w18, hx19, hf⟩ := bn2_some hf
          refine x_callV_i X E (As := [.int x2, .int y3]) (rest := [.int x14]) (n := 2) (ws2 := (picC kA ad w18)) (goodV w_5130 w_489 s_7 w_50 w_490) (met_X0_settleArc l E.2.2.2 D kA ad fu w12 x2 y3 x19 w18 hx19) rfl rfl (by decide +kernel) ⟨by decide, by decide⟩ 2 rfl (qc := (RX0, TX0, _)) rfl rfl rfl rfl (Nat.le_of_ble_eq_true rfl) dX0_settle_110 ⟨by decide, by decide⟩ ?_
          refine x_iadd X dX0_settle_113 ?_
          refine x_nmI hf (fun x20 hf => ?_)
          refine x_istore_n X (lv2 := [(1, .int x20), (5, .int x2), (0, .ref (ad 2)), (2, .int y2), (3, .int y3), (4, .int y4)]) dX0_settle_114 (by decide) rfl ?_
          refine x_iinc X dX0_settle_115 5 rfl (by decide) (y4 + 1) rfl hf (fun x21 => [(4, .int x21), (1, .int x20), (5, .int x2), (0, .ref (ad 2)), (2, .int y2), (3, .int y3)]) (fun _ => rfl) (fun x21 hf => ?_)
          refine x_goto X (tgt := 49) dX0_settle_118 (by decide) ?_
          cases hf
          refine x_lpick (lv2 := [(0, .ref (ad 2)), (1, .int x20), (2, .int y2), (3, .int y3), (4, .int x21)]) [3, 1, 4, 5, 0] rfl ?_
          exact ih _ _ _ _ _ hit kk
set_option maxRecDepth 100000 in
set_option maxHeartbeats 4000000 in
theorem lp_X0_settle_4 (X : CX p m c cX0_settle 6 s args RX0) (E : EX l s D kA A) (fu : Nat)  : ∀ (n : Nat) (y1 : Int32) (y2 : Int32) (w : WS) (r1 : Int32) (rw : WS), iter (fun q => bd_X0_settle_4 fu q.1 q.2.1 q.2.2) n (y1, y2, w) = some (r1, rw) → CS p l e rm_X0_settle s m args below meth c D A 6 0 0 Q (picC kA ad rw) 141 [(1, .int r1)] [] → CS p l e rm_X0_settle s m args below meth c D A 6 0 0 Q (picC kA ad w) 4 [(0, .ref (ad 2)), (1, .int y1), (2, .int y2)] [] := by
  intro n
  induction n with
  | zero =>
    intro y1 y2 w r1 rw hit kk
    exact (iter_0 hit).elim
  | succ n ih =>
    intro y1 y2 w r1 rw hit kk
    obtain ⟨o, h1, hit⟩ := iter_one hit
    have hf : bd_X0_settle_4 fu y1 y2 w = some o := h1
    unfold bd_X0_settle_4 at hf
    refine x_iload_n X dX0_settle_4 2 rfl ?_
    refine x_aload_n X dX0_settle_5 0 rfl ?_
    refine x_get X E.1.1 (T := TX0) (C := RX0) inW0 2 rfl rfl 2 (by decide) w_5026 rfl (v := .int (w.1 2 2)) rfl dX0_settle_6 ?_
    refine x_nmI hf (fun x1 hf => ?_)
    refine x_icmp_ge X (tgt := 141) dX0_settle_9 (by decide) hf (fun hf => ?_) (fun hf => ?_)
    · cases hf
      cases hit
      refine x_lpick (lv2 := [(1, .int y1)]) [1] rfl ?_
      exact kk
    · refine x_aload_n X dX0_settle_12 0 rfl ?_
      refine x_get X E.1.1 (T := TX0) (C := RX0) inW0 2 rfl rfl 6 (by decide) w_146 rfl (v := .ref (ad 16)) rfl dX0_settle_13 ?_
      refine x_iload_n X dX0_settle_16 2 rfl ?_
      refine x_iald X E.1.1 16 rfl dX0_settle_17 hf (fun x2 hf => ?_)
      refine x_istore_n X (lv2 := [(3, .int x2), (0, .ref (ad 2)), (1, .int y1), (2, .int y2)]) dX0_settle_18 (by decide) rfl ?_
      refine x_aload_n X dX0_settle_19 1 rfl ?_
      refine x_get X E.1.1 (T := TX0) (C := RX0) inW0 2 rfl rfl 11 (by decide) w_5038 rfl (v := .ref (ad 22)) rfl dX0_settle_20 ?_
      refine x_iload_n X dX0_settle_23 0 rfl ?_
      refine x_lald X E.1.1 22 rfl dX0_settle_24 hf (fun x3 hf => ?_)
      refine x_lconst X (v := 0) dX0_settle_25 (by decide) ?_
      refine x_lcmp X dX0_settle_26 ?_
      refine x_if_ne X (tgt := 44) dX0_settle_27 (by decide) hf (fun hf => ?_) (fun hf => ?_)
      · refine x_iload_n X dX0_settle_44 3 rfl ?_
        refine x_iconst X (v := 1) dX0_settle_45 (by decide) ?_
        refine x_iadd X dX0_settle_46 ?_
        refine x_nmI hf (fun x4 hf => ?_)
        refine x_istore X (lv2 := [(4, .int x4), (3, .int x2), (0, .ref (ad 2)), (1, .int y1), (2, .int y2)]) dX0_settle_47 (by decide) rfl ?_
        refine x_lpick (lv2 := [(0, .ref (ad 2)), (1, .int y1), (2, .int y2), (3, .int x2), (4, .int x4)]) [2, 3, 4, 1, 0] rfl ?_
        obtain ⟨x5, w6, h7, hf⟩ := bn2_some hf
        refine lp_X0_settle_49 X E fu y2 x2 fu y1 x4 w x5 w6 h7 ?_
        refine x_aload_n X dX0_settle_121 0 rfl ?_
        refine x_get X E.1.1 (T := TX0) (C := RX0) inW0 2 rfl rfl 11 (by decide) w_5038 rfl (v := .ref (ad 22)) rfl dX0_settle_122 ?_
        refine x_iload_n X dX0_settle_125 3 rfl ?_
        refine x_lconst X (v := 0) dX0_settle_126 (by decide) ?_
        refine x_last X E.1.1 22 rfl dX0_settle_127 hf (picC kA ad) (setC_22 kA ad _ _ _) (fun w8 hf => ?_)
        refine x_aload_n X dX0_settle_128 0 rfl ?_
        refine x_get X E.1.1 (T := TX0) (C := RX0) inW0 2 rfl rfl 12 (by decide) w_5039 rfl (v := .ref (ad 23)) rfl dX0_settle_129 ?_
        refine x_iload_n X dX0_settle_132 3 rfl ?_
        refine x_lconst X (v := 0) dX0_settle_133 (by decide) ?_
        refine x_last X E.1.1 23 rfl dX0_settle_134 hf (picC kA ad) (setC_23 kA ad _ _ _) (fun w9 hf => ?_)
        refine x_iinc X dX0_settle_135 2 rfl (by decide) (y2 + 1) rfl hf (fun x10 => [(2, .int x10), (0, .ref (ad 2)), (1, .int x5), (3, .int x2)]) (fun _ => rfl) (fun x10 hf => ?_)
        refine x_goto X (tgt := 4) dX0_settle_138 (by decide) ?_
        cases hf
        refine x_lpick (lv2 := [(0, .ref (ad 2)), (1, .int x5), (2, .int x10)]) [1, 2, 0] rfl ?_
        exact ih _ _ _ _ _ hit kk
      · refine x_aload_n X dX0_settle_30 1 rfl ?_
        refine x_get X E.1.1 (T := TX0) (C := RX0) inW0 2 rfl rfl 12 (by decide) w_5039 rfl (v := .ref (ad 23)) rfl dX0_settle_31 ?_
        refine x_iload_n X dX0_settle_34 0 rfl ?_
        refine x_lald X E.1.1 23 rfl dX0_settle_35 hf (fun x11 hf => ?_)
        refine x_lconst X (v := 0) dX0_settle_36 (by decide) ?_
        refine x_lcmp X dX0_settle_37 ?_
        refine x_if_ne X (tgt := 44) dX0_settle_38 (by decide) hf (fun hf => ?_) (fun hf => ?_)
        · refine x_iload_n X dX0_settle_44 3 rfl ?_
          refine x_iconst X (v := 1) dX0_settle_45 (by decide) ?_
          refine x_iadd X dX0_settle_46 ?_
          refine x_nmI hf (fun x12 hf => ?_)
          refine x_istore X (lv2 := [(4, .int x12), (3, .int x2), (0, .ref (ad 2)), (1, .int y1), (2, .int y2)]) dX0_settle_47 (by decide) rfl ?_
          refine x_lpick (lv2 := [(0, .ref (ad 2)), (1, .int y1), (2, .int y2), (3, .int x2), (4, .int x12)]) [2, 3, 4, 1, 0] rfl ?_
          obtain ⟨x13, w14, h15, hf⟩ := bn2_some hf
          refine lp_X0_settle_49 X E fu y2 x2 fu y1 x12 w x13 w14 h15 ?_
          refine x_aload_n X dX0_settle_121 0 rfl ?_
          refine x_get X E.1.1 (T := TX0) (C := RX0) inW0 2 rfl rfl 11 (by decide) w_5038 rfl (v := .ref (ad 22)) rfl dX0_settle_122 ?_
          refine x_iload_n X dX0_settle_125 3 rfl ?_
          refine x_lconst X (v := 0) dX0_settle_126 (by decide) ?_
          refine x_last X E.1.1 22 rfl dX0_settle_127 hf (picC kA ad) (setC_22 kA ad _ _ _) (fun w16 hf => ?_)
          refine x_aload_n X dX0_settle_128 0 rfl ?_
          refine x_get X E.1.1 (T := TX0) (C := RX0) inW0 2 rfl rfl 12 (by decide) w_5039 rfl (v := .ref (ad 23)) rfl dX0_settle_129 ?_
          refine x_iload_n X dX0_settle_132 3 rfl ?_
          refine x_lconst X (v := 0) dX0_settle_133 (by decide) ?_
          refine x_last X E.1.1 23 rfl dX0_settle_134 hf (picC kA ad) (setC_23 kA ad _ _ _) (fun w17 hf => ?_)
          refine x_iinc X dX0_settle_135 2 rfl (by decide) (y2 + 1) rfl hf (fun x18 => [(2, .int x18), (0, .ref (ad 2)), (1, .int x13), (3, .int x2)]) (fun _ => rfl) (fun x18 hf => ?_)
          refine x_goto X (tgt := 4) dX0_settle_138 (by decide) ?_
          cases hf
          refine x_lpick (lv2 := [(0, .ref (ad 2)), (1, .int x13), (2, .int x18)]) [1, 2, 0] rfl ?_
          exact ih _ _ _ _ _ hit kk
        · refine x_goto X (tgt := 135) dX0_settle_41 (by decide) ?_
          refine x_iinc X dX0_settle_135 3 rfl (by decide) (y2 + 1) rfl hf (fun x19 => [(2, .int x19), (3, .int x2), (0, .ref (ad 2)), (1, .int y1)]) (fun _ => rfl) (fun x19 hf => ?_)
          refine x_goto X (tgt := 4) dX0_settle_138 (by decide) ?_
          cases hf
          refine x_lpick (lv2 := [(0, .ref (ad 2)), (1, .int y1), (2, .int x19)]) [2, 3, 0] rfl ?_
          exact ih _ _ _ _ _ hit kk
set_option maxRecDepth 100000 in
set_option maxHeartbeats 4000000 in
theorem met_X0_settle (l : Launch) (hst : l.stackTraces = false) (D : va_G) (kA : Nat → ClassId) (ad : Nat → Nat) (fu : Nat) (w : WS)  (v : Int32) (w1 : WS) (hf : f_X0_settle fu w = some (v, w1)) (sz : Nat) : Met l yX0_settle (wsY yX0_settle cX0_settle 6 (some .int)) rm_X0_settle (va_Pc [.ref (ad 2)] (PreG D kA (picC kA ad w) sz)) (va_Qi (fun (r : Int32) (_ : Unit) => r = v) (fun _ t => PosG D (va_A (picC kA ad w) sz) (picC kA ad w1) t) (va_A (picC kA ad w) sz)) 0 0 (va_A (picC kA ad w) sz) := by
  refine metG (own := RX0) hst (by decide +kernel) rfl (Nat.le_of_ble_eq_true rfl) rfl ?_
  intro p e s m below meth c X hr hlk E _
  unfold f_X0_settle at hf
  refine x_iconst X (v := 0) dX0_settle_0 (by decide) ?_
  refine x_istore_n X (lv2 := [(1, .int 0), (0, .ref (ad 2))]) dX0_settle_1 (by decide) rfl ?_
  refine x_iconst X (v := 0) dX0_settle_2 (by decide) ?_
  refine x_istore_n X (lv2 := [(2, .int 0), (1, .int 0), (0, .ref (ad 2))]) dX0_settle_3 (by decide) rfl ?_
  refine x_lpick (lv2 := [(0, .ref (ad 2)), (1, .int 0), (2, .int 0)]) [2, 1, 0] rfl ?_
  obtain ⟨x1, w2, h3, hf⟩ := bn2_some hf
  refine lp_X0_settle_4 X E fu  fu (0 : Int32) (0 : Int32) w x1 w2 h3 ?_
  refine x_iload_n X dX0_settle_141 0 rfl ?_
  cases hf
  exact x_iret X hr hlk rfl rfl dX0_settle_142
end
section
variable {p : Program} {l : Launch} {e : Env} {s : State} {m : MethodId} {args : Array Value} {below : List Frame} {meth : Method} {c : Code} {D : va_G} {kA : Nat → ClassId} {A : Nat → Prop} {Q : State → Prop} {ad al : Nat → Nat} {b L : Nat} {xs : Nat → Int32}
abbrev rm_X0_build : Room := { frames := 5, cells := 0, slots := 0, locals := 117 }
set_option maxRecDepth 100000 in
set_option maxHeartbeats 4000000 in
theorem lp_X0_build_27 (X : CX p m c cX0_build 6 s args RX0) (E : EX l s D kA A) (fu : Nat) (y1 : Int32) : ∀ (n : Nat) (y2 : Int64) (y4 : Int32) (w : WS) (rw : WS), iter (fun q => bd_X0_build_27 fu y1 q.1 q.2.1 q.2.2) n (y2, y4, w) = some (rw) → CS p l e rm_X0_build s m args below meth c D A 6 0 0 Q (picC kA ad rw) 101 [(0, .ref (ad 2)), (1, .int y1)] [] → CS p l e rm_X0_build s m args below meth c D A 6 0 0 Q (picC kA ad w) 27 [(0, .ref (ad 2)), (1, .int y1), (2, .long y2), (4, .int y4)] [] := by
  intro n
  induction n with
  | zero =>
    intro y2 y4 w rw hit kk
    exact (iter_0 hit).elim
  | succ n ih =>
    intro y2 y4 w rw hit kk
    obtain ⟨o, h1, hit⟩ := iter_one hit
    have hf : bd_X0_build_27 fu y1 y2 y4 w = some o := h1
    unfold bd_X0_build_27 at hf
    refine x_iload X dX0_build_27 3 rfl ?_
    refine x_aload_n X dX0_build_29 0 rfl ?_
    refine x_get X E.1.1 (T := TX0) (C := RX0) inW0 2 rfl rfl 2 (by decide) w_5026 rfl (v := .int (w.1 2 2)) rfl dX0_build_30 ?_
    refine x_nmI hf (fun x1 hf => ?_)
    refine x_icmp_ge X (tgt := 101) dX0_build_33 (by decide) hf (fun hf => ?_) (fun hf => ?_)
    · cases hf
      cases hit
      refine x_lpick (lv2 := [(0, .ref (ad 2)), (1, .int y1)]) [0, 1] rfl ?_
      exact kk
    · refine x_aload_n X dX0_build_36 0 rfl ?_
      refine x_lload_n X dX0_build_37 2 rfl ?_
      obtain ⟨x2, hx2, hf⟩ := bn_some hf
      refine x_callV_i X E (As := [.long y2]) (rest := []) (n := 1) (ws2 := (picC kA ad w)) (goodV w_5149 w_600 s_14 w_50 w_5150) (met_X0_cheapest l E.2.2.2 D kA ad fu w y2 x2 hx2) rfl rfl (by decide +kernel) ⟨by decide, by decide⟩ 2 rfl (qc := (RX0, TX0, _)) rfl rfl rfl rfl (Nat.le_of_ble_eq_true rfl) dX0_build_38 ⟨by decide, by decide⟩ ?_
      refine x_istore X (lv2 := [(5, .int x2), (0, .ref (ad 2)), (1, .int y1), (2, .long y2), (4, .int y4)]) dX0_build_41 (by decide) rfl ?_
      refine x_aload_n X dX0_build_43 1 rfl ?_
      refine x_get X E.1.1 (T := TX0) (C := RX0) inW0 2 rfl rfl 5 (by decide) w_144 rfl (v := .ref (ad 15)) rfl dX0_build_44 ?_
      refine x_iload X dX0_build_47 0 rfl ?_
      refine x_iload X dX0_build_49 4 rfl ?_
      refine x_iast X E.1.1 15 rfl dX0_build_51 hf (picC kA ad) (setC_15 kA ad _ _ _) (fun w3 hf => ?_)
      refine x_aload_n X dX0_build_52 1 rfl ?_
      refine x_get X E.1.1 (T := TX0) (C := RX0) inW0 2 rfl rfl 6 (by decide) w_146 rfl (v := .ref (ad 16)) rfl dX0_build_53 ?_
      refine x_iload X dX0_build_56 4 rfl ?_
      refine x_iload X dX0_build_58 0 rfl ?_
      refine x_iast X E.1.1 16 rfl dX0_build_60 hf (picC kA ad) (setC_16 kA ad _ _ _) (fun w4 hf => ?_)
      refine x_lload_n X dX0_build_61 3 rfl ?_
      refine x_iload X dX0_build_62 0 rfl ?_
      obtain ⟨x5, hx5, hf⟩ := bn_some hf
      refine x_callSN_l X (As := [.int x2]) (rest := [.long y2]) (n := 1) (goodY w_433) w_432 w_47 (host := "RoadOracle") (E.1.2.1 _ (NWL_in 316 (by decide +kernel) rfl)) (met_X3_only l fu x2 x5 hx5) rfl rfl (by decide +kernel) ⟨by decide, by decide⟩ rfl rfl (Nat.le_of_ble_eq_true rfl) dX0_build_64 ⟨by decide, by decide⟩ ?_
      refine x_ldc2 X (v := (-1)) w_5152 dX0_build_67 ?_
      refine x_lxor X dX0_build_70 ?_
      refine x_land X dX0_build_71 ?_
      refine x_nmL hf (fun x6 hf => ?_)
      refine x_lstore_n X (lv2 := [(2, .long x6), (5, .int x2), (0, .ref (ad 2)), (1, .int y1), (4, .int y4)]) dX0_build_72 (by decide) rfl ?_
      refine x_aload_n X dX0_build_73 2 rfl ?_
      refine x_aload_n X dX0_build_74 2 rfl ?_
      refine x_get X E.1.1 (T := TX0) (C := RX0) inW0 2 rfl rfl 8 (by decide) w_5034 rfl (v := .ref (ad 19)) rfl dX0_build_75 ?_
      refine x_iload X dX0_build_78 1 rfl ?_
      refine x_lald X E.1.1 19 rfl dX0_build_80 hf (fun x7 hf => ?_)
      refine x_lload_n X dX0_build_81 0 rfl ?_
      refine x_land X dX0_build_82 ?_
      refine x_aload_n X dX0_build_83 2 rfl ?_
      refine x_get X E.1.1 (T := TX0) (C := RX0) inW0 2 rfl rfl 7 (by decide) w_5032 rfl (v := .ref (ad 18)) rfl dX0_build_84 ?_
      refine x_iload X dX0_build_87 1 rfl ?_
      refine x_lald X E.1.1 18 rfl dX0_build_89 hf (fun x8 hf => ?_)
      refine x_lload_n X dX0_build_90 0 rfl ?_
      refine x_land X dX0_build_91 ?_
      obtain ⟨w9, hw9, hf⟩ := bn_some hf
      refine x_callV_v X E (As := [.long (x7 &&& x6), .long (x8 &&& x6)]) (rest := []) (n := 2) (ws2 := (picC kA ad w9)) (goodV w_5153 w_605 s_15 w_50 w_606) (met_X0_bridge l E.2.2.2 D kA ad fu w4 (x7 &&& x6) (x8 &&& x6) w9 hw9) rfl rfl (by decide +kernel) ⟨by decide, by decide⟩ 2 rfl (qc := (RX0, TX0, _)) rfl rfl rfl rfl (Nat.le_of_ble_eq_true rfl) dX0_build_92 ⟨by decide, by decide⟩ ?_
      refine x_iinc X dX0_build_95 4 rfl (by decide) (y4 + 1) rfl hf (fun x10 => [(4, .int x10), (2, .long x6), (5, .int x2), (0, .ref (ad 2)), (1, .int y1)]) (fun _ => rfl) (fun x10 hf => ?_)
      refine x_goto X (tgt := 27) dX0_build_98 (by decide) ?_
      cases hf
      refine x_lpick (lv2 := [(0, .ref (ad 2)), (1, .int y1), (2, .long x6), (4, .int x10)]) [3, 4, 1, 0] rfl ?_
      exact ih _ _ _ _ hit kk
set_option maxRecDepth 100000 in
set_option maxHeartbeats 4000000 in
theorem lp_X0_build_109 (X : CX p m c cX0_build 6 s args RX0) (E : EX l s D kA A) (fu : Nat) (y1 : Int32) : ∀ (n : Nat) (y4 : Int32) (w : WS) (rw : WS), iter (fun q => bd_X0_build_109 fu y1 q.1 q.2) n (y4, w) = some (rw) → CS p l e rm_X0_build s m args below meth c D A 6 0 0 Q (picC kA ad rw) 143 [(0, .ref (ad 2)), (1, .int y1)] [] → CS p l e rm_X0_build s m args below meth c D A 6 0 0 Q (picC kA ad w) 109 [(0, .ref (ad 2)), (1, .int y1), (4, .int y4)] [] := by
  intro n
  induction n with
  | zero =>
    intro y4 w rw hit kk
    exact (iter_0 hit).elim
  | succ n ih =>
    intro y4 w rw hit kk
    obtain ⟨o, h1, hit⟩ := iter_one hit
    have hf : bd_X0_build_109 fu y1 y4 w = some o := h1
    unfold bd_X0_build_109 at hf
    refine x_iload X dX0_build_109 2 rfl ?_
    refine x_aload_n X dX0_build_111 0 rfl ?_
    refine x_get X E.1.1 (T := TX0) (C := RX0) inW0 2 rfl rfl 2 (by decide) w_5026 rfl (v := .int (w.1 2 2)) rfl dX0_build_112 ?_
    refine x_nmI hf (fun x1 hf => ?_)
    refine x_icmp_ge X (tgt := 143) dX0_build_115 (by decide) hf (fun hf => ?_) (fun hf => ?_)
    · cases hf
      cases hit
      refine x_lpick (lv2 := [(0, .ref (ad 2)), (1, .int y1)]) [0, 1] rfl ?_
      exact kk
    · refine x_aload_n X dX0_build_118 0 rfl ?_
      refine x_dup X dX0_build_119 rfl ?_
      refine x_get X E.1.1 (T := TX0) (C := RX0) inW0 2 rfl rfl 3 (by decide) w_5027 rfl (v := .int (w.1 2 3)) rfl dX0_build_120 ?_
      refine x_nmI hf (fun x2 hf => ?_)
      refine x_aload_n X dX0_build_123 0 rfl ?_
      refine x_get X E.1.1 (T := TX0) (C := RX0) inW0 2 rfl rfl 7 (by decide) w_5032 rfl (v := .ref (ad 18)) rfl dX0_build_124 ?_
      refine x_iload X dX0_build_127 2 rfl ?_
      refine x_lald X E.1.1 18 rfl dX0_build_129 hf (fun x3 hf => ?_)
      obtain ⟨x4, hx4, hf⟩ := bn_some hf
      refine x_callS_i X (As := [.long x3]) (rest := [.int x2, .ref (ad 2)]) (n := 1) (goodS w_5148 w_593 w_60 w_594) (met_J13_bitCount_95d88 l fu x3 x4 hx4) rfl rfl (by decide +kernel) ⟨by decide, by decide⟩ rfl rfl (Nat.le_of_ble_eq_true rfl) dX0_build_130 ⟨by decide, by decide⟩ ?_
      refine x_iadd X dX0_build_133 ?_
      refine x_put X E.1.1 (T := TX0) (C := RX0) (ty := .int) inW0 tyX0 tyX0_ok nmX0 2 rfl rfl 3 (by decide) w_5027 rfl rfl (by decide +kernel) rfl rfl (Nat.le_of_ble_eq_true rfl) dX0_build_134 (picC kA ad (wI w 2 3 (x2 + x4))) rfl ?_
      refine x_nmW (pic := (picC kA ad)) (u := (wI w 2 3 (x2 + x4))) hf (fun w5 hf => ?_)
      refine x_iinc X dX0_build_137 2 rfl (by decide) (y4 + 1) rfl hf (fun x6 => [(4, .int x6), (0, .ref (ad 2)), (1, .int y1)]) (fun _ => rfl) (fun x6 hf => ?_)
      refine x_goto X (tgt := 109) dX0_build_140 (by decide) ?_
      cases hf
      refine x_lpick (lv2 := [(0, .ref (ad 2)), (1, .int y1), (4, .int x6)]) [1, 2, 0] rfl ?_
      exact ih _ _ _ hit kk
set_option maxRecDepth 100000 in
set_option maxHeartbeats 4000000 in
theorem met_X0_build (l : Launch) (hst : l.stackTraces = false) (D : va_G) (kA : Nat → ClassId) (ad : Nat → Nat) (fu : Nat) (w : WS)  (w1 : WS) (hf : f_X0_build fu w = some w1) (sz : Nat) : Met l yX0_build (wsY yX0_build cX0_build 6 none) rm_X0_build (va_Pc [.ref (ad 2)] (PreG D kA (picC kA ad w) sz)) (va_Qv (fun (_ : Unit) => True) (fun _ t => PosG D (va_A (picC kA ad w) sz) (picC kA ad w1) t) (va_A (picC kA ad w) sz)) 0 0 (va_A (picC kA ad w) sz) := by
  refine metG (own := RX0) hst (by decide +kernel) rfl (Nat.le_of_ble_eq_true rfl) rfl ?_
  intro p e s m below meth c X hr hlk E _
  unfold f_X0_build at hf
  refine x_aload_n X dX0_build_0 0 rfl ?_
  refine x_aload_n X dX0_build_1 0 rfl ?_
  refine x_get X E.1.1 (T := TX0) (C := RX0) inW0 2 rfl rfl 0 (by decide) w_136 rfl (v := .ref (ad 1)) rfl dX0_build_2 ?_
  refine x_get X E.1.1 (T := TX2) (C := RX2) inW2 1 rfl rfl 1 (by decide) w_5002 rfl (v := .int (w.1 1 1)) rfl dX0_build_5 ?_
  refine x_nmI hf (fun x1 hf => ?_)
  refine x_put X E.1.1 (T := TX0) (C := RX0) (ty := .int) inW0 tyX0 tyX0_ok nmX0 2 rfl rfl 2 (by decide) w_5026 rfl rfl (by decide +kernel) rfl rfl (Nat.le_of_ble_eq_true rfl) dX0_build_8 (picC kA ad (wI w 2 2 x1)) rfl ?_
  refine x_nmW (pic := (picC kA ad)) (u := (wI w 2 2 x1)) hf (fun w2 hf => ?_)
  refine x_aload_n X dX0_build_11 0 rfl ?_
  obtain ⟨x4, w3, hx4, hf⟩ := bn2_some hf
  refine x_callV_i X E (As := []) (rest := []) (n := 0) (ws2 := (picC kA ad w3)) (goodV w_5147 w_590 s_13 w_50 w_591) (met_X0_linkTurns l E.2.2.2 D kA ad fu w2 x4 w3 hx4) rfl rfl (by decide +kernel) ⟨by decide, by decide⟩ 2 rfl (qc := (RX0, TX0, _)) rfl rfl rfl rfl (Nat.le_of_ble_eq_true rfl) dX0_build_12 ⟨by decide, by decide⟩ ?_
  refine x_istore_n X (lv2 := [(1, .int x4), (0, .ref (ad 2))]) dX0_build_15 (by decide) rfl ?_
  refine x_aload_n X dX0_build_16 1 rfl ?_
  refine x_get X E.1.1 (T := TX0) (C := RX0) inW0 2 rfl rfl 0 (by decide) w_136 rfl (v := .ref (ad 1)) rfl dX0_build_17 ?_
  obtain ⟨x5, hx5, hf⟩ := bn_some hf
  refine x_callV_l X E (As := []) (rest := []) (n := 0) (ws2 := (picC kA ad w3)) (goodV w_5144 w_550 w_551 w_48 w_552) (met_X2_allRoads l E.2.2.2 D kA ad fu w3 x5 hx5) rfl rfl (by decide +kernel) ⟨by decide, by decide⟩ 1 rfl (qc := (RX2, TX2, _)) rfl rfl rfl rfl (Nat.le_of_ble_eq_true rfl) dX0_build_20 ⟨by decide, by decide⟩ ?_
  refine x_lstore_n X (lv2 := [(2, .long x5), (1, .int x4), (0, .ref (ad 2))]) dX0_build_23 (by decide) rfl ?_
  refine x_iconst X (v := 0) dX0_build_24 (by decide) ?_
  refine x_istore X (lv2 := [(4, .int 0), (2, .long x5), (1, .int x4), (0, .ref (ad 2))]) dX0_build_25 (by decide) rfl ?_
  refine x_lpick (lv2 := [(0, .ref (ad 2)), (1, .int x4), (2, .long x5), (4, .int 0)]) [3, 2, 1, 0] rfl ?_
  obtain ⟨w6, h7, hf⟩ := bn_some hf
  refine lp_X0_build_27 X E fu x4 fu x5 (0 : Int32) w3 w6 h7 ?_
  refine x_aload_n X dX0_build_101 0 rfl ?_
  refine x_iconst X (v := 0) dX0_build_102 (by decide) ?_
  refine x_put X E.1.1 (T := TX0) (C := RX0) (ty := .int) inW0 tyX0 tyX0_ok nmX0 2 rfl rfl 3 (by decide) w_5027 rfl rfl (by decide +kernel) rfl rfl (Nat.le_of_ble_eq_true rfl) dX0_build_103 (picC kA ad (wI w6 2 3 0)) rfl ?_
  refine x_nmW (pic := (picC kA ad)) (u := (wI w6 2 3 0)) hf (fun w8 hf => ?_)
  refine x_iconst X (v := 0) dX0_build_106 (by decide) ?_
  refine x_istore X (lv2 := [(4, .int 0), (0, .ref (ad 2)), (1, .int x4)]) dX0_build_107 (by decide) rfl ?_
  refine x_lpick (lv2 := [(0, .ref (ad 2)), (1, .int x4), (4, .int 0)]) [1, 2, 0] rfl ?_
  obtain ⟨w9, h10, hf⟩ := bn_some hf
  refine lp_X0_build_109 X E fu x4 fu (0 : Int32) w8 w9 h10 ?_
  refine x_aload_n X dX0_build_143 0 rfl ?_
  refine x_aload_n X dX0_build_144 0 rfl ?_
  refine x_get X E.1.1 (T := TX0) (C := RX0) inW0 2 rfl rfl 3 (by decide) w_5027 rfl (v := .int (w9.1 2 3)) rfl dX0_build_145 ?_
  refine x_nmI hf (fun x11 hf => ?_)
  refine x_iload_n X dX0_build_148 1 rfl ?_
  refine x_isub X dX0_build_149 ?_
  refine x_put X E.1.1 (T := TX0) (C := RX0) (ty := .int) inW0 tyX0 tyX0_ok nmX0 2 rfl rfl 4 (by decide) w_5029 rfl rfl (by decide +kernel) rfl rfl (Nat.le_of_ble_eq_true rfl) dX0_build_150 (picC kA ad (wI w9 2 4 (x11 - x4))) rfl ?_
  refine x_nmW (pic := (picC kA ad)) (u := (wI w9 2 4 (x11 - x4))) hf (fun w12 hf => ?_)
  refine x_aload_n X dX0_build_153 0 rfl ?_
  refine x_get X E.1.1 (T := TX0) (C := RX0) inW0 2 rfl rfl 9 (by decide) w_5035 rfl (v := .ref (ad 20)) rfl dX0_build_154 ?_
  refine x_ldc X (v := 536870912) w_5151 dX0_build_157 ?_
  refine x_fill X E w_5154 w_80 w_49 w_81 (by decide) (by decide) 20 rfl (by decide) dX0_build_159 ⟨by decide, by decide⟩ hf (picC kA ad) (setFC_20 kA ad _ _) (fun w13 hf => ?_)
  refine x_aload_n X dX0_build_162 0 rfl ?_
  refine x_get X E.1.1 (T := TX0) (C := RX0) inW0 2 rfl rfl 10 (by decide) w_5037 rfl (v := .ref (ad 21)) rfl dX0_build_163 ?_
  refine x_ldc X (v := 536870912) w_5151 dX0_build_166 ?_
  refine x_fill X E w_5154 w_80 w_49 w_81 (by decide) (by decide) 21 rfl (by decide) dX0_build_168 ⟨by decide, by decide⟩ hf (picC kA ad) (setFC_21 kA ad _ _) (fun w14 hf => ?_)
  refine x_aload_n X dX0_build_171 0 rfl ?_
  refine x_aload_n X dX0_build_172 0 rfl ?_
  refine x_get X E.1.1 (T := TX0) (C := RX0) inW0 2 rfl rfl 0 (by decide) w_136 rfl (v := .ref (ad 1)) rfl dX0_build_173 ?_
  obtain ⟨x15, hx15, hf⟩ := bn_some hf
  refine x_callV_l X E (As := []) (rest := [.ref (ad 2)]) (n := 0) (ws2 := (picC kA ad w14)) (goodV w_5144 w_550 w_551 w_48 w_552) (met_X2_allRoads l E.2.2.2 D kA ad fu w14 x15 hx15) rfl rfl (by decide +kernel) ⟨by decide, by decide⟩ 1 rfl (qc := (RX2, TX2, _)) rfl rfl rfl rfl (Nat.le_of_ble_eq_true rfl) dX0_build_176 ⟨by decide, by decide⟩ ?_
  refine x_aload_n X dX0_build_179 0 rfl ?_
  refine x_get X E.1.1 (T := TX0) (C := RX0) inW0 2 rfl rfl 0 (by decide) w_136 rfl (v := .ref (ad 1)) rfl dX0_build_180 ?_
  obtain ⟨x16, hx16, hf⟩ := bn_some hf
  refine x_callV_l X E (As := []) (rest := [.long x15, .ref (ad 2)]) (n := 0) (ws2 := (picC kA ad w14)) (goodV w_5144 w_550 w_551 w_48 w_552) (met_X2_allRoads l E.2.2.2 D kA ad fu w14 x16 hx16) rfl rfl (by decide +kernel) ⟨by decide, by decide⟩ 1 rfl (qc := (RX2, TX2, _)) rfl rfl rfl rfl (Nat.le_of_ble_eq_true rfl) dX0_build_183 ⟨by decide, by decide⟩ ?_
  obtain ⟨w17, hw17, hf⟩ := bn_some hf
  refine x_callV_v X E (As := [.long x15, .long x16]) (rest := []) (n := 2) (ws2 := (picC kA ad w17)) (goodV w_5119 w_457 s_4 w_50 w_5120) (met_X0_renewSteps l E.2.2.2 D kA ad fu w14 x15 x16 w17 hw17) rfl rfl (by decide +kernel) ⟨by decide, by decide⟩ 2 rfl (qc := (RX0, TX0, _)) rfl rfl rfl rfl (Nat.le_of_ble_eq_true rfl) dX0_build_186 ⟨by decide, by decide⟩ ?_
  refine x_aload_n X dX0_build_189 0 rfl ?_
  obtain ⟨x19, w18, hx19, hf⟩ := bn2_some hf
  refine x_callV_i X E (As := []) (rest := []) (n := 0) (ws2 := (picC kA ad w18)) (goodV w_5128 w_485 s_6 w_50 w_5129) (met_X0_settle l E.2.2.2 D kA ad fu w17 x19 w18 hx19) rfl rfl (by decide +kernel) ⟨by decide, by decide⟩ 2 rfl (qc := (RX0, TX0, _)) rfl rfl rfl rfl (Nat.le_of_ble_eq_true rfl) dX0_build_190 ⟨by decide, by decide⟩ ?_
  refine x_pop X dX0_build_193 rfl ?_
  refine x_aload_n X dX0_build_194 0 rfl ?_
  refine x_iconst X (v := 1) dX0_build_195 (by decide) ?_
  refine x_put X E.1.1 (T := TX0) (C := RX0) (ty := .boolean) inW0 tyX0 tyX0_ok nmX0 2 rfl rfl 1 (by decide) w_5024 rfl rfl (by decide +kernel) (by decide +kernel) rfl (Nat.le_of_ble_eq_true rfl) dX0_build_196 (picC kA ad (wI w18 2 1 1)) rfl ?_
  refine x_nmW (pic := (picC kA ad)) (u := (wI w18 2 1 1)) hf (fun w20 hf => ?_)
  cases hf
  exact x_vret X hr hlk rfl dX0_build_199
end
section
variable {p : Program} {l : Launch} {e : Env} {s : State} {m : MethodId} {args : Array Value} {below : List Frame} {meth : Method} {c : Code} {D : va_G} {kA : Nat → ClassId} {A : Nat → Prop} {Q : State → Prop} {ad al : Nat → Nat} {b L : Nat} {xs : Nat → Int32}
abbrev rm_X0_renewRoad : Room := { frames := 5, cells := 0, slots := 0, locals := 117 }
set_option maxRecDepth 100000 in
set_option maxHeartbeats 4000000 in
theorem met_X0_renewRoad (l : Launch) (hst : l.stackTraces = false) (D : va_G) (kA : Nat → ClassId) (ad : Nat → Nat) (fu : Nat) (w : WS) (a1 : Int32) (v : Int32) (w1 : WS) (hf : f_X0_renewRoad fu w a1 = some (v, w1)) (sz : Nat) : Met l yX0_renewRoad (wsY yX0_renewRoad cX0_renewRoad 2 (some .int)) rm_X0_renewRoad (va_Pc [.ref (ad 2), .int a1] (PreG D kA (picC kA ad w) sz)) (va_Qi (fun (r : Int32) (_ : Unit) => r = v) (fun _ t => PosG D (va_A (picC kA ad w) sz) (picC kA ad w1) t) (va_A (picC kA ad w) sz)) 0 0 (va_A (picC kA ad w) sz) := by
  refine metG (own := RX0) hst (by decide +kernel) rfl (Nat.le_of_ble_eq_true rfl) rfl ?_
  intro p e s m below meth c X hr hlk E _
  unfold f_X0_renewRoad at hf
  refine x_aload_n X dX0_renewRoad_0 0 rfl ?_
  refine x_get X E.1.1 (T := TX0) (C := RX0) inW0 2 rfl rfl 1 (by decide) w_5024 rfl (v := .int (w.1 2 1)) rfl dX0_renewRoad_1 ?_
  refine x_nmI hf (fun x1 hf => ?_)
  refine x_if_ne X (tgt := 9) dX0_renewRoad_4 (by decide) hf (fun hf => ?_) (fun hf => ?_)
  · refine x_aload_n X dX0_renewRoad_9 0 rfl ?_
    refine x_aload_n X dX0_renewRoad_10 0 rfl ?_
    refine x_get X E.1.1 (T := TX0) (C := RX0) inW0 2 rfl rfl 0 (by decide) w_136 rfl (v := .ref (ad 1)) rfl dX0_renewRoad_11 ?_
    refine x_iload_n X dX0_renewRoad_14 1 rfl ?_
    obtain ⟨x2, hx2, hf⟩ := bn_some hf
    refine x_callV_l X E (As := [.int a1]) (rest := [.ref (ad 2)]) (n := 1) (ws2 := (picC kA ad w)) (goodV w_450 w_451 w_452 w_48 w_453) (met_X2_forerunnersOf l E.2.2.2 D kA ad fu w a1 x2 hx2) rfl rfl (by decide +kernel) ⟨by decide, by decide⟩ 1 rfl (qc := (RX2, TX2, _)) rfl rfl rfl rfl (Nat.le_of_ble_eq_true rfl) dX0_renewRoad_15 ⟨by decide, by decide⟩ ?_
    refine x_iload_n X dX0_renewRoad_18 1 rfl ?_
    obtain ⟨x3, hx3, hf⟩ := bn_some hf
    refine x_callSN_l X (As := [.int a1]) (rest := [.long x2, .ref (ad 2)]) (n := 1) (goodY w_433) w_432 w_47 (host := "RoadOracle") (E.1.2.1 _ (NWL_in 316 (by decide +kernel) rfl)) (met_X3_only l fu a1 x3 hx3) rfl rfl (by decide +kernel) ⟨by decide, by decide⟩ rfl rfl (Nat.le_of_ble_eq_true rfl) dX0_renewRoad_19 ⟨by decide, by decide⟩ ?_
    obtain ⟨w4, hw4, hf⟩ := bn_some hf
    refine x_callV_v X E (As := [.long x2, .long x3]) (rest := []) (n := 2) (ws2 := (picC kA ad w4)) (goodV w_5119 w_457 s_4 w_50 w_5120) (met_X0_renewSteps l E.2.2.2 D kA ad fu w x2 x3 w4 hw4) rfl rfl (by decide +kernel) ⟨by decide, by decide⟩ 2 rfl (qc := (RX0, TX0, _)) rfl rfl rfl rfl (Nat.le_of_ble_eq_true rfl) dX0_renewRoad_22 ⟨by decide, by decide⟩ ?_
    refine x_aload_n X dX0_renewRoad_25 0 rfl ?_
    refine x_iload_n X dX0_renewRoad_26 1 rfl ?_
    obtain ⟨x5, hx5, hf⟩ := bn_some hf
    refine x_callSN_l X (As := [.int a1]) (rest := [.ref (ad 2)]) (n := 1) (goodY w_433) w_432 w_47 (host := "RoadOracle") (E.1.2.1 _ (NWL_in 316 (by decide +kernel) rfl)) (met_X3_only l fu a1 x5 hx5) rfl rfl (by decide +kernel) ⟨by decide, by decide⟩ rfl rfl (Nat.le_of_ble_eq_true rfl) dX0_renewRoad_27 ⟨by decide, by decide⟩ ?_
    refine x_aload_n X dX0_renewRoad_30 0 rfl ?_
    refine x_get X E.1.1 (T := TX0) (C := RX0) inW0 2 rfl rfl 0 (by decide) w_136 rfl (v := .ref (ad 1)) rfl dX0_renewRoad_31 ?_
    refine x_iload_n X dX0_renewRoad_34 1 rfl ?_
    obtain ⟨x6, hx6, hf⟩ := bn_some hf
    refine x_callV_l X E (As := [.int a1]) (rest := [.long x5, .ref (ad 2)]) (n := 1) (ws2 := (picC kA ad w4)) (goodV w_459 w_460 w_461 w_48 w_462) (met_X2_followersOf l E.2.2.2 D kA ad fu w4 a1 x6 hx6) rfl rfl (by decide +kernel) ⟨by decide, by decide⟩ 1 rfl (qc := (RX2, TX2, _)) rfl rfl rfl rfl (Nat.le_of_ble_eq_true rfl) dX0_renewRoad_35 ⟨by decide, by decide⟩ ?_
    obtain ⟨w7, hw7, hf⟩ := bn_some hf
    refine x_callV_v X E (As := [.long x5, .long x6]) (rest := []) (n := 2) (ws2 := (picC kA ad w7)) (goodV w_5119 w_457 s_4 w_50 w_5120) (met_X0_renewSteps l E.2.2.2 D kA ad fu w4 x5 x6 w7 hw7) rfl rfl (by decide +kernel) ⟨by decide, by decide⟩ 2 rfl (qc := (RX0, TX0, _)) rfl rfl rfl rfl (Nat.le_of_ble_eq_true rfl) dX0_renewRoad_38 ⟨by decide, by decide⟩ ?_
    refine x_aload_n X dX0_renewRoad_41 0 rfl ?_
    obtain ⟨x9, w8, hx9, hf⟩ := bn2_some hf
    refine x_callV_i X E (As := []) (rest := []) (n := 0) (ws2 := (picC kA ad w8)) (goodV w_5128 w_485 s_6 w_50 w_5129) (met_X0_settle l E.2.2.2 D kA ad fu w7 x9 w8 hx9) rfl rfl (by decide +kernel) ⟨by decide, by decide⟩ 2 rfl (qc := (RX0, TX0, _)) rfl rfl rfl rfl (Nat.le_of_ble_eq_true rfl) dX0_renewRoad_42 ⟨by decide, by decide⟩ ?_
    cases hf
    exact x_iret X hr hlk rfl rfl dX0_renewRoad_45
  · refine x_iconst X (v := 0) dX0_renewRoad_7 (by decide) ?_
    cases hf
    exact x_iret X hr hlk rfl rfl dX0_renewRoad_8
end
section
variable {p : Program} {l : Launch} {e : Env} {s : State} {m : MethodId} {args : Array Value} {below : List Frame} {meth : Method} {c : Code} {D : va_G} {kA : Nat → ClassId} {A : Nat → Prop} {Q : State → Prop} {ad al : Nat → Nat} {b L : Nat} {xs : Nat → Int32}
abbrev rm_X0_renewTurn : Room := { frames := 5, cells := 0, slots := 0, locals := 117 }
set_option maxRecDepth 100000 in
set_option maxHeartbeats 4000000 in
theorem met_X0_renewTurn (l : Launch) (hst : l.stackTraces = false) (D : va_G) (kA : Nat → ClassId) (ad : Nat → Nat) (fu : Nat) (w : WS) (a1 : Int32) (a2 : Int32) (v : Int32) (w1 : WS) (hf : f_X0_renewTurn fu w a1 a2 = some (v, w1)) (sz : Nat) : Met l yX0_renewTurn (wsY yX0_renewTurn cX0_renewTurn 3 (some .int)) rm_X0_renewTurn (va_Pc [.ref (ad 2), .int a1, .int a2] (PreG D kA (picC kA ad w) sz)) (va_Qi (fun (r : Int32) (_ : Unit) => r = v) (fun _ t => PosG D (va_A (picC kA ad w) sz) (picC kA ad w1) t) (va_A (picC kA ad w) sz)) 0 0 (va_A (picC kA ad w) sz) := by
  refine metG (own := RX0) hst (by decide +kernel) rfl (Nat.le_of_ble_eq_true rfl) rfl ?_
  intro p e s m below meth c X hr hlk E _
  unfold f_X0_renewTurn at hf
  refine x_aload_n X dX0_renewTurn_0 0 rfl ?_
  refine x_get X E.1.1 (T := TX0) (C := RX0) inW0 2 rfl rfl 1 (by decide) w_5024 rfl (v := .int (w.1 2 1)) rfl dX0_renewTurn_1 ?_
  refine x_nmI hf (fun x1 hf => ?_)
  refine x_if_ne X (tgt := 9) dX0_renewTurn_4 (by decide) hf (fun hf => ?_) (fun hf => ?_)
  · refine x_aload_n X dX0_renewTurn_9 0 rfl ?_
    refine x_iload_n X dX0_renewTurn_10 1 rfl ?_
    obtain ⟨x2, hx2, hf⟩ := bn_some hf
    refine x_callSN_l X (As := [.int a1]) (rest := [.ref (ad 2)]) (n := 1) (goodY w_433) w_432 w_47 (host := "RoadOracle") (E.1.2.1 _ (NWL_in 316 (by decide +kernel) rfl)) (met_X3_only l fu a1 x2 hx2) rfl rfl (by decide +kernel) ⟨by decide, by decide⟩ rfl rfl (Nat.le_of_ble_eq_true rfl) dX0_renewTurn_11 ⟨by decide, by decide⟩ ?_
    refine x_iload_n X dX0_renewTurn_14 2 rfl ?_
    obtain ⟨x3, hx3, hf⟩ := bn_some hf
    refine x_callSN_l X (As := [.int a2]) (rest := [.long x2, .ref (ad 2)]) (n := 1) (goodY w_433) w_432 w_47 (host := "RoadOracle") (E.1.2.1 _ (NWL_in 316 (by decide +kernel) rfl)) (met_X3_only l fu a2 x3 hx3) rfl rfl (by decide +kernel) ⟨by decide, by decide⟩ rfl rfl (Nat.le_of_ble_eq_true rfl) dX0_renewTurn_15 ⟨by decide, by decide⟩ ?_
    obtain ⟨w4, hw4, hf⟩ := bn_some hf
    refine x_callV_v X E (As := [.long x2, .long x3]) (rest := []) (n := 2) (ws2 := (picC kA ad w4)) (goodV w_5119 w_457 s_4 w_50 w_5120) (met_X0_renewSteps l E.2.2.2 D kA ad fu w x2 x3 w4 hw4) rfl rfl (by decide +kernel) ⟨by decide, by decide⟩ 2 rfl (qc := (RX0, TX0, _)) rfl rfl rfl rfl (Nat.le_of_ble_eq_true rfl) dX0_renewTurn_18 ⟨by decide, by decide⟩ ?_
    refine x_aload_n X dX0_renewTurn_21 0 rfl ?_
    obtain ⟨x6, w5, hx6, hf⟩ := bn2_some hf
    refine x_callV_i X E (As := []) (rest := []) (n := 0) (ws2 := (picC kA ad w5)) (goodV w_5128 w_485 s_6 w_50 w_5129) (met_X0_settle l E.2.2.2 D kA ad fu w4 x6 w5 hx6) rfl rfl (by decide +kernel) ⟨by decide, by decide⟩ 2 rfl (qc := (RX0, TX0, _)) rfl rfl rfl rfl (Nat.le_of_ble_eq_true rfl) dX0_renewTurn_22 ⟨by decide, by decide⟩ ?_
    cases hf
    exact x_iret X hr hlk rfl rfl dX0_renewTurn_25
  · refine x_iconst X (v := 0) dX0_renewTurn_7 (by decide) ?_
    cases hf
    exact x_iret X hr hlk rfl rfl dX0_renewTurn_8
end
section
variable {p : Program} {l : Launch} {e : Env} {s : State} {m : MethodId} {args : Array Value} {below : List Frame} {meth : Method} {c : Code} {D : va_G} {kA : Nat → ClassId} {A : Nat → Prop} {Q : State → Prop} {ad al : Nat → Nat} {b L : Nat} {xs : Nat → Int32}
abbrev rm_X0_renewAll : Room := { frames := 5, cells := 0, slots := 0, locals := 117 }
set_option maxRecDepth 100000 in
set_option maxHeartbeats 4000000 in
theorem met_X0_renewAll (l : Launch) (hst : l.stackTraces = false) (D : va_G) (kA : Nat → ClassId) (ad : Nat → Nat) (fu : Nat) (w : WS)  (v : Int32) (w1 : WS) (hf : f_X0_renewAll fu w = some (v, w1)) (sz : Nat) : Met l yX0_renewAll (wsY yX0_renewAll cX0_renewAll 1 (some .int)) rm_X0_renewAll (va_Pc [.ref (ad 2)] (PreG D kA (picC kA ad w) sz)) (va_Qi (fun (r : Int32) (_ : Unit) => r = v) (fun _ t => PosG D (va_A (picC kA ad w) sz) (picC kA ad w1) t) (va_A (picC kA ad w) sz)) 0 0 (va_A (picC kA ad w) sz) := by
  refine metG (own := RX0) hst (by decide +kernel) rfl (Nat.le_of_ble_eq_true rfl) rfl ?_
  intro p e s m below meth c X hr hlk E _
  unfold f_X0_renewAll at hf
  refine x_aload_n X dX0_renewAll_0 0 rfl ?_
  refine x_get X E.1.1 (T := TX0) (C := RX0) inW0 2 rfl rfl 1 (by decide) w_5024 rfl (v := .int (w.1 2 1)) rfl dX0_renewAll_1 ?_
  refine x_nmI hf (fun x1 hf => ?_)
  refine x_if_ne X (tgt := 9) dX0_renewAll_4 (by decide) hf (fun hf => ?_) (fun hf => ?_)
  · refine x_aload_n X dX0_renewAll_9 0 rfl ?_
    refine x_aload_n X dX0_renewAll_10 0 rfl ?_
    refine x_get X E.1.1 (T := TX0) (C := RX0) inW0 2 rfl rfl 0 (by decide) w_136 rfl (v := .ref (ad 1)) rfl dX0_renewAll_11 ?_
    obtain ⟨x2, hx2, hf⟩ := bn_some hf
    refine x_callV_l X E (As := []) (rest := [.ref (ad 2)]) (n := 0) (ws2 := (picC kA ad w)) (goodV w_5144 w_550 w_551 w_48 w_552) (met_X2_allRoads l E.2.2.2 D kA ad fu w x2 hx2) rfl rfl (by decide +kernel) ⟨by decide, by decide⟩ 1 rfl (qc := (RX2, TX2, _)) rfl rfl rfl rfl (Nat.le_of_ble_eq_true rfl) dX0_renewAll_14 ⟨by decide, by decide⟩ ?_
    refine x_aload_n X dX0_renewAll_17 0 rfl ?_
    refine x_get X E.1.1 (T := TX0) (C := RX0) inW0 2 rfl rfl 0 (by decide) w_136 rfl (v := .ref (ad 1)) rfl dX0_renewAll_18 ?_
    obtain ⟨x3, hx3, hf⟩ := bn_some hf
    refine x_callV_l X E (As := []) (rest := [.long x2, .ref (ad 2)]) (n := 0) (ws2 := (picC kA ad w)) (goodV w_5144 w_550 w_551 w_48 w_552) (met_X2_allRoads l E.2.2.2 D kA ad fu w x3 hx3) rfl rfl (by decide +kernel) ⟨by decide, by decide⟩ 1 rfl (qc := (RX2, TX2, _)) rfl rfl rfl rfl (Nat.le_of_ble_eq_true rfl) dX0_renewAll_21 ⟨by decide, by decide⟩ ?_
    obtain ⟨w4, hw4, hf⟩ := bn_some hf
    refine x_callV_v X E (As := [.long x2, .long x3]) (rest := []) (n := 2) (ws2 := (picC kA ad w4)) (goodV w_5119 w_457 s_4 w_50 w_5120) (met_X0_renewSteps l E.2.2.2 D kA ad fu w x2 x3 w4 hw4) rfl rfl (by decide +kernel) ⟨by decide, by decide⟩ 2 rfl (qc := (RX0, TX0, _)) rfl rfl rfl rfl (Nat.le_of_ble_eq_true rfl) dX0_renewAll_24 ⟨by decide, by decide⟩ ?_
    refine x_aload_n X dX0_renewAll_27 0 rfl ?_
    obtain ⟨x6, w5, hx6, hf⟩ := bn2_some hf
    refine x_callV_i X E (As := []) (rest := []) (n := 0) (ws2 := (picC kA ad w5)) (goodV w_5128 w_485 s_6 w_50 w_5129) (met_X0_settle l E.2.2.2 D kA ad fu w4 x6 w5 hx6) rfl rfl (by decide +kernel) ⟨by decide, by decide⟩ 2 rfl (qc := (RX0, TX0, _)) rfl rfl rfl rfl (Nat.le_of_ble_eq_true rfl) dX0_renewAll_28 ⟨by decide, by decide⟩ ?_
    cases hf
    exact x_iret X hr hlk rfl rfl dX0_renewAll_31
  · refine x_iconst X (v := 0) dX0_renewAll_7 (by decide) ?_
    cases hf
    exact x_iret X hr hlk rfl rfl dX0_renewAll_8
end
section
variable {p : Program} {l : Launch} {e : Env} {s : State} {m : MethodId} {args : Array Value} {below : List Frame} {meth : Method} {c : Code} {D : va_G} {kA : Nat → ClassId} {A : Nat → Prop} {Q : State → Prop} {ad al : Nat → Nat} {b L : Nat} {xs : Nat → Int32}
abbrev rm_X0_passOn : Room := { frames := 1, cells := 0, slots := 0, locals := 22 }
set_option maxRecDepth 100000 in
set_option maxHeartbeats 4000000 in
theorem lp_X0_passOn_12 (X : CX p m c cX0_passOn 7 s args RX0) (E : EX l s D kA A) (fu : Nat) (y2 : Int32) (y4 : Int32) : ∀ (n : Nat) (y5 : Int32) (w : WS) (rw : WS), iter (fun q => bd_X0_passOn_12 fu y2 y4 q.1 q.2) n (y5, w) = some (rw) → CS p l e rm_X0_passOn s m args below meth c D A 7 0 0 Q (picC kA ad rw) 74 [] [] → CS p l e rm_X0_passOn s m args below meth c D A 7 0 0 Q (picC kA ad w) 12 [(0, .ref (ad 2)), (1, .ref (ad 5)), (2, .int y2), (4, .int y4), (5, .int y5)] [] := by
  intro n
  induction n with
  | zero =>
    intro y5 w rw hit kk
    exact (iter_0 hit).elim
  | succ n ih =>
    intro y5 w rw hit kk
    obtain ⟨o, h1, hit⟩ := iter_one hit
    have hf : bd_X0_passOn_12 fu y2 y4 y5 w = some o := h1
    unfold bd_X0_passOn_12 at hf
    refine x_iload X dX0_passOn_12 4 rfl ?_
    refine x_iload X dX0_passOn_14 3 rfl ?_
    refine x_icmp_ge X (tgt := 74) dX0_passOn_16 (by decide) hf (fun hf => ?_) (fun hf => ?_)
    · cases hf
      cases hit
      refine x_lpick (lv2 := []) [] rfl ?_
      exact kk
    · refine x_aload_n X dX0_passOn_19 0 rfl ?_
      refine x_get X E.1.1 (T := TX0) (C := RX0) inW0 2 rfl rfl 6 (by decide) w_146 rfl (v := .ref (ad 16)) rfl dX0_passOn_20 ?_
      refine x_iload X dX0_passOn_23 4 rfl ?_
      refine x_iald X E.1.1 16 rfl dX0_passOn_25 hf (fun x1 hf => ?_)
      refine x_istore X (lv2 := [(6, .int x1), (0, .ref (ad 2)), (1, .ref (ad 5)), (2, .int y2), (4, .int y4), (5, .int y5)]) dX0_passOn_26 (by decide) rfl ?_
      refine x_aload_n X dX0_passOn_28 1 rfl ?_
      refine x_get X E.1.1 (T := TX0) (C := RX0) inW0 2 rfl rfl 7 (by decide) w_5032 rfl (v := .ref (ad 18)) rfl dX0_passOn_29 ?_
      refine x_iload_n X dX0_passOn_32 3 rfl ?_
      refine x_lald X E.1.1 18 rfl dX0_passOn_33 hf (fun x2 hf => ?_)
      refine x_iload X dX0_passOn_34 0 rfl ?_
      obtain ⟨x3, hx3, hf⟩ := bn_some hf
      refine x_callSN_i X (As := [.long x2, .int x1]) (rest := []) (n := 2) (goodY w_275) w_274 w_47 (host := "RoadOracle") (E.1.2.1 _ (NWL_in 313 (by decide +kernel) rfl)) (met_X3_has l fu x2 x1 x3 hx3) rfl rfl (by decide +kernel) ⟨by decide, by decide⟩ rfl rfl (Nat.le_of_ble_eq_true rfl) dX0_passOn_36 ⟨by decide, by decide⟩ ?_
      refine x_if_eq X (tgt := 68) dX0_passOn_39 (by decide) hf (fun hf => ?_) (fun hf => ?_)
      · refine x_iinc X dX0_passOn_68 5 rfl (by decide) (y5 + 1) rfl hf (fun x4 => [(5, .int x4), (6, .int x1), (0, .ref (ad 2)), (1, .ref (ad 5)), (2, .int y2), (4, .int y4)]) (fun _ => rfl) (fun x4 hf => ?_)
        refine x_goto X (tgt := 12) dX0_passOn_71 (by decide) ?_
        cases hf
        refine x_lpick (lv2 := [(0, .ref (ad 2)), (1, .ref (ad 5)), (2, .int y2), (4, .int y4), (5, .int x4)]) [2, 3, 4, 5, 0] rfl ?_
        exact ih _ _ _ hit kk
      · refine x_aload_n X dX0_passOn_42 2 rfl ?_
        refine x_iload X dX0_passOn_43 0 rfl ?_
        refine x_aload_n X dX0_passOn_45 2 rfl ?_
        refine x_iload X dX0_passOn_46 0 rfl ?_
        refine x_iald X E.1.1 5 rfl dX0_passOn_48 hf (fun x5 hf => ?_)
        refine x_aload_n X dX0_passOn_49 2 rfl ?_
        refine x_iload_n X dX0_passOn_50 3 rfl ?_
        refine x_iald X E.1.1 5 rfl dX0_passOn_51 hf (fun x6 hf => ?_)
        refine x_aload_n X dX0_passOn_52 1 rfl ?_
        refine x_get X E.1.1 (T := TX0) (C := RX0) inW0 2 rfl rfl 9 (by decide) w_5035 rfl (v := .ref (ad 20)) rfl dX0_passOn_53 ?_
        refine x_iload_n X dX0_passOn_56 3 rfl ?_
        refine x_iload X dX0_passOn_57 0 rfl ?_
        obtain ⟨x7, hx7, hf⟩ := bn_some hf
        refine x_callSN_i X (As := [.int y2, .int x1]) (rest := [.ref (ad 20), .int x6, .int x5, .int x1, .ref (ad 5)]) (n := 2) (goodY w_294) w_293 w_47 (host := "RoadOracle") (E.1.2.1 _ (NWL_in 348 (by decide +kernel) rfl)) (met_X3_pair l fu y2 x1 x7 hx7) rfl rfl (by decide +kernel) ⟨by decide, by decide⟩ rfl rfl (Nat.le_of_ble_eq_true rfl) dX0_passOn_59 ⟨by decide, by decide⟩ ?_
        refine x_iald X E.1.1 20 rfl dX0_passOn_62 hf (fun x8 hf => ?_)
        refine x_iadd X dX0_passOn_63 ?_
        refine x_mmin X w_5133 w_496 w_62 w_497 (by decide) (Nat.le_of_ble_eq_true rfl) (by decide) (by decide) dX0_passOn_64 ?_
        refine x_iast X E.1.1 5 rfl dX0_passOn_67 hf (picC kA ad) (setC_5 kA ad _ _ _) (fun w9 hf => ?_)
        refine x_iinc X dX0_passOn_68 5 rfl (by decide) (y5 + 1) rfl hf (fun x10 => [(5, .int x10), (6, .int x1), (0, .ref (ad 2)), (1, .ref (ad 5)), (2, .int y2), (4, .int y4)]) (fun _ => rfl) (fun x10 hf => ?_)
        refine x_goto X (tgt := 12) dX0_passOn_71 (by decide) ?_
        cases hf
        refine x_lpick (lv2 := [(0, .ref (ad 2)), (1, .ref (ad 5)), (2, .int y2), (4, .int y4), (5, .int x10)]) [2, 3, 4, 5, 0] rfl ?_
        exact ih _ _ _ hit kk
set_option maxRecDepth 100000 in
set_option maxHeartbeats 4000000 in
theorem met_X0_passOn (l : Launch) (hst : l.stackTraces = false) (D : va_G) (kA : Nat → ClassId) (ad : Nat → Nat) (fu : Nat) (w : WS) (a2 : Int32) (a3 : Int32) (a4 : Int32) (w1 : WS) (hf : f_X0_passOn fu w a2 a3 a4 = some w1) (sz : Nat) : Met l yX0_passOn (wsY yX0_passOn cX0_passOn 7 none) rm_X0_passOn (va_Pc [.ref (ad 2), .ref (ad 5), .int a2, .int a3, .int a4] (PreG D kA (picC kA ad w) sz)) (va_Qv (fun (_ : Unit) => True) (fun _ t => PosG D (va_A (picC kA ad w) sz) (picC kA ad w1) t) (va_A (picC kA ad w) sz)) 0 0 (va_A (picC kA ad w) sz) := by
  refine metG (own := RX0) hst (by decide +kernel) rfl (Nat.le_of_ble_eq_true rfl) rfl ?_
  intro p e s m below meth c X hr hlk E _
  unfold f_X0_passOn at hf
  refine x_aload_n X dX0_passOn_0 1 rfl ?_
  refine x_iload_n X dX0_passOn_1 2 rfl ?_
  refine x_iald X E.1.1 5 rfl dX0_passOn_2 hf (fun x1 hf => ?_)
  refine x_ldc X (v := 536870912) w_5151 dX0_passOn_3 ?_
  refine x_icmp_lt X (tgt := 9) dX0_passOn_5 (by decide) hf (fun hf => ?_) (fun hf => ?_)
  · refine x_iload_n X dX0_passOn_9 3 rfl ?_
    refine x_istore X (lv2 := [(5, .int a3), (0, .ref (ad 2)), (1, .ref (ad 5)), (2, .int a2), (3, .int a3), (4, .int a4)]) dX0_passOn_10 (by decide) rfl ?_
    refine x_lpick (lv2 := [(0, .ref (ad 2)), (1, .ref (ad 5)), (2, .int a2), (4, .int a4), (5, .int a3)]) [1, 2, 3, 5, 0] rfl ?_
    obtain ⟨w2, h3, hf⟩ := bn_some hf
    refine lp_X0_passOn_12 X E fu a2 a4 fu a3 w w2 h3 ?_
    cases hf
    exact x_vret X hr hlk rfl dX0_passOn_74
  · cases hf
    exact x_vret X hr hlk rfl dX0_passOn_8
end
section
variable {p : Program} {l : Launch} {e : Env} {s : State} {m : MethodId} {args : Array Value} {below : List Frame} {meth : Method} {c : Code} {D : va_G} {kA : Nat → ClassId} {A : Nat → Prop} {Q : State → Prop} {ad al : Nat → Nat} {b L : Nat} {xs : Nat → Int32}
abbrev rm_X0_spreadForward : Room := { frames := 2, cells := 0, slots := 0, locals := 48 }
set_option maxRecDepth 100000 in
set_option maxHeartbeats 4000000 in
theorem lp_X0_spreadForward_2 (X : CX p m c cX0_spreadForward 3 s args RX0) (E : EX l s D kA A) (fu : Nat)  : ∀ (n : Nat) (y2 : Int32) (w : WS) (rw : WS), iter (fun q => bd_X0_spreadForward_2 fu q.1 q.2) n (y2, w) = some (rw) → CS p l e rm_X0_spreadForward s m args below meth c D A 3 0 0 Q (picC kA ad rw) 34 [(0, .ref (ad 2)), (1, .ref (ad 5))] [] → CS p l e rm_X0_spreadForward s m args below meth c D A 3 0 0 Q (picC kA ad w) 2 [(0, .ref (ad 2)), (1, .ref (ad 5)), (2, .int y2)] [] := by
  intro n
  induction n with
  | zero =>
    intro y2 w rw hit kk
    exact (iter_0 hit).elim
  | succ n ih =>
    intro y2 w rw hit kk
    obtain ⟨o, h1, hit⟩ := iter_one hit
    have hf : bd_X0_spreadForward_2 fu y2 w = some o := h1
    unfold bd_X0_spreadForward_2 at hf
    refine x_iload_n X dX0_spreadForward_2 2 rfl ?_
    refine x_aload_n X dX0_spreadForward_3 0 rfl ?_
    refine x_get X E.1.1 (T := TX0) (C := RX0) inW0 2 rfl rfl 2 (by decide) w_5026 rfl (v := .int (w.1 2 2)) rfl dX0_spreadForward_4 ?_
    refine x_nmI hf (fun x1 hf => ?_)
    refine x_icmp_ge X (tgt := 34) dX0_spreadForward_7 (by decide) hf (fun hf => ?_) (fun hf => ?_)
    · cases hf
      cases hit
      refine x_lpick (lv2 := [(0, .ref (ad 2)), (1, .ref (ad 5))]) [0, 1] rfl ?_
      exact kk
    · refine x_aload_n X dX0_spreadForward_10 0 rfl ?_
      refine x_aload_n X dX0_spreadForward_11 1 rfl ?_
      refine x_aload_n X dX0_spreadForward_12 0 rfl ?_
      refine x_get X E.1.1 (T := TX0) (C := RX0) inW0 2 rfl rfl 6 (by decide) w_146 rfl (v := .ref (ad 16)) rfl dX0_spreadForward_13 ?_
      refine x_iload_n X dX0_spreadForward_16 2 rfl ?_
      refine x_iald X E.1.1 16 rfl dX0_spreadForward_17 hf (fun x2 hf => ?_)
      refine x_iload_n X dX0_spreadForward_18 2 rfl ?_
      refine x_iconst X (v := 1) dX0_spreadForward_19 (by decide) ?_
      refine x_iadd X dX0_spreadForward_20 ?_
      refine x_aload_n X dX0_spreadForward_21 0 rfl ?_
      refine x_get X E.1.1 (T := TX0) (C := RX0) inW0 2 rfl rfl 2 (by decide) w_5026 rfl (v := .int (w.1 2 2)) rfl dX0_spreadForward_22 ?_
      refine x_nmI hf (fun x3 hf => ?_)
      obtain ⟨w4, hw4, hf⟩ := bn_some hf
      refine x_callV_v X E (As := [.ref (ad 5), .int x2, .int (y2 + 1), .int x3]) (rest := []) (n := 4) (ws2 := (picC kA ad w4)) (goodV w_5170 w_677 s_19 w_50 w_5171) (met_X0_passOn l E.2.2.2 D kA ad fu w x2 (y2 + 1) x3 w4 hw4) rfl rfl (by decide +kernel) ⟨by decide, by decide⟩ 2 rfl (qc := (RX0, TX0, _)) rfl rfl rfl rfl (Nat.le_of_ble_eq_true rfl) dX0_spreadForward_25 ⟨by decide, by decide⟩ ?_
      refine x_iinc X dX0_spreadForward_28 2 rfl (by decide) (y2 + 1) rfl hf (fun x5 => [(2, .int x5), (0, .ref (ad 2)), (1, .ref (ad 5))]) (fun _ => rfl) (fun x5 hf => ?_)
      refine x_goto X (tgt := 2) dX0_spreadForward_31 (by decide) ?_
      cases hf
      refine x_lpick (lv2 := [(0, .ref (ad 2)), (1, .ref (ad 5)), (2, .int x5)]) [1, 2, 0] rfl ?_
      exact ih _ _ _ hit kk
set_option maxRecDepth 100000 in
set_option maxHeartbeats 4000000 in
theorem lp_X0_spreadForward_41 (X : CX p m c cX0_spreadForward 3 s args RX0) (E : EX l s D kA A) (fu : Nat)  : ∀ (n : Nat) (y2 : Int32) (w : WS) (rw : WS), iter (fun q => bd_X0_spreadForward_41 fu q.1 q.2) n (y2, w) = some (rw) → CS p l e rm_X0_spreadForward s m args below meth c D A 3 0 0 Q (picC kA ad rw) 64 [] [] → CS p l e rm_X0_spreadForward s m args below meth c D A 3 0 0 Q (picC kA ad w) 41 [(0, .ref (ad 2)), (1, .ref (ad 5)), (2, .int y2)] [] := by
  intro n
  induction n with
  | zero =>
    intro y2 w rw hit kk
    exact (iter_0 hit).elim
  | succ n ih =>
    intro y2 w rw hit kk
    obtain ⟨o, h1, hit⟩ := iter_one hit
    have hf : bd_X0_spreadForward_41 fu y2 w = some o := h1
    unfold bd_X0_spreadForward_41 at hf
    refine x_iload_n X dX0_spreadForward_41 2 rfl ?_
    refine x_if_lt X (tgt := 64) dX0_spreadForward_42 (by decide) hf (fun hf => ?_) (fun hf => ?_)
    · cases hf
      cases hit
      refine x_lpick (lv2 := []) [] rfl ?_
      exact kk
    · refine x_aload_n X dX0_spreadForward_45 0 rfl ?_
      refine x_aload_n X dX0_spreadForward_46 1 rfl ?_
      refine x_aload_n X dX0_spreadForward_47 0 rfl ?_
      refine x_get X E.1.1 (T := TX0) (C := RX0) inW0 2 rfl rfl 6 (by decide) w_146 rfl (v := .ref (ad 16)) rfl dX0_spreadForward_48 ?_
      refine x_iload_n X dX0_spreadForward_51 2 rfl ?_
      refine x_iald X E.1.1 16 rfl dX0_spreadForward_52 hf (fun x1 hf => ?_)
      refine x_iconst X (v := 0) dX0_spreadForward_53 (by decide) ?_
      refine x_iload_n X dX0_spreadForward_54 2 rfl ?_
      obtain ⟨w2, hw2, hf⟩ := bn_some hf
      refine x_callV_v X E (As := [.ref (ad 5), .int x1, .int 0, .int y2]) (rest := []) (n := 4) (ws2 := (picC kA ad w2)) (goodV w_5170 w_677 s_19 w_50 w_5171) (met_X0_passOn l E.2.2.2 D kA ad fu w x1 (0 : Int32) y2 w2 hw2) rfl rfl (by decide +kernel) ⟨by decide, by decide⟩ 2 rfl (qc := (RX0, TX0, _)) rfl rfl rfl rfl (Nat.le_of_ble_eq_true rfl) dX0_spreadForward_55 ⟨by decide, by decide⟩ ?_
      refine x_iinc X dX0_spreadForward_58 2 rfl (by decide) (y2 + (-1)) rfl hf (fun x3 => [(2, .int x3), (0, .ref (ad 2)), (1, .ref (ad 5))]) (fun _ => rfl) (fun x3 hf => ?_)
      refine x_goto X (tgt := 41) dX0_spreadForward_61 (by decide) ?_
      cases hf
      refine x_lpick (lv2 := [(0, .ref (ad 2)), (1, .ref (ad 5)), (2, .int x3)]) [1, 2, 0] rfl ?_
      exact ih _ _ _ hit kk
set_option maxRecDepth 100000 in
set_option maxHeartbeats 4000000 in
theorem met_X0_spreadForward (l : Launch) (hst : l.stackTraces = false) (D : va_G) (kA : Nat → ClassId) (ad : Nat → Nat) (fu : Nat) (w : WS)  (w1 : WS) (hf : f_X0_spreadForward fu w = some w1) (sz : Nat) : Met l yX0_spreadForward (wsY yX0_spreadForward cX0_spreadForward 3 none) rm_X0_spreadForward (va_Pc [.ref (ad 2), .ref (ad 5)] (PreG D kA (picC kA ad w) sz)) (va_Qv (fun (_ : Unit) => True) (fun _ t => PosG D (va_A (picC kA ad w) sz) (picC kA ad w1) t) (va_A (picC kA ad w) sz)) 0 0 (va_A (picC kA ad w) sz) := by
  refine metG (own := RX0) hst (by decide +kernel) rfl (Nat.le_of_ble_eq_true rfl) rfl ?_
  intro p e s m below meth c X hr hlk E _
  unfold f_X0_spreadForward at hf
  refine x_iconst X (v := 0) dX0_spreadForward_0 (by decide) ?_
  refine x_istore_n X (lv2 := [(2, .int 0), (0, .ref (ad 2)), (1, .ref (ad 5))]) dX0_spreadForward_1 (by decide) rfl ?_
  refine x_lpick (lv2 := [(0, .ref (ad 2)), (1, .ref (ad 5)), (2, .int 0)]) [1, 2, 0] rfl ?_
  obtain ⟨w1, h2, hf⟩ := bn_some hf
  refine lp_X0_spreadForward_2 X E fu  fu (0 : Int32) w w1 h2 ?_
  refine x_aload_n X dX0_spreadForward_34 0 rfl ?_
  refine x_get X E.1.1 (T := TX0) (C := RX0) inW0 2 rfl rfl 2 (by decide) w_5026 rfl (v := .int (w1.1 2 2)) rfl dX0_spreadForward_35 ?_
  refine x_nmI hf (fun x3 hf => ?_)
  refine x_iconst X (v := 1) dX0_spreadForward_38 (by decide) ?_
  refine x_isub X dX0_spreadForward_39 ?_
  refine x_nmI hf (fun x4 hf => ?_)
  refine x_istore_n X (lv2 := [(2, .int x4), (0, .ref (ad 2)), (1, .ref (ad 5))]) dX0_spreadForward_40 (by decide) rfl ?_
  refine x_lpick (lv2 := [(0, .ref (ad 2)), (1, .ref (ad 5)), (2, .int x4)]) [1, 2, 0] rfl ?_
  obtain ⟨w5, h6, hf⟩ := bn_some hf
  refine lp_X0_spreadForward_41 X E fu  fu x4 w1 w5 h6 ?_
  cases hf
  exact x_vret X hr hlk rfl dX0_spreadForward_64
end
section
variable {p : Program} {l : Launch} {e : Env} {s : State} {m : MethodId} {args : Array Value} {below : List Frame} {meth : Method} {c : Code} {D : va_G} {kA : Nat → ClassId} {A : Nat → Prop} {Q : State → Prop} {ad al : Nat → Nat} {b L : Nat} {xs : Nat → Int32}
abbrev rm_X2_append : Room := { frames := 1, cells := 0, slots := 0, locals := 20 }
set_option maxRecDepth 100000 in
set_option maxHeartbeats 4000000 in
theorem met_X2_append (l : Launch) (hst : l.stackTraces = false) (D : va_G) (kA : Nat → ClassId) (ad : Nat → Nat) (fu : Nat) (w : WS) (a1 : Int32) (a2 : Int32) (a3 : Int32) (v : Int32) (w1 : WS) (hf : f_X2_append fu w a1 a2 a3 = some (v, w1)) (sz : Nat) : Met l yX2_append (wsY yX2_append cX2_append 5 (some .int)) rm_X2_append (va_Pc [.ref (ad 1), .int a1, .int a2, .int a3] (PreG D kA (picC kA ad w) sz)) (va_Qi (fun (r : Int32) (_ : Unit) => r = v) (fun _ t => PosG D (va_A (picC kA ad w) sz) (picC kA ad w1) t) (va_A (picC kA ad w) sz)) 0 0 (va_A (picC kA ad w) sz) := by
  refine metG (own := RX2) hst (by decide +kernel) rfl (Nat.le_of_ble_eq_true rfl) rfl ?_
  intro p e s m below meth c X hr hlk E _
  unfold f_X2_append at hf
  refine x_aload_n X dX2_append_0 0 rfl ?_
  refine x_get X E.1.1 (T := TX2) (C := RX2) inW2 1 rfl rfl 1 (by decide) w_83 rfl (v := .int (w.1 1 1)) rfl dX2_append_1 ?_
  refine x_nmI hf (fun x1 hf => ?_)
  refine x_istore X (lv2 := [(4, .int x1), (0, .ref (ad 1)), (1, .int a1), (2, .int a2), (3, .int a3)]) dX2_append_4 (by decide) rfl ?_
  refine x_aload_n X dX2_append_6 1 rfl ?_
  refine x_get X E.1.1 (T := TX2) (C := RX2) inW2 1 rfl rfl 2 (by decide) w_87 rfl (v := .ref (ad 9)) rfl dX2_append_7 ?_
  refine x_iload X dX2_append_10 0 rfl ?_
  refine x_iload_n X dX2_append_12 2 rfl ?_
  refine x_iast X E.1.1 9 rfl dX2_append_13 hf (picC kA ad) (setC_9 kA ad _ _ _) (fun w2 hf => ?_)
  refine x_aload_n X dX2_append_14 1 rfl ?_
  refine x_get X E.1.1 (T := TX2) (C := RX2) inW2 1 rfl rfl 3 (by decide) w_89 rfl (v := .ref (ad 10)) rfl dX2_append_15 ?_
  refine x_iload X dX2_append_18 0 rfl ?_
  refine x_iload_n X dX2_append_20 3 rfl ?_
  refine x_iast X E.1.1 10 rfl dX2_append_21 hf (picC kA ad) (setC_10 kA ad _ _ _) (fun w3 hf => ?_)
  refine x_aload_n X dX2_append_22 1 rfl ?_
  refine x_get X E.1.1 (T := TX2) (C := RX2) inW2 1 rfl rfl 4 (by decide) w_91 rfl (v := .ref (ad 11)) rfl dX2_append_23 ?_
  refine x_iload X dX2_append_26 0 rfl ?_
  refine x_iload_n X dX2_append_28 4 rfl ?_
  refine x_iast X E.1.1 11 rfl dX2_append_29 hf (picC kA ad) (setC_11 kA ad _ _ _) (fun w4 hf => ?_)
  refine x_aload_n X dX2_append_30 1 rfl ?_
  refine x_get X E.1.1 (T := TX2) (C := RX2) inW2 1 rfl rfl 6 (by decide) w_97 rfl (v := .ref (ad 13)) rfl dX2_append_31 ?_
  refine x_iload_n X dX2_append_34 2 rfl ?_
  refine x_dup2 X dX2_append_35 rfl rfl ?_
  refine x_lald X E.1.1 13 rfl dX2_append_36 hf (fun x5 hf => ?_)
  refine x_iload X dX2_append_37 0 rfl ?_
  obtain ⟨x6, hx6, hf⟩ := bn_some hf
  refine x_callSN_l X (As := [.int x1]) (rest := [.long x5, .int a1, .ref (ad 13)]) (n := 1) (goodY w_433) w_432 w_47 (host := "RoadOracle") (E.1.2.1 _ (NWL_in 305 (by decide +kernel) rfl)) (met_X3_only l fu x1 x6 hx6) rfl rfl (by decide +kernel) ⟨by decide, by decide⟩ rfl rfl (Nat.le_of_ble_eq_true rfl) dX2_append_39 ⟨by decide, by decide⟩ ?_
  refine x_lor X dX2_append_42 ?_
  refine x_last X E.1.1 13 rfl dX2_append_43 hf (picC kA ad) (setC_13 kA ad _ _ _) (fun w7 hf => ?_)
  refine x_aload_n X dX2_append_44 1 rfl ?_
  refine x_get X E.1.1 (T := TX2) (C := RX2) inW2 1 rfl rfl 7 (by decide) w_99 rfl (v := .ref (ad 14)) rfl dX2_append_45 ?_
  refine x_iload_n X dX2_append_48 3 rfl ?_
  refine x_dup2 X dX2_append_49 rfl rfl ?_
  refine x_lald X E.1.1 14 rfl dX2_append_50 hf (fun x8 hf => ?_)
  refine x_iload X dX2_append_51 0 rfl ?_
  obtain ⟨x9, hx9, hf⟩ := bn_some hf
  refine x_callSN_l X (As := [.int x1]) (rest := [.long x8, .int a2, .ref (ad 14)]) (n := 1) (goodY w_433) w_432 w_47 (host := "RoadOracle") (E.1.2.1 _ (NWL_in 305 (by decide +kernel) rfl)) (met_X3_only l fu x1 x9 hx9) rfl rfl (by decide +kernel) ⟨by decide, by decide⟩ rfl rfl (Nat.le_of_ble_eq_true rfl) dX2_append_53 ⟨by decide, by decide⟩ ?_
  refine x_lor X dX2_append_56 ?_
  refine x_last X E.1.1 14 rfl dX2_append_57 hf (picC kA ad) (setC_14 kA ad _ _ _) (fun w10 hf => ?_)
  refine x_aload_n X dX2_append_58 1 rfl ?_
  refine x_dup X dX2_append_59 rfl ?_
  refine x_get X E.1.1 (T := TX2) (C := RX2) inW2 1 rfl rfl 8 (by decide) w_101 rfl (v := .long (w10.2 1 8)) rfl dX2_append_60 ?_
  refine x_nmL hf (fun x11 hf => ?_)
  refine x_iload X dX2_append_63 0 rfl ?_
  obtain ⟨x12, hx12, hf⟩ := bn_some hf
  refine x_callSN_l X (As := [.int x1]) (rest := [.long x11, .ref (ad 1)]) (n := 1) (goodY w_433) w_432 w_47 (host := "RoadOracle") (E.1.2.1 _ (NWL_in 305 (by decide +kernel) rfl)) (met_X3_only l fu x1 x12 hx12) rfl rfl (by decide +kernel) ⟨by decide, by decide⟩ rfl rfl (Nat.le_of_ble_eq_true rfl) dX2_append_65 ⟨by decide, by decide⟩ ?_
  refine x_lor X dX2_append_68 ?_
  refine x_put X E.1.1 (T := TX2) (C := RX2) (ty := .long) inW2 tyX2 tyX2_ok nmX2 1 rfl rfl 8 (by decide) w_101 rfl rfl (by decide +kernel) rfl rfl (Nat.le_of_ble_eq_true rfl) dX2_append_69 (picC kA ad (wL w10 1 8 (x11 ||| x12))) rfl ?_
  refine x_nmW (pic := (picC kA ad)) (u := (wL w10 1 8 (x11 ||| x12))) hf (fun w13 hf => ?_)
  refine x_aload_n X dX2_append_72 1 rfl ?_
  refine x_dup X dX2_append_73 rfl ?_
  refine x_get X E.1.1 (T := TX2) (C := RX2) inW2 1 rfl rfl 1 (by decide) w_83 rfl (v := .int (w13.1 1 1)) rfl dX2_append_74 ?_
  refine x_nmI hf (fun x14 hf => ?_)
  refine x_iconst X (v := 1) dX2_append_77 (by decide) ?_
  refine x_iadd X dX2_append_78 ?_
  refine x_put X E.1.1 (T := TX2) (C := RX2) (ty := .int) inW2 tyX2 tyX2_ok nmX2 1 rfl rfl 1 (by decide) w_83 rfl rfl (by decide +kernel) rfl rfl (Nat.le_of_ble_eq_true rfl) dX2_append_79 (picC kA ad (wI w13 1 1 (x14 + 1))) rfl ?_
  refine x_nmW (pic := (picC kA ad)) (u := (wI w13 1 1 (x14 + 1))) hf (fun w15 hf => ?_)
  refine x_iload X dX2_append_82 0 rfl ?_
  cases hf
  exact x_iret X hr hlk rfl rfl dX2_append_84
end
section
variable {p : Program} {l : Launch} {e : Env} {s : State} {m : MethodId} {args : Array Value} {below : List Frame} {meth : Method} {c : Code} {D : va_G} {kA : Nat → ClassId} {A : Nat → Prop} {Q : State → Prop} {ad al : Nat → Nat} {b L : Nat} {xs : Nat → Int32}
abbrev rm_X2_openOrClose : Room := { frames := 1, cells := 0, slots := 0, locals := 20 }
set_option maxRecDepth 100000 in
set_option maxHeartbeats 4000000 in
theorem met_X2_openOrClose (l : Launch) (hst : l.stackTraces = false) (D : va_G) (kA : Nat → ClassId) (ad : Nat → Nat) (fu : Nat) (w : WS) (a1 : Int32) (a2 : Int32) (w1 : WS) (hf : f_X2_openOrClose fu w a1 a2 = some w1) (sz : Nat) : Met l yX2_openOrClose (wsY yX2_openOrClose cX2_openOrClose 5 none) rm_X2_openOrClose (va_Pc [.ref (ad 1), .int a1, .int a2] (PreG D kA (picC kA ad w) sz)) (va_Qv (fun (_ : Unit) => True) (fun _ t => PosG D (va_A (picC kA ad w) sz) (picC kA ad w1) t) (va_A (picC kA ad w) sz)) 0 0 (va_A (picC kA ad w) sz) := by
  refine metG (own := RX2) hst (by decide +kernel) rfl (Nat.le_of_ble_eq_true rfl) rfl ?_
  intro p e s m below meth c X hr hlk E _
  unfold f_X2_openOrClose at hf
  refine x_aload_n X dX2_openOrClose_0 0 rfl ?_
  refine x_get X E.1.1 (T := TX2) (C := RX2) inW2 1 rfl rfl 8 (by decide) w_101 rfl (v := .long (w.2 1 8)) rfl dX2_openOrClose_1 ?_
  refine x_nmL hf (fun x1 hf => ?_)
  refine x_iload_n X dX2_openOrClose_4 1 rfl ?_
  obtain ⟨x2, hx2, hf⟩ := bn_some hf
  refine x_callSN_l X (As := [.int a1]) (rest := [.long x1]) (n := 1) (goodY w_433) w_432 w_47 (host := "RoadOracle") (E.1.2.1 _ (NWL_in 305 (by decide +kernel) rfl)) (met_X3_only l fu a1 x2 hx2) rfl rfl (by decide +kernel) ⟨by decide, by decide⟩ rfl rfl (Nat.le_of_ble_eq_true rfl) dX2_openOrClose_5 ⟨by decide, by decide⟩ ?_
  refine x_ldc2 X (v := (-1)) w_553 dX2_openOrClose_8 ?_
  refine x_lxor X dX2_openOrClose_11 ?_
  refine x_land X dX2_openOrClose_12 ?_
  refine x_nmL hf (fun x3 hf => ?_)
  refine x_lstore_n X (lv2 := [(3, .long x3), (0, .ref (ad 1)), (1, .int a1), (2, .int a2)]) dX2_openOrClose_13 (by decide) rfl ?_
  refine x_aload_n X dX2_openOrClose_14 1 rfl ?_
  refine x_iload_n X dX2_openOrClose_15 3 rfl ?_
  refine x_if_eq X (tgt := 28) dX2_openOrClose_16 (by decide) hf (fun hf => ?_) (fun hf => ?_)
  · refine x_lload_n X dX2_openOrClose_28 0 rfl ?_
    refine x_put X E.1.1 (T := TX2) (C := RX2) (ty := .long) inW2 tyX2 tyX2_ok nmX2 1 rfl rfl 8 (by decide) w_101 rfl rfl (by decide +kernel) rfl rfl (Nat.le_of_ble_eq_true rfl) dX2_openOrClose_29 (picC kA ad (wL w 1 8 x3)) rfl ?_
    refine x_nmW (pic := (picC kA ad)) (u := (wL w 1 8 x3)) hf (fun w4 hf => ?_)
    cases hf
    exact x_vret X hr hlk rfl dX2_openOrClose_32
  · refine x_lload_n X dX2_openOrClose_19 0 rfl ?_
    refine x_iload_n X dX2_openOrClose_20 2 rfl ?_
    obtain ⟨x5, hx5, hf⟩ := bn_some hf
    refine x_callSN_l X (As := [.int a1]) (rest := [.long x3, .ref (ad 1)]) (n := 1) (goodY w_433) w_432 w_47 (host := "RoadOracle") (E.1.2.1 _ (NWL_in 305 (by decide +kernel) rfl)) (met_X3_only l fu a1 x5 hx5) rfl rfl (by decide +kernel) ⟨by decide, by decide⟩ rfl rfl (Nat.le_of_ble_eq_true rfl) dX2_openOrClose_21 ⟨by decide, by decide⟩ ?_
    refine x_lor X dX2_openOrClose_24 ?_
    refine x_goto X (tgt := 29) dX2_openOrClose_25 (by decide) ?_
    refine x_put X E.1.1 (T := TX2) (C := RX2) (ty := .long) inW2 tyX2 tyX2_ok nmX2 1 rfl rfl 8 (by decide) w_101 rfl rfl (by decide +kernel) rfl rfl (Nat.le_of_ble_eq_true rfl) dX2_openOrClose_29 (picC kA ad (wL w 1 8 (x3 ||| x5))) rfl ?_
    refine x_nmW (pic := (picC kA ad)) (u := (wL w 1 8 (x3 ||| x5))) hf (fun w6 hf => ?_)
    cases hf
    exact x_vret X hr hlk rfl dX2_openOrClose_32
end
end
section
section
variable {p : Program} {l : Launch} {e : Env} {s : State} {m : MethodId} {args : Array Value} {below : List Frame} {meth : Method} {c : Code} {D : va_G} {kA : Nat → ClassId} {A : Nat → Prop} {Q : State → Prop} {ad al : Nat → Nat} {b L : Nat} {xs : Nat → Int32}
abbrev rm_X3_addJunction : Room := { frames := 1, cells := 0, slots := 0, locals := 60 }
set_option maxRecDepth 100000 in
set_option maxHeartbeats 4000000 in
theorem met_X3_addJunction (l : Launch) (hst : l.stackTraces = false) (D : va_G) (kA : Nat → ClassId) (ad : Nat → Nat) (fu : Nat) (w : WS)  (v : Int32) (w1 : WS) (hf : f_X3_addJunction fu w = some (.inl (v, w1))) (sz : Nat) : Met l yX3_addJunction (wsY yX3_addJunction cX3_addJunction 1 (some .int)) rm_X3_addJunction (va_Pc [.ref (ad 0)] (PreG D kA (picC kA ad w) sz)) (va_Qi (fun (r : Int32) (_ : Unit) => r = v) (fun _ t => PosG D (va_A (picC kA ad w) sz) (picC kA ad w1) t) (va_A (picC kA ad w) sz)) 0 0 (va_A (picC kA ad w) sz) := by
  refine metG (own := RX3) hst (by decide +kernel) rfl (Nat.le_of_ble_eq_true rfl) rfl ?_
  intro p e s m below meth c X hr hlk E _
  unfold f_X3_addJunction at hf
  refine x_aload_n X dX3_addJunction_0 0 rfl ?_
  refine x_get X E.1.1 (T := TX3) (C := RX3) inW3 0 rfl rfl 0 (by decide) w_212 rfl (v := .ref (ad 1)) rfl dX3_addJunction_1 ?_
  refine x_get X E.1.1 (T := TX2) (C := RX2) inW2 1 rfl rfl 0 (by decide) w_5001 rfl (v := .int (w.1 1 0)) rfl dX3_addJunction_4 ?_
  refine x_nmI hf (fun x1 hf => ?_)
  refine x_bipush X (v := 32) dX3_addJunction_7 (by decide) ?_
  refine x_icmp_lt X (tgt := 22) dX3_addJunction_9 (by decide) hf (fun hf => ?_) (fun hf => ?_)
  · refine x_aload_n X dX3_addJunction_22 0 rfl ?_
    refine x_get X E.1.1 (T := TX3) (C := RX3) inW3 0 rfl rfl 0 (by decide) w_212 rfl (v := .ref (ad 1)) rfl dX3_addJunction_23 ?_
    refine x_dup X dX3_addJunction_26 rfl ?_
    refine x_get X E.1.1 (T := TX2) (C := RX2) inW2 1 rfl rfl 0 (by decide) w_5001 rfl (v := .int (w.1 1 0)) rfl dX3_addJunction_27 ?_
    refine x_nmI hf (fun x2 hf => ?_)
    refine x_iconst X (v := 1) dX3_addJunction_30 (by decide) ?_
    refine x_iadd X dX3_addJunction_31 ?_
    refine x_put X E.1.1 (T := TX2) (C := RX2) (ty := .int) inW2 tyX2 tyX2_ok nmX2 1 rfl rfl 0 (by decide) w_5001 rfl rfl (by decide +kernel) rfl rfl (Nat.le_of_ble_eq_true rfl) dX3_addJunction_32 (picC kA ad (wI w 1 0 (x2 + 1))) rfl ?_
    refine x_nmW (pic := (picC kA ad)) (u := (wI w 1 0 (x2 + 1))) hf (fun w3 hf => ?_)
    refine x_aload_n X dX3_addJunction_35 0 rfl ?_
    refine x_get X E.1.1 (T := TX3) (C := RX3) inW3 0 rfl rfl 0 (by decide) w_212 rfl (v := .ref (ad 1)) rfl dX3_addJunction_36 ?_
    refine x_get X E.1.1 (T := TX2) (C := RX2) inW2 1 rfl rfl 0 (by decide) w_5001 rfl (v := .int (w3.1 1 0)) rfl dX3_addJunction_39 ?_
    refine x_nmI hf (fun x4 hf => ?_)
    refine x_iconst X (v := 1) dX3_addJunction_42 (by decide) ?_
    refine x_isub X dX3_addJunction_43 ?_
    cases hf
    exact x_iret X hr hlk rfl rfl dX3_addJunction_44
  · cases hf
end
section
variable {p : Program} {l : Launch} {e : Env} {s : State} {m : MethodId} {args : Array Value} {below : List Frame} {meth : Method} {c : Code} {D : va_G} {kA : Nat → ClassId} {A : Nat → Prop} {Q : State → Prop} {ad al : Nat → Nat} {b L : Nat} {xs : Nat → Int32}
abbrev rm_X3_requireJunction : Room := { frames := 1, cells := 0, slots := 0, locals := 60 }
set_option maxRecDepth 100000 in
set_option maxHeartbeats 4000000 in
theorem met_X3_requireJunction (l : Launch) (hst : l.stackTraces = false) (D : va_G) (kA : Nat → ClassId) (ad : Nat → Nat) (fu : Nat) (w : WS) (a1 : Int32) (w1 : WS) (hf : f_X3_requireJunction fu w a1 = some (.inl w1)) (sz : Nat) : Met l yX3_requireJunction (wsY yX3_requireJunction cX3_requireJunction 2 none) rm_X3_requireJunction (va_Pc [.ref (ad 0), .int a1] (PreG D kA (picC kA ad w) sz)) (va_Qv (fun (_ : Unit) => True) (fun _ t => PosG D (va_A (picC kA ad w) sz) (picC kA ad w1) t) (va_A (picC kA ad w) sz)) 0 0 (va_A (picC kA ad w) sz) := by
  refine metG (own := RX3) hst (by decide +kernel) rfl (Nat.le_of_ble_eq_true rfl) rfl ?_
  intro p e s m below meth c X hr hlk E _
  unfold f_X3_requireJunction at hf
  refine x_iload_n X dX3_requireJunction_0 1 rfl ?_
  refine x_if_lt X (tgt := 15) dX3_requireJunction_1 (by decide) hf (fun hf => ?_) (fun hf => ?_)
  · cases hf
  · refine x_iload_n X dX3_requireJunction_4 1 rfl ?_
    refine x_aload_n X dX3_requireJunction_5 0 rfl ?_
    refine x_get X E.1.1 (T := TX3) (C := RX3) inW3 0 rfl rfl 0 (by decide) w_212 rfl (v := .ref (ad 1)) rfl dX3_requireJunction_6 ?_
    refine x_get X E.1.1 (T := TX2) (C := RX2) inW2 1 rfl rfl 0 (by decide) w_5001 rfl (v := .int (w.1 1 0)) rfl dX3_requireJunction_9 ?_
    refine x_nmI hf (fun x1 hf => ?_)
    refine x_icmp_lt X (tgt := 25) dX3_requireJunction_12 (by decide) hf (fun hf => ?_) (fun hf => ?_)
    · cases hf
      exact x_vret X hr hlk rfl dX3_requireJunction_25
    · cases hf
end
section
variable {p : Program} {l : Launch} {e : Env} {s : State} {m : MethodId} {args : Array Value} {below : List Frame} {meth : Method} {c : Code} {D : va_G} {kA : Nat → ClassId} {A : Nat → Prop} {Q : State → Prop} {ad al : Nat → Nat} {b L : Nat} {xs : Nat → Int32}
abbrev rm_X3_requireWeight : Room := { frames := 1, cells := 0, slots := 0, locals := 60 }
set_option maxRecDepth 100000 in
set_option maxHeartbeats 4000000 in
theorem met_X3_requireWeight (l : Launch) (hst : l.stackTraces = false) (D : va_G) (kA : Nat → ClassId) (ad : Nat → Nat) (fu : Nat) (w : WS) (a1 : Int32) (w1 : WS) (hf : f_X3_requireWeight fu w a1 = some (.inl w1)) (sz : Nat) : Met l yX3_requireWeight (wsY yX3_requireWeight cX3_requireWeight 2 none) rm_X3_requireWeight (va_Pc [.ref (ad 0), .int a1] (PreG D kA (picC kA ad w) sz)) (va_Qv (fun (_ : Unit) => True) (fun _ t => PosG D (va_A (picC kA ad w) sz) (picC kA ad w1) t) (va_A (picC kA ad w) sz)) 0 0 (va_A (picC kA ad w) sz) := by
  refine metG (own := RX3) hst (by decide +kernel) rfl (Nat.le_of_ble_eq_true rfl) rfl ?_
  intro p e s m below meth c X hr hlk E _
  unfold f_X3_requireWeight at hf
  refine x_iload_n X dX3_requireWeight_0 1 rfl ?_
  refine x_iconst X (v := 1) dX3_requireWeight_1 (by decide) ?_
  refine x_icmp_lt X (tgt := 12) dX3_requireWeight_2 (by decide) hf (fun hf => ?_) (fun hf => ?_)
  · cases hf
  · refine x_iload_n X dX3_requireWeight_5 1 rfl ?_
    refine x_sipush X (v := 10000) dX3_requireWeight_6 (by decide) ?_
    refine x_icmp_le X (tgt := 23) dX3_requireWeight_9 (by decide) hf (fun hf => ?_) (fun hf => ?_)
    · cases hf
      exact x_vret X hr hlk rfl dX3_requireWeight_23
    · cases hf
end
section
variable {p : Program} {l : Launch} {e : Env} {s : State} {m : MethodId} {args : Array Value} {below : List Frame} {meth : Method} {c : Code} {D : va_G} {kA : Nat → ClassId} {A : Nat → Prop} {Q : State → Prop} {ad al : Nat → Nat} {b L : Nat} {xs : Nat → Int32}
abbrev rm_X3_addRoad : Room := { frames := 2, cells := 0, slots := 0, locals := 81 }
set_option maxRecDepth 100000 in
set_option maxHeartbeats 4000000 in
theorem met_X3_addRoad (l : Launch) (hst : l.stackTraces = false) (D : va_G) (kA : Nat → ClassId) (ad : Nat → Nat) (fu : Nat) (w : WS) (a1 : Int32) (a2 : Int32) (a3 : Int32) (v : Int32) (w1 : WS) (hf : f_X3_addRoad fu w a1 a2 a3 = some (.inl (v, w1))) (sz : Nat) : Met l yX3_addRoad (wsY yX3_addRoad cX3_addRoad 4 (some .int)) rm_X3_addRoad (va_Pc [.ref (ad 0), .int a1, .int a2, .int a3] (PreG D kA (picC kA ad w) sz)) (va_Qi (fun (r : Int32) (_ : Unit) => r = v) (fun _ t => PosG D (va_A (picC kA ad w) sz) (picC kA ad w1) t) (va_A (picC kA ad w) sz)) 0 0 (va_A (picC kA ad w) sz) := by
  refine metG (own := RX3) hst (by decide +kernel) rfl (Nat.le_of_ble_eq_true rfl) rfl ?_
  intro p e s m below meth c X hr hlk E _
  unfold f_X3_addRoad at hf
  refine x_aload_n X dX3_addRoad_0 0 rfl ?_
  refine x_iload_n X dX3_addRoad_1 1 rfl ?_
  obtain ⟨w1, hw1, hf⟩ := bxr_some hf
  refine x_callV_v X E (As := [.int a1]) (rest := []) (n := 1) (ws2 := (picC kA ad w1)) (goodV w_5106 w_387 s_1 w_47 w_388) (met_X3_requireJunction l E.2.2.2 D kA ad fu w a1 w1 hw1) rfl rfl (by decide +kernel) ⟨by decide, by decide⟩ 0 rfl (qc := (RX3, TX3, _)) rfl rfl rfl rfl (Nat.le_of_ble_eq_true rfl) dX3_addRoad_2 ⟨by decide, by decide⟩ ?_
  refine x_aload_n X dX3_addRoad_5 0 rfl ?_
  refine x_iload_n X dX3_addRoad_6 2 rfl ?_
  obtain ⟨w2, hw2, hf⟩ := bxr_some hf
  refine x_callV_v X E (As := [.int a2]) (rest := []) (n := 1) (ws2 := (picC kA ad w2)) (goodV w_5106 w_387 s_1 w_47 w_388) (met_X3_requireJunction l E.2.2.2 D kA ad fu w1 a2 w2 hw2) rfl rfl (by decide +kernel) ⟨by decide, by decide⟩ 0 rfl (qc := (RX3, TX3, _)) rfl rfl rfl rfl (Nat.le_of_ble_eq_true rfl) dX3_addRoad_7 ⟨by decide, by decide⟩ ?_
  refine x_iload_n X dX3_addRoad_10 1 rfl ?_
  refine x_iload_n X dX3_addRoad_11 2 rfl ?_
  refine x_icmp_ne X (tgt := 25) dX3_addRoad_12 (by decide) hf (fun hf => ?_) (fun hf => ?_)
  · refine x_aload_n X dX3_addRoad_25 0 rfl ?_
    refine x_iload_n X dX3_addRoad_26 3 rfl ?_
    obtain ⟨w3, hw3, hf⟩ := bxr_some hf
    refine x_callV_v X E (As := [.int a3]) (rest := []) (n := 1) (ws2 := (picC kA ad w3)) (goodV w_5115 w_423 s_2 w_47 w_424) (met_X3_requireWeight l E.2.2.2 D kA ad fu w2 a3 w3 hw3) rfl rfl (by decide +kernel) ⟨by decide, by decide⟩ 0 rfl (qc := (RX3, TX3, _)) rfl rfl rfl rfl (Nat.le_of_ble_eq_true rfl) dX3_addRoad_27 ⟨by decide, by decide⟩ ?_
    refine x_aload_n X dX3_addRoad_30 0 rfl ?_
    refine x_get X E.1.1 (T := TX3) (C := RX3) inW3 0 rfl rfl 0 (by decide) w_212 rfl (v := .ref (ad 1)) rfl dX3_addRoad_31 ?_
    refine x_get X E.1.1 (T := TX2) (C := RX2) inW2 1 rfl rfl 1 (by decide) w_5003 rfl (v := .int (w3.1 1 1)) rfl dX3_addRoad_34 ?_
    refine x_nmI hf (fun x4 hf => ?_)
    refine x_bipush X (v := 64) dX3_addRoad_37 (by decide) ?_
    refine x_icmp_lt X (tgt := 52) dX3_addRoad_39 (by decide) hf (fun hf => ?_) (fun hf => ?_)
    · refine x_aload_n X dX3_addRoad_52 0 rfl ?_
      refine x_get X E.1.1 (T := TX3) (C := RX3) inW3 0 rfl rfl 1 (by decide) w_213 rfl (v := .ref (ad 2)) rfl dX3_addRoad_53 ?_
      refine x_iconst X (v := 0) dX3_addRoad_56 (by decide) ?_
      refine x_put X E.1.1 (T := TX0) (C := RX0) (ty := .boolean) inW0 tyX0 tyX0_ok nmX0 2 rfl rfl 1 (by decide) w_5025 rfl rfl (by decide +kernel) (by decide +kernel) rfl (Nat.le_of_ble_eq_true rfl) dX3_addRoad_57 (picC kA ad (wI w3 2 1 0)) rfl ?_
      refine x_nmW (pic := (picC kA ad)) (u := (wI w3 2 1 0)) hf (fun w5 hf => ?_)
      refine x_aload_n X dX3_addRoad_60 0 rfl ?_
      refine x_get X E.1.1 (T := TX3) (C := RX3) inW3 0 rfl rfl 0 (by decide) w_212 rfl (v := .ref (ad 1)) rfl dX3_addRoad_61 ?_
      refine x_iload_n X dX3_addRoad_64 1 rfl ?_
      refine x_iload_n X dX3_addRoad_65 2 rfl ?_
      refine x_iload_n X dX3_addRoad_66 3 rfl ?_
      obtain ⟨x7, w6, hx7, hf⟩ := bn2_some hf
      refine x_callV_i X E (As := [.int a1, .int a2, .int a3]) (rest := []) (n := 3) (ws2 := (picC kA ad w6)) (goodV w_5116 w_428 w_429 w_48 w_430) (met_X2_append l E.2.2.2 D kA ad fu w5 a1 a2 a3 x7 w6 hx7) rfl rfl (by decide +kernel) ⟨by decide, by decide⟩ 1 rfl (qc := (RX2, TX2, _)) rfl rfl rfl rfl (Nat.le_of_ble_eq_true rfl) dX3_addRoad_67 ⟨by decide, by decide⟩ ?_
      cases hf
      exact x_iret X hr hlk rfl rfl dX3_addRoad_70
    · cases hf
  · cases hf
end
section
variable {p : Program} {l : Launch} {e : Env} {s : State} {m : MethodId} {args : Array Value} {below : List Frame} {meth : Method} {c : Code} {D : va_G} {kA : Nat → ClassId} {A : Nat → Prop} {Q : State → Prop} {ad al : Nat → Nat} {b L : Nat} {xs : Nat → Int32}
abbrev rm_X3_requireRoad : Room := { frames := 1, cells := 0, slots := 0, locals := 60 }
set_option maxRecDepth 100000 in
set_option maxHeartbeats 4000000 in
theorem met_X3_requireRoad (l : Launch) (hst : l.stackTraces = false) (D : va_G) (kA : Nat → ClassId) (ad : Nat → Nat) (fu : Nat) (w : WS) (a1 : Int32) (w1 : WS) (hf : f_X3_requireRoad fu w a1 = some (.inl w1)) (sz : Nat) : Met l yX3_requireRoad (wsY yX3_requireRoad cX3_requireRoad 2 none) rm_X3_requireRoad (va_Pc [.ref (ad 0), .int a1] (PreG D kA (picC kA ad w) sz)) (va_Qv (fun (_ : Unit) => True) (fun _ t => PosG D (va_A (picC kA ad w) sz) (picC kA ad w1) t) (va_A (picC kA ad w) sz)) 0 0 (va_A (picC kA ad w) sz) := by
  refine metG (own := RX3) hst (by decide +kernel) rfl (Nat.le_of_ble_eq_true rfl) rfl ?_
  intro p e s m below meth c X hr hlk E _
  unfold f_X3_requireRoad at hf
  refine x_iload_n X dX3_requireRoad_0 1 rfl ?_
  refine x_if_lt X (tgt := 15) dX3_requireRoad_1 (by decide) hf (fun hf => ?_) (fun hf => ?_)
  · cases hf
  · refine x_iload_n X dX3_requireRoad_4 1 rfl ?_
    refine x_aload_n X dX3_requireRoad_5 0 rfl ?_
    refine x_get X E.1.1 (T := TX3) (C := RX3) inW3 0 rfl rfl 0 (by decide) w_212 rfl (v := .ref (ad 1)) rfl dX3_requireRoad_6 ?_
    refine x_get X E.1.1 (T := TX2) (C := RX2) inW2 1 rfl rfl 1 (by decide) w_5003 rfl (v := .int (w.1 1 1)) rfl dX3_requireRoad_9 ?_
    refine x_nmI hf (fun x1 hf => ?_)
    refine x_icmp_lt X (tgt := 25) dX3_requireRoad_12 (by decide) hf (fun hf => ?_) (fun hf => ?_)
    · cases hf
      exact x_vret X hr hlk rfl dX3_requireRoad_25
    · cases hf
end
section
variable {p : Program} {l : Launch} {e : Env} {s : State} {m : MethodId} {args : Array Value} {below : List Frame} {meth : Method} {c : Code} {D : va_G} {kA : Nat → ClassId} {A : Nat → Prop} {Q : State → Prop} {ad al : Nat → Nat} {b L : Nat} {xs : Nat → Int32}
abbrev rm_X3_setWeight : Room := { frames := 6, cells := 0, slots := 0, locals := 138 }
set_option maxRecDepth 100000 in
set_option maxHeartbeats 4000000 in
theorem met_X3_setWeight (l : Launch) (hst : l.stackTraces = false) (D : va_G) (kA : Nat → ClassId) (ad : Nat → Nat) (fu : Nat) (w : WS) (a1 : Int32) (a2 : Int32) (v : Int32) (w1 : WS) (hf : f_X3_setWeight fu w a1 a2 = some (.inl (v, w1))) (sz : Nat) : Met l yX3_setWeight (wsY yX3_setWeight cX3_setWeight 3 (some .int)) rm_X3_setWeight (va_Pc [.ref (ad 0), .int a1, .int a2] (PreG D kA (picC kA ad w) sz)) (va_Qi (fun (r : Int32) (_ : Unit) => r = v) (fun _ t => PosG D (va_A (picC kA ad w) sz) (picC kA ad w1) t) (va_A (picC kA ad w) sz)) 0 0 (va_A (picC kA ad w) sz) := by
  refine metG (own := RX3) hst (by decide +kernel) rfl (Nat.le_of_ble_eq_true rfl) rfl ?_
  intro p e s m below meth c X hr hlk E _
  unfold f_X3_setWeight at hf
  refine x_aload_n X dX3_setWeight_0 0 rfl ?_
  refine x_iload_n X dX3_setWeight_1 1 rfl ?_
  obtain ⟨w1, hw1, hf⟩ := bxr_some hf
  refine x_callV_v X E (As := [.int a1]) (rest := []) (n := 1) (ws2 := (picC kA ad w1)) (goodV w_5117 w_443 s_3 w_47 w_444) (met_X3_requireRoad l E.2.2.2 D kA ad fu w a1 w1 hw1) rfl rfl (by decide +kernel) ⟨by decide, by decide⟩ 0 rfl (qc := (RX3, TX3, _)) rfl rfl rfl rfl (Nat.le_of_ble_eq_true rfl) dX3_setWeight_2 ⟨by decide, by decide⟩ ?_
  refine x_aload_n X dX3_setWeight_5 0 rfl ?_
  refine x_iload_n X dX3_setWeight_6 2 rfl ?_
  obtain ⟨w2, hw2, hf⟩ := bxr_some hf
  refine x_callV_v X E (As := [.int a2]) (rest := []) (n := 1) (ws2 := (picC kA ad w2)) (goodV w_5115 w_423 s_2 w_47 w_424) (met_X3_requireWeight l E.2.2.2 D kA ad fu w1 a2 w2 hw2) rfl rfl (by decide +kernel) ⟨by decide, by decide⟩ 0 rfl (qc := (RX3, TX3, _)) rfl rfl rfl rfl (Nat.le_of_ble_eq_true rfl) dX3_setWeight_7 ⟨by decide, by decide⟩ ?_
  refine x_aload_n X dX3_setWeight_10 0 rfl ?_
  refine x_get X E.1.1 (T := TX3) (C := RX3) inW3 0 rfl rfl 0 (by decide) w_212 rfl (v := .ref (ad 1)) rfl dX3_setWeight_11 ?_
  refine x_get X E.1.1 (T := TX2) (C := RX2) inW2 1 rfl rfl 4 (by decide) w_5006 rfl (v := .ref (ad 11)) rfl dX3_setWeight_14 ?_
  refine x_iload_n X dX3_setWeight_17 1 rfl ?_
  refine x_iload_n X dX3_setWeight_18 2 rfl ?_
  refine x_iast X E.1.1 11 rfl dX3_setWeight_19 hf (picC kA ad) (setC_11 kA ad _ _ _) (fun w3 hf => ?_)
  refine x_aload_n X dX3_setWeight_20 0 rfl ?_
  refine x_get X E.1.1 (T := TX3) (C := RX3) inW3 0 rfl rfl 1 (by decide) w_213 rfl (v := .ref (ad 2)) rfl dX3_setWeight_21 ?_
  refine x_iload_n X dX3_setWeight_24 1 rfl ?_
  obtain ⟨x5, w4, hx5, hf⟩ := bn2_some hf
  refine x_callV_i X E (As := [.int a1]) (rest := []) (n := 1) (ws2 := (picC kA ad w4)) (goodV w_5118 w_447 w_448 w_50 w_449) (met_X0_renewRoad l E.2.2.2 D kA ad fu w3 a1 x5 w4 hx5) rfl rfl (by decide +kernel) ⟨by decide, by decide⟩ 2 rfl (qc := (RX0, TX0, _)) rfl rfl rfl rfl (Nat.le_of_ble_eq_true rfl) dX3_setWeight_25 ⟨by decide, by decide⟩ ?_
  cases hf
  exact x_iret X hr hlk rfl rfl dX3_setWeight_28
end
section
variable {p : Program} {l : Launch} {e : Env} {s : State} {m : MethodId} {args : Array Value} {below : List Frame} {meth : Method} {c : Code} {D : va_G} {kA : Nat → ClassId} {A : Nat → Prop} {Q : State → Prop} {ad al : Nat → Nat} {b L : Nat} {xs : Nat → Int32}
abbrev rm_X3_setOpen : Room := { frames := 6, cells := 0, slots := 0, locals := 138 }
set_option maxRecDepth 100000 in
set_option maxHeartbeats 4000000 in
theorem met_X3_setOpen (l : Launch) (hst : l.stackTraces = false) (D : va_G) (kA : Nat → ClassId) (ad : Nat → Nat) (fu : Nat) (w : WS) (a1 : Int32) (a2 : Int32) (v : Int32) (w1 : WS) (hf : f_X3_setOpen fu w a1 a2 = some (.inl (v, w1))) (sz : Nat) : Met l yX3_setOpen (wsY yX3_setOpen cX3_setOpen 3 (some .int)) rm_X3_setOpen (va_Pc [.ref (ad 0), .int a1, .int a2] (PreG D kA (picC kA ad w) sz)) (va_Qi (fun (r : Int32) (_ : Unit) => r = v) (fun _ t => PosG D (va_A (picC kA ad w) sz) (picC kA ad w1) t) (va_A (picC kA ad w) sz)) 0 0 (va_A (picC kA ad w) sz) := by
  refine metG (own := RX3) hst (by decide +kernel) rfl (Nat.le_of_ble_eq_true rfl) rfl ?_
  intro p e s m below meth c X hr hlk E _
  unfold f_X3_setOpen at hf
  refine x_aload_n X dX3_setOpen_0 0 rfl ?_
  refine x_iload_n X dX3_setOpen_1 1 rfl ?_
  obtain ⟨w1, hw1, hf⟩ := bxr_some hf
  refine x_callV_v X E (As := [.int a1]) (rest := []) (n := 1) (ws2 := (picC kA ad w1)) (goodV w_5117 w_443 s_3 w_47 w_444) (met_X3_requireRoad l E.2.2.2 D kA ad fu w a1 w1 hw1) rfl rfl (by decide +kernel) ⟨by decide, by decide⟩ 0 rfl (qc := (RX3, TX3, _)) rfl rfl rfl rfl (Nat.le_of_ble_eq_true rfl) dX3_setOpen_2 ⟨by decide, by decide⟩ ?_
  refine x_aload_n X dX3_setOpen_5 0 rfl ?_
  refine x_get X E.1.1 (T := TX3) (C := RX3) inW3 0 rfl rfl 0 (by decide) w_212 rfl (v := .ref (ad 1)) rfl dX3_setOpen_6 ?_
  refine x_iload_n X dX3_setOpen_9 1 rfl ?_
  refine x_iload_n X dX3_setOpen_10 2 rfl ?_
  obtain ⟨w2, hw2, hf⟩ := bn_some hf
  refine x_callV_v X E (As := [.int a1, .int a2]) (rest := []) (n := 2) (ws2 := (picC kA ad w2)) (goodV w_5136 w_5137 w_5138 w_48 w_5139) (met_X2_openOrClose l E.2.2.2 D kA ad fu w1 a1 a2 w2 hw2) rfl rfl (by decide +kernel) ⟨by decide, by decide⟩ 1 rfl (qc := (RX2, TX2, _)) rfl rfl rfl rfl (Nat.le_of_ble_eq_true rfl) dX3_setOpen_11 ⟨by decide, by decide⟩ ?_
  refine x_aload_n X dX3_setOpen_14 0 rfl ?_
  refine x_get X E.1.1 (T := TX3) (C := RX3) inW3 0 rfl rfl 1 (by decide) w_213 rfl (v := .ref (ad 2)) rfl dX3_setOpen_15 ?_
  refine x_iload_n X dX3_setOpen_18 1 rfl ?_
  obtain ⟨x4, w3, hx4, hf⟩ := bn2_some hf
  refine x_callV_i X E (As := [.int a1]) (rest := []) (n := 1) (ws2 := (picC kA ad w3)) (goodV w_5118 w_447 w_448 w_50 w_449) (met_X0_renewRoad l E.2.2.2 D kA ad fu w2 a1 x4 w3 hx4) rfl rfl (by decide +kernel) ⟨by decide, by decide⟩ 2 rfl (qc := (RX0, TX0, _)) rfl rfl rfl rfl (Nat.le_of_ble_eq_true rfl) dX3_setOpen_19 ⟨by decide, by decide⟩ ?_
  cases hf
  exact x_iret X hr hlk rfl rfl dX3_setOpen_22
end
section
variable {p : Program} {l : Launch} {e : Env} {s : State} {m : MethodId} {args : Array Value} {below : List Frame} {meth : Method} {c : Code} {D : va_G} {kA : Nat → ClassId} {A : Nat → Prop} {Q : State → Prop} {ad al : Nat → Nat} {b L : Nat} {xs : Nat → Int32}
abbrev rm_X3_requireTurn : Room := { frames := 2, cells := 0, slots := 0, locals := 81 }
set_option maxRecDepth 100000 in
set_option maxHeartbeats 4000000 in
theorem met_X3_requireTurn (l : Launch) (hst : l.stackTraces = false) (D : va_G) (kA : Nat → ClassId) (ad : Nat → Nat) (fu : Nat) (w : WS) (a1 : Int32) (a2 : Int32) (w1 : WS) (hf : f_X3_requireTurn fu w a1 a2 = some (.inl w1)) (sz : Nat) : Met l yX3_requireTurn (wsY yX3_requireTurn cX3_requireTurn 3 none) rm_X3_requireTurn (va_Pc [.ref (ad 0), .int a1, .int a2] (PreG D kA (picC kA ad w) sz)) (va_Qv (fun (_ : Unit) => True) (fun _ t => PosG D (va_A (picC kA ad w) sz) (picC kA ad w1) t) (va_A (picC kA ad w) sz)) 0 0 (va_A (picC kA ad w) sz) := by
  refine metG (own := RX3) hst (by decide +kernel) rfl (Nat.le_of_ble_eq_true rfl) rfl ?_
  intro p e s m below meth c X hr hlk E _
  unfold f_X3_requireTurn at hf
  refine x_aload_n X dX3_requireTurn_0 0 rfl ?_
  refine x_iload_n X dX3_requireTurn_1 1 rfl ?_
  obtain ⟨w1, hw1, hf⟩ := bxr_some hf
  refine x_callV_v X E (As := [.int a1]) (rest := []) (n := 1) (ws2 := (picC kA ad w1)) (goodV w_5117 w_443 s_3 w_47 w_444) (met_X3_requireRoad l E.2.2.2 D kA ad fu w a1 w1 hw1) rfl rfl (by decide +kernel) ⟨by decide, by decide⟩ 0 rfl (qc := (RX3, TX3, _)) rfl rfl rfl rfl (Nat.le_of_ble_eq_true rfl) dX3_requireTurn_2 ⟨by decide, by decide⟩ ?_
  refine x_aload_n X dX3_requireTurn_5 0 rfl ?_
  refine x_iload_n X dX3_requireTurn_6 2 rfl ?_
  obtain ⟨w2, hw2, hf⟩ := bxr_some hf
  refine x_callV_v X E (As := [.int a2]) (rest := []) (n := 1) (ws2 := (picC kA ad w2)) (goodV w_5117 w_443 s_3 w_47 w_444) (met_X3_requireRoad l E.2.2.2 D kA ad fu w1 a2 w2 hw2) rfl rfl (by decide +kernel) ⟨by decide, by decide⟩ 0 rfl (qc := (RX3, TX3, _)) rfl rfl rfl rfl (Nat.le_of_ble_eq_true rfl) dX3_requireTurn_7 ⟨by decide, by decide⟩ ?_
  refine x_aload_n X dX3_requireTurn_10 0 rfl ?_
  refine x_get X E.1.1 (T := TX3) (C := RX3) inW3 0 rfl rfl 0 (by decide) w_212 rfl (v := .ref (ad 1)) rfl dX3_requireTurn_11 ?_
  refine x_get X E.1.1 (T := TX2) (C := RX2) inW2 1 rfl rfl 3 (by decide) w_5005 rfl (v := .ref (ad 10)) rfl dX3_requireTurn_14 ?_
  refine x_iload_n X dX3_requireTurn_17 1 rfl ?_
  refine x_iald X E.1.1 10 rfl dX3_requireTurn_18 hf (fun x3 hf => ?_)
  refine x_aload_n X dX3_requireTurn_19 0 rfl ?_
  refine x_get X E.1.1 (T := TX3) (C := RX3) inW3 0 rfl rfl 0 (by decide) w_212 rfl (v := .ref (ad 1)) rfl dX3_requireTurn_20 ?_
  refine x_get X E.1.1 (T := TX2) (C := RX2) inW2 1 rfl rfl 2 (by decide) w_5004 rfl (v := .ref (ad 9)) rfl dX3_requireTurn_23 ?_
  refine x_iload_n X dX3_requireTurn_26 2 rfl ?_
  refine x_iald X E.1.1 9 rfl dX3_requireTurn_27 hf (fun x4 hf => ?_)
  refine x_icmp_eq X (tgt := 42) dX3_requireTurn_28 (by decide) hf (fun hf => ?_) (fun hf => ?_)
  · cases hf
    exact x_vret X hr hlk rfl dX3_requireTurn_42
  · cases hf
end
section
variable {p : Program} {l : Launch} {e : Env} {s : State} {m : MethodId} {args : Array Value} {below : List Frame} {meth : Method} {c : Code} {D : va_G} {kA : Nat → ClassId} {A : Nat → Prop} {Q : State → Prop} {ad al : Nat → Nat} {b L : Nat} {xs : Nat → Int32}
abbrev rm_X3_setTurn : Room := { frames := 6, cells := 0, slots := 0, locals := 139 }
set_option maxRecDepth 100000 in
set_option maxHeartbeats 4000000 in
theorem met_X3_setTurn (l : Launch) (hst : l.stackTraces = false) (D : va_G) (kA : Nat → ClassId) (ad : Nat → Nat) (fu : Nat) (w : WS) (a1 : Int32) (a2 : Int32) (a3 : Int32) (v : Int32) (w1 : WS) (hf : f_X3_setTurn fu w a1 a2 a3 = some (.inl (v, w1))) (sz : Nat) : Met l yX3_setTurn (wsY yX3_setTurn cX3_setTurn 4 (some .int)) rm_X3_setTurn (va_Pc [.ref (ad 0), .int a1, .int a2, .int a3] (PreG D kA (picC kA ad w) sz)) (va_Qi (fun (r : Int32) (_ : Unit) => r = v) (fun _ t => PosG D (va_A (picC kA ad w) sz) (picC kA ad w1) t) (va_A (picC kA ad w) sz)) 0 0 (va_A (picC kA ad w) sz) := by
  refine metG (own := RX3) hst (by decide +kernel) rfl (Nat.le_of_ble_eq_true rfl) rfl ?_
  intro p e s m below meth c X hr hlk E _
  unfold f_X3_setTurn at hf
  refine x_aload_n X dX3_setTurn_0 0 rfl ?_
  refine x_iload_n X dX3_setTurn_1 1 rfl ?_
  refine x_iload_n X dX3_setTurn_2 2 rfl ?_
  obtain ⟨w1, hw1, hf⟩ := bxr_some hf
  refine x_callV_v X E (As := [.int a1, .int a2]) (rest := []) (n := 2) (ws2 := (picC kA ad w1)) (goodV w_5140 w_528 s_12 w_47 w_529) (met_X3_requireTurn l E.2.2.2 D kA ad fu w a1 a2 w1 hw1) rfl rfl (by decide +kernel) ⟨by decide, by decide⟩ 0 rfl (qc := (RX3, TX3, _)) rfl rfl rfl rfl (Nat.le_of_ble_eq_true rfl) dX3_setTurn_3 ⟨by decide, by decide⟩ ?_
  refine x_iload_n X dX3_setTurn_6 3 rfl ?_
  refine x_bipush X (v := (-2)) dX3_setTurn_7 (by decide) ?_
  refine x_icmp_lt X (tgt := 19) dX3_setTurn_9 (by decide) hf (fun hf => ?_) (fun hf => ?_)
  · cases hf
  · refine x_iload_n X dX3_setTurn_12 3 rfl ?_
    refine x_sipush X (v := 1000) dX3_setTurn_13 (by decide) ?_
    refine x_icmp_le X (tgt := 29) dX3_setTurn_16 (by decide) hf (fun hf => ?_) (fun hf => ?_)
    · refine x_aload_n X dX3_setTurn_29 0 rfl ?_
      refine x_get X E.1.1 (T := TX3) (C := RX3) inW3 0 rfl rfl 0 (by decide) w_212 rfl (v := .ref (ad 1)) rfl dX3_setTurn_30 ?_
      refine x_get X E.1.1 (T := TX2) (C := RX2) inW2 1 rfl rfl 5 (by decide) w_5007 rfl (v := .ref (ad 12)) rfl dX3_setTurn_33 ?_
      refine x_iload_n X dX3_setTurn_36 1 rfl ?_
      refine x_iload_n X dX3_setTurn_37 2 rfl ?_
      obtain ⟨x2, hx2, hf⟩ := bn_some hf
      refine x_callS_i X (As := [.int a1, .int a2]) (rest := [.ref (ad 12)]) (n := 2) (goodS w_5141 w_293 w_47 w_294) (met_X3_pair l fu a1 a2 x2 hx2) rfl rfl (by decide +kernel) ⟨by decide, by decide⟩ rfl rfl (Nat.le_of_ble_eq_true rfl) dX3_setTurn_38 ⟨by decide, by decide⟩ ?_
      refine x_iload_n X dX3_setTurn_41 3 rfl ?_
      refine x_iast X E.1.1 12 rfl dX3_setTurn_42 hf (picC kA ad) (setC_12 kA ad _ _ _) (fun w3 hf => ?_)
      refine x_aload_n X dX3_setTurn_43 0 rfl ?_
      refine x_get X E.1.1 (T := TX3) (C := RX3) inW3 0 rfl rfl 1 (by decide) w_213 rfl (v := .ref (ad 2)) rfl dX3_setTurn_44 ?_
      refine x_iload_n X dX3_setTurn_47 1 rfl ?_
      refine x_iload_n X dX3_setTurn_48 2 rfl ?_
      obtain ⟨x5, w4, hx5, hf⟩ := bn2_some hf
      refine x_callV_i X E (As := [.int a1, .int a2]) (rest := []) (n := 2) (ws2 := (picC kA ad w4)) (goodV w_5142 w_534 w_535 w_50 w_536) (met_X0_renewTurn l E.2.2.2 D kA ad fu w3 a1 a2 x5 w4 hx5) rfl rfl (by decide +kernel) ⟨by decide, by decide⟩ 2 rfl (qc := (RX0, TX0, _)) rfl rfl rfl rfl (Nat.le_of_ble_eq_true rfl) dX3_setTurn_49 ⟨by decide, by decide⟩ ?_
      cases hf
      exact x_iret X hr hlk rfl rfl dX3_setTurn_52
    · cases hf
end
section
variable {p : Program} {l : Launch} {e : Env} {s : State} {m : MethodId} {args : Array Value} {below : List Frame} {meth : Method} {c : Code} {D : va_G} {kA : Nat → ClassId} {A : Nat → Prop} {Q : State → Prop} {ad al : Nat → Nat} {b L : Nat} {xs : Nat → Int32}
abbrev rm_X3_setUTurn : Room := { frames := 6, cells := 0, slots := 0, locals := 137 }
set_option maxRecDepth 100000 in
set_option maxHeartbeats 4000000 in
theorem met_X3_setUTurn (l : Launch) (hst : l.stackTraces = false) (D : va_G) (kA : Nat → ClassId) (ad : Nat → Nat) (fu : Nat) (w : WS) (a1 : Int32) (v : Int32) (w1 : WS) (hf : f_X3_setUTurn fu w a1 = some (.inl (v, w1))) (sz : Nat) : Met l yX3_setUTurn (wsY yX3_setUTurn cX3_setUTurn 2 (some .int)) rm_X3_setUTurn (va_Pc [.ref (ad 0), .int a1] (PreG D kA (picC kA ad w) sz)) (va_Qi (fun (r : Int32) (_ : Unit) => r = v) (fun _ t => PosG D (va_A (picC kA ad w) sz) (picC kA ad w1) t) (va_A (picC kA ad w) sz)) 0 0 (va_A (picC kA ad w) sz) := by
  refine metG (own := RX3) hst (by decide +kernel) rfl (Nat.le_of_ble_eq_true rfl) rfl ?_
  intro p e s m below meth c X hr hlk E _
  unfold f_X3_setUTurn at hf
  refine x_iload_n X dX3_setUTurn_0 1 rfl ?_
  refine x_iconst X (v := (-1)) dX3_setUTurn_1 (by decide) ?_
  refine x_icmp_lt X (tgt := 12) dX3_setUTurn_2 (by decide) hf (fun hf => ?_) (fun hf => ?_)
  · cases hf
  · refine x_iload_n X dX3_setUTurn_5 1 rfl ?_
    refine x_sipush X (v := 1000) dX3_setUTurn_6 (by decide) ?_
    refine x_icmp_le X (tgt := 22) dX3_setUTurn_9 (by decide) hf (fun hf => ?_) (fun hf => ?_)
    · refine x_aload_n X dX3_setUTurn_22 0 rfl ?_
      refine x_get X E.1.1 (T := TX3) (C := RX3) inW3 0 rfl rfl 0 (by decide) w_212 rfl (v := .ref (ad 1)) rfl dX3_setUTurn_23 ?_
      refine x_iload_n X dX3_setUTurn_26 1 rfl ?_
      refine x_put X E.1.1 (T := TX2) (C := RX2) (ty := .int) inW2 tyX2 tyX2_ok nmX2 1 rfl rfl 9 (by decide) w_5011 rfl rfl (by decide +kernel) rfl rfl (Nat.le_of_ble_eq_true rfl) dX3_setUTurn_27 (picC kA ad (wI w 1 9 a1)) rfl ?_
      refine x_nmW (pic := (picC kA ad)) (u := (wI w 1 9 a1)) hf (fun w1 hf => ?_)
      refine x_aload_n X dX3_setUTurn_30 0 rfl ?_
      refine x_get X E.1.1 (T := TX3) (C := RX3) inW3 0 rfl rfl 1 (by decide) w_213 rfl (v := .ref (ad 2)) rfl dX3_setUTurn_31 ?_
      obtain ⟨x3, w2, hx3, hf⟩ := bn2_some hf
      refine x_callV_i X E (As := []) (rest := []) (n := 0) (ws2 := (picC kA ad w2)) (goodV w_5143 w_546 w_547 w_50 w_548) (met_X0_renewAll l E.2.2.2 D kA ad fu w1 x3 w2 hx3) rfl rfl (by decide +kernel) ⟨by decide, by decide⟩ 2 rfl (qc := (RX0, TX0, _)) rfl rfl rfl rfl (Nat.le_of_ble_eq_true rfl) dX3_setUTurn_34 ⟨by decide, by decide⟩ ?_
      cases hf
      exact x_iret X hr hlk rfl rfl dX3_setUTurn_37
    · cases hf
end
section
variable {p : Program} {l : Launch} {e : Env} {s : State} {m : MethodId} {args : Array Value} {below : List Frame} {meth : Method} {c : Code} {D : va_G} {kA : Nat → ClassId} {A : Nat → Prop} {Q : State → Prop} {ad al : Nat → Nat} {b L : Nat} {xs : Nat → Int32}
abbrev rm_X3_prepare : Room := { frames := 6, cells := 0, slots := 0, locals := 142 }
set_option maxRecDepth 100000 in
set_option maxHeartbeats 4000000 in
theorem met_X3_prepare (l : Launch) (hst : l.stackTraces = false) (D : va_G) (kA : Nat → ClassId) (ad : Nat → Nat) (fu : Nat) (w : WS)  (v : Int32) (w1 : WS) (hf : f_X3_prepare fu w = some (.inl (v, w1))) (sz : Nat) : Met l yX3_prepare (wsY yX3_prepare cX3_prepare 1 (some .int)) rm_X3_prepare (va_Pc [.ref (ad 0)] (PreG D kA (picC kA ad w) sz)) (va_Qi (fun (r : Int32) (_ : Unit) => r = v) (fun _ t => PosG D (va_A (picC kA ad w) sz) (picC kA ad w1) t) (va_A (picC kA ad w) sz)) 0 0 (va_A (picC kA ad w) sz) := by
  refine metG (own := RX3) hst (by decide +kernel) rfl (Nat.le_of_ble_eq_true rfl) rfl ?_
  intro p e s m below meth c X hr hlk E _
  unfold f_X3_prepare at hf
  refine x_aload_n X dX3_prepare_0 0 rfl ?_
  refine x_get X E.1.1 (T := TX3) (C := RX3) inW3 0 rfl rfl 0 (by decide) w_212 rfl (v := .ref (ad 1)) rfl dX3_prepare_1 ?_
  refine x_get X E.1.1 (T := TX2) (C := RX2) inW2 1 rfl rfl 1 (by decide) w_5003 rfl (v := .int (w.1 1 1)) rfl dX3_prepare_4 ?_
  refine x_nmI hf (fun x1 hf => ?_)
  refine x_if_ne X (tgt := 20) dX3_prepare_7 (by decide) hf (fun hf => ?_) (fun hf => ?_)
  · refine x_aload_n X dX3_prepare_20 0 rfl ?_
    refine x_get X E.1.1 (T := TX3) (C := RX3) inW3 0 rfl rfl 1 (by decide) w_213 rfl (v := .ref (ad 2)) rfl dX3_prepare_21 ?_
    refine x_get X E.1.1 (T := TX0) (C := RX0) inW0 2 rfl rfl 1 (by decide) w_5025 rfl (v := .int (w.1 2 1)) rfl dX3_prepare_24 ?_
    refine x_nmI hf (fun x2 hf => ?_)
    refine x_if_ne X (tgt := 37) dX3_prepare_27 (by decide) hf (fun hf => ?_) (fun hf => ?_)
    · refine x_aload_n X dX3_prepare_37 0 rfl ?_
      refine x_get X E.1.1 (T := TX3) (C := RX3) inW3 0 rfl rfl 1 (by decide) w_213 rfl (v := .ref (ad 2)) rfl dX3_prepare_38 ?_
      refine x_get X E.1.1 (T := TX0) (C := RX0) inW0 2 rfl rfl 4 (by decide) w_5030 rfl (v := .int (w.1 2 4)) rfl dX3_prepare_41 ?_
      refine x_nmI hf (fun x3 hf => ?_)
      cases hf
      exact x_iret X hr hlk rfl rfl dX3_prepare_44
    · refine x_aload_n X dX3_prepare_30 0 rfl ?_
      refine x_get X E.1.1 (T := TX3) (C := RX3) inW3 0 rfl rfl 1 (by decide) w_213 rfl (v := .ref (ad 2)) rfl dX3_prepare_31 ?_
      obtain ⟨w4, hw4, hf⟩ := bn_some hf
      refine x_callV_v X E (As := []) (rest := []) (n := 0) (ws2 := (picC kA ad w4)) (goodV w_5146 w_585 w_586 w_50 w_587) (met_X0_build l E.2.2.2 D kA ad fu w w4 hw4) rfl rfl (by decide +kernel) ⟨by decide, by decide⟩ 2 rfl (qc := (RX0, TX0, _)) rfl rfl rfl rfl (Nat.le_of_ble_eq_true rfl) dX3_prepare_34 ⟨by decide, by decide⟩ ?_
      refine x_aload_n X dX3_prepare_37 0 rfl ?_
      refine x_get X E.1.1 (T := TX3) (C := RX3) inW3 0 rfl rfl 1 (by decide) w_213 rfl (v := .ref (ad 2)) rfl dX3_prepare_38 ?_
      refine x_get X E.1.1 (T := TX0) (C := RX0) inW0 2 rfl rfl 4 (by decide) w_5030 rfl (v := .int (w4.1 2 4)) rfl dX3_prepare_41 ?_
      refine x_nmI hf (fun x5 hf => ?_)
      cases hf
      exact x_iret X hr hlk rfl rfl dX3_prepare_44
  · cases hf
end
section
variable {p : Program} {l : Launch} {e : Env} {s : State} {m : MethodId} {args : Array Value} {below : List Frame} {meth : Method} {c : Code} {D : va_G} {kA : Nat → ClassId} {A : Nat → Prop} {Q : State → Prop} {ad al : Nat → Nat} {b L : Nat} {xs : Nat → Int32}
abbrev rm_X3_requireHierarchy : Room := { frames := 1, cells := 0, slots := 0, locals := 60 }
set_option maxRecDepth 100000 in
set_option maxHeartbeats 4000000 in
theorem met_X3_requireHierarchy (l : Launch) (hst : l.stackTraces = false) (D : va_G) (kA : Nat → ClassId) (ad : Nat → Nat) (fu : Nat) (w : WS)  (w1 : WS) (hf : f_X3_requireHierarchy fu w = some (.inl w1)) (sz : Nat) : Met l yX3_requireHierarchy (wsY yX3_requireHierarchy cX3_requireHierarchy 1 none) rm_X3_requireHierarchy (va_Pc [.ref (ad 0)] (PreG D kA (picC kA ad w) sz)) (va_Qv (fun (_ : Unit) => True) (fun _ t => PosG D (va_A (picC kA ad w) sz) (picC kA ad w1) t) (va_A (picC kA ad w) sz)) 0 0 (va_A (picC kA ad w) sz) := by
  refine metG (own := RX3) hst (by decide +kernel) rfl (Nat.le_of_ble_eq_true rfl) rfl ?_
  intro p e s m below meth c X hr hlk E _
  unfold f_X3_requireHierarchy at hf
  refine x_aload_n X dX3_requireHierarchy_0 0 rfl ?_
  refine x_get X E.1.1 (T := TX3) (C := RX3) inW3 0 rfl rfl 1 (by decide) w_213 rfl (v := .ref (ad 2)) rfl dX3_requireHierarchy_1 ?_
  refine x_get X E.1.1 (T := TX0) (C := RX0) inW0 2 rfl rfl 1 (by decide) w_5025 rfl (v := .int (w.1 2 1)) rfl dX3_requireHierarchy_4 ?_
  refine x_nmI hf (fun x1 hf => ?_)
  refine x_if_ne X (tgt := 21) dX3_requireHierarchy_7 (by decide) hf (fun hf => ?_) (fun hf => ?_)
  · cases hf
    exact x_vret X hr hlk rfl dX3_requireHierarchy_21
  · cases hf
end
section
variable {p : Program} {l : Launch} {e : Env} {s : State} {m : MethodId} {args : Array Value} {below : List Frame} {meth : Method} {c : Code} {D : va_G} {kA : Nat → ClassId} {A : Nat → Prop} {Q : State → Prop} {ad al : Nat → Nat} {b L : Nat} {xs : Nat → Int32}
abbrev rm_X3_hasArc : Room := { frames := 2, cells := 0, slots := 0, locals := 81 }
set_option maxRecDepth 100000 in
set_option maxHeartbeats 4000000 in
theorem met_X3_hasArc (l : Launch) (hst : l.stackTraces = false) (D : va_G) (kA : Nat → ClassId) (ad : Nat → Nat) (fu : Nat) (w : WS) (a1 : Int32) (a2 : Int32) (v : Int32) (w1 : WS) (hf : f_X3_hasArc fu w a1 a2 = some (.inl (v, w1))) (sz : Nat) : Met l yX3_hasArc (wsY yX3_hasArc cX3_hasArc 3 (some .boolean)) rm_X3_hasArc (va_Pc [.ref (ad 0), .int a1, .int a2] (PreG D kA (picC kA ad w) sz)) (va_Qi (fun (r : Int32) (_ : Unit) => r = v) (fun _ t => PosG D (va_A (picC kA ad w) sz) (picC kA ad w1) t) (va_A (picC kA ad w) sz)) 0 0 (va_A (picC kA ad w) sz) := by
  refine metG (own := RX3) hst (by decide +kernel) rfl (Nat.le_of_ble_eq_true rfl) rfl ?_
  intro p e s m below meth c X hr hlk E _
  unfold f_X3_hasArc at hf
  refine x_aload_n X dX3_hasArc_0 0 rfl ?_
  obtain ⟨w1, hw1, hf⟩ := bxr_some hf
  refine x_callV_v X E (As := []) (rest := []) (n := 0) (ws2 := (picC kA ad w1)) (goodV w_5155 w_618 s_16 w_47 w_619) (met_X3_requireHierarchy l E.2.2.2 D kA ad fu w w1 hw1) rfl rfl (by decide +kernel) ⟨by decide, by decide⟩ 0 rfl (qc := (RX3, TX3, _)) rfl rfl rfl rfl (Nat.le_of_ble_eq_true rfl) dX3_hasArc_1 ⟨by decide, by decide⟩ ?_
  refine x_aload_n X dX3_hasArc_4 0 rfl ?_
  refine x_iload_n X dX3_hasArc_5 1 rfl ?_
  obtain ⟨w2, hw2, hf⟩ := bxr_some hf
  refine x_callV_v X E (As := [.int a1]) (rest := []) (n := 1) (ws2 := (picC kA ad w2)) (goodV w_5117 w_443 s_3 w_47 w_444) (met_X3_requireRoad l E.2.2.2 D kA ad fu w1 a1 w2 hw2) rfl rfl (by decide +kernel) ⟨by decide, by decide⟩ 0 rfl (qc := (RX3, TX3, _)) rfl rfl rfl rfl (Nat.le_of_ble_eq_true rfl) dX3_hasArc_6 ⟨by decide, by decide⟩ ?_
  refine x_aload_n X dX3_hasArc_9 0 rfl ?_
  refine x_iload_n X dX3_hasArc_10 2 rfl ?_
  obtain ⟨w3, hw3, hf⟩ := bxr_some hf
  refine x_callV_v X E (As := [.int a2]) (rest := []) (n := 1) (ws2 := (picC kA ad w3)) (goodV w_5117 w_443 s_3 w_47 w_444) (met_X3_requireRoad l E.2.2.2 D kA ad fu w2 a2 w3 hw3) rfl rfl (by decide +kernel) ⟨by decide, by decide⟩ 0 rfl (qc := (RX3, TX3, _)) rfl rfl rfl rfl (Nat.le_of_ble_eq_true rfl) dX3_hasArc_11 ⟨by decide, by decide⟩ ?_
  refine x_aload_n X dX3_hasArc_14 0 rfl ?_
  refine x_get X E.1.1 (T := TX3) (C := RX3) inW3 0 rfl rfl 1 (by decide) w_213 rfl (v := .ref (ad 2)) rfl dX3_hasArc_15 ?_
  refine x_get X E.1.1 (T := TX0) (C := RX0) inW0 2 rfl rfl 7 (by decide) w_5033 rfl (v := .ref (ad 18)) rfl dX3_hasArc_18 ?_
  refine x_iload_n X dX3_hasArc_21 1 rfl ?_
  refine x_lald X E.1.1 18 rfl dX3_hasArc_22 hf (fun x4 hf => ?_)
  refine x_iload_n X dX3_hasArc_23 2 rfl ?_
  obtain ⟨x5, hx5, hf⟩ := bn_some hf
  refine x_callS_i X (As := [.long x4, .int a2]) (rest := []) (n := 2) (goodS w_5085 w_274 w_47 w_275) (met_X3_has l fu x4 a2 x5 hx5) rfl rfl (by decide +kernel) ⟨by decide, by decide⟩ rfl rfl (Nat.le_of_ble_eq_true rfl) dX3_hasArc_24 ⟨by decide, by decide⟩ ?_
  obtain ⟨hz, hf⟩ := ck_some hf
  cases hf
  exact x_zret X hr hlk rfl hz rfl dX3_hasArc_27
end
section
variable {p : Program} {l : Launch} {e : Env} {s : State} {m : MethodId} {args : Array Value} {below : List Frame} {meth : Method} {c : Code} {D : va_G} {kA : Nat → ClassId} {A : Nat → Prop} {Q : State → Prop} {ad al : Nat → Nat} {b L : Nat} {xs : Nat → Int32}
abbrev rm_X3_arcCost : Room := { frames := 2, cells := 0, slots := 0, locals := 81 }
set_option maxRecDepth 100000 in
set_option maxHeartbeats 4000000 in
theorem met_X3_arcCost (l : Launch) (hst : l.stackTraces = false) (D : va_G) (kA : Nat → ClassId) (ad : Nat → Nat) (fu : Nat) (w : WS) (a1 : Int32) (a2 : Int32) (v : Int32) (w1 : WS) (hf : f_X3_arcCost fu w a1 a2 = some (.inl (v, w1))) (sz : Nat) : Met l yX3_arcCost (wsY yX3_arcCost cX3_arcCost 3 (some .int)) rm_X3_arcCost (va_Pc [.ref (ad 0), .int a1, .int a2] (PreG D kA (picC kA ad w) sz)) (va_Qi (fun (r : Int32) (_ : Unit) => r = v) (fun _ t => PosG D (va_A (picC kA ad w) sz) (picC kA ad w1) t) (va_A (picC kA ad w) sz)) 0 0 (va_A (picC kA ad w) sz) := by
  refine metG (own := RX3) hst (by decide +kernel) rfl (Nat.le_of_ble_eq_true rfl) rfl ?_
  intro p e s m below meth c X hr hlk E _
  unfold f_X3_arcCost at hf
  refine x_aload_n X dX3_arcCost_0 0 rfl ?_
  obtain ⟨w1, hw1, hf⟩ := bxr_some hf
  refine x_callV_v X E (As := []) (rest := []) (n := 0) (ws2 := (picC kA ad w1)) (goodV w_5155 w_618 s_16 w_47 w_619) (met_X3_requireHierarchy l E.2.2.2 D kA ad fu w w1 hw1) rfl rfl (by decide +kernel) ⟨by decide, by decide⟩ 0 rfl (qc := (RX3, TX3, _)) rfl rfl rfl rfl (Nat.le_of_ble_eq_true rfl) dX3_arcCost_1 ⟨by decide, by decide⟩ ?_
  refine x_aload_n X dX3_arcCost_4 0 rfl ?_
  refine x_iload_n X dX3_arcCost_5 1 rfl ?_
  obtain ⟨w2, hw2, hf⟩ := bxr_some hf
  refine x_callV_v X E (As := [.int a1]) (rest := []) (n := 1) (ws2 := (picC kA ad w2)) (goodV w_5117 w_443 s_3 w_47 w_444) (met_X3_requireRoad l E.2.2.2 D kA ad fu w1 a1 w2 hw2) rfl rfl (by decide +kernel) ⟨by decide, by decide⟩ 0 rfl (qc := (RX3, TX3, _)) rfl rfl rfl rfl (Nat.le_of_ble_eq_true rfl) dX3_arcCost_6 ⟨by decide, by decide⟩ ?_
  refine x_aload_n X dX3_arcCost_9 0 rfl ?_
  refine x_iload_n X dX3_arcCost_10 2 rfl ?_
  obtain ⟨w3, hw3, hf⟩ := bxr_some hf
  refine x_callV_v X E (As := [.int a2]) (rest := []) (n := 1) (ws2 := (picC kA ad w3)) (goodV w_5117 w_443 s_3 w_47 w_444) (met_X3_requireRoad l E.2.2.2 D kA ad fu w2 a2 w3 hw3) rfl rfl (by decide +kernel) ⟨by decide, by decide⟩ 0 rfl (qc := (RX3, TX3, _)) rfl rfl rfl rfl (Nat.le_of_ble_eq_true rfl) dX3_arcCost_11 ⟨by decide, by decide⟩ ?_
  refine x_aload_n X dX3_arcCost_14 0 rfl ?_
  refine x_get X E.1.1 (T := TX3) (C := RX3) inW3 0 rfl rfl 1 (by decide) w_213 rfl (v := .ref (ad 2)) rfl dX3_arcCost_15 ?_
  refine x_get X E.1.1 (T := TX0) (C := RX0) inW0 2 rfl rfl 7 (by decide) w_5033 rfl (v := .ref (ad 18)) rfl dX3_arcCost_18 ?_
  refine x_iload_n X dX3_arcCost_21 1 rfl ?_
  refine x_lald X E.1.1 18 rfl dX3_arcCost_22 hf (fun x4 hf => ?_)
  refine x_iload_n X dX3_arcCost_23 2 rfl ?_
  obtain ⟨x5, hx5, hf⟩ := bn_some hf
  refine x_callS_i X (As := [.long x4, .int a2]) (rest := []) (n := 2) (goodS w_5085 w_274 w_47 w_275) (met_X3_has l fu x4 a2 x5 hx5) rfl rfl (by decide +kernel) ⟨by decide, by decide⟩ rfl rfl (Nat.le_of_ble_eq_true rfl) dX3_arcCost_24 ⟨by decide, by decide⟩ ?_
  refine x_if_ne X (tgt := 40) dX3_arcCost_27 (by decide) hf (fun hf => ?_) (fun hf => ?_)
  · refine x_aload_n X dX3_arcCost_40 0 rfl ?_
    refine x_get X E.1.1 (T := TX3) (C := RX3) inW3 0 rfl rfl 1 (by decide) w_213 rfl (v := .ref (ad 2)) rfl dX3_arcCost_41 ?_
    refine x_get X E.1.1 (T := TX0) (C := RX0) inW0 2 rfl rfl 9 (by decide) w_5036 rfl (v := .ref (ad 20)) rfl dX3_arcCost_44 ?_
    refine x_iload_n X dX3_arcCost_47 1 rfl ?_
    refine x_iload_n X dX3_arcCost_48 2 rfl ?_
    obtain ⟨x6, hx6, hf⟩ := bn_some hf
    refine x_callS_i X (As := [.int a1, .int a2]) (rest := [.ref (ad 20)]) (n := 2) (goodS w_5141 w_293 w_47 w_294) (met_X3_pair l fu a1 a2 x6 hx6) rfl rfl (by decide +kernel) ⟨by decide, by decide⟩ rfl rfl (Nat.le_of_ble_eq_true rfl) dX3_arcCost_49 ⟨by decide, by decide⟩ ?_
    refine x_iald X E.1.1 20 rfl dX3_arcCost_52 hf (fun x7 hf => ?_)
    obtain ⟨x8, hx8, hf⟩ := bn_some hf
    refine x_callS_i X (As := [.int x7]) (rest := []) (n := 1) (goodS w_5160 w_296 w_47 w_297) (met_X3_costOf l fu x7 x8 hx8) rfl rfl (by decide +kernel) ⟨by decide, by decide⟩ rfl rfl (Nat.le_of_ble_eq_true rfl) dX3_arcCost_53 ⟨by decide, by decide⟩ ?_
    cases hf
    exact x_iret X hr hlk rfl rfl dX3_arcCost_56
  · cases hf
end
section
variable {p : Program} {l : Launch} {e : Env} {s : State} {m : MethodId} {args : Array Value} {below : List Frame} {meth : Method} {c : Code} {D : va_G} {kA : Nat → ClassId} {A : Nat → Prop} {Q : State → Prop} {ad al : Nat → Nat} {b L : Nat} {xs : Nat → Int32}
abbrev rm_X3_spreadToJunctions : Room := { frames := 3, cells := 0, slots := 0, locals := 70 }
set_option maxRecDepth 100000 in
set_option maxHeartbeats 4000000 in
theorem lp_X3_spreadToJunctions_22 (X : CX p m c cX3_spreadToJunctions 3 s args RX3) (E : EX l s D kA A) (fu : Nat)  : ∀ (n : Nat) (y1 : Int32) (w : WS) (rw : WS), iter (fun q => bd_X3_spreadToJunctions_22 fu q.1 q.2) n (y1, w) = some (rw) → CS p l e rm_X3_spreadToJunctions s m args below meth c D A 3 0 0 Q (picC kA ad rw) 70 [] [] → CS p l e rm_X3_spreadToJunctions s m args below meth c D A 3 0 0 Q (picC kA ad w) 22 [(0, .ref (ad 0)), (1, .int y1)] [] := by
  intro n
  induction n with
  | zero =>
    intro y1 w rw hit kk
    exact (iter_0 hit).elim
  | succ n ih =>
    intro y1 w rw hit kk
    obtain ⟨o, h1, hit⟩ := iter_one hit
    have hf : bd_X3_spreadToJunctions_22 fu y1 w = some o := h1
    unfold bd_X3_spreadToJunctions_22 at hf
    refine x_iload_n X dX3_spreadToJunctions_22 1 rfl ?_
    refine x_aload_n X dX3_spreadToJunctions_23 0 rfl ?_
    refine x_get X E.1.1 (T := TX3) (C := RX3) inW3 0 rfl rfl 0 (by decide) w_212 rfl (v := .ref (ad 1)) rfl dX3_spreadToJunctions_24 ?_
    refine x_get X E.1.1 (T := TX2) (C := RX2) inW2 1 rfl rfl 1 (by decide) w_5003 rfl (v := .int (w.1 1 1)) rfl dX3_spreadToJunctions_27 ?_
    refine x_nmI hf (fun x1 hf => ?_)
    refine x_icmp_ge X (tgt := 70) dX3_spreadToJunctions_30 (by decide) hf (fun hf => ?_) (fun hf => ?_)
    · cases hf
      cases hit
      refine x_lpick (lv2 := []) [] rfl ?_
      exact kk
    · refine x_aload_n X dX3_spreadToJunctions_33 0 rfl ?_
      refine x_get X E.1.1 (T := TX3) (C := RX3) inW3 0 rfl rfl 0 (by decide) w_212 rfl (v := .ref (ad 1)) rfl dX3_spreadToJunctions_34 ?_
      refine x_get X E.1.1 (T := TX2) (C := RX2) inW2 1 rfl rfl 3 (by decide) w_5005 rfl (v := .ref (ad 10)) rfl dX3_spreadToJunctions_37 ?_
      refine x_iload_n X dX3_spreadToJunctions_40 1 rfl ?_
      refine x_iald X E.1.1 10 rfl dX3_spreadToJunctions_41 hf (fun x2 hf => ?_)
      refine x_istore_n X (lv2 := [(2, .int x2), (0, .ref (ad 0)), (1, .int y1)]) dX3_spreadToJunctions_42 (by decide) rfl ?_
      refine x_aload_n X dX3_spreadToJunctions_43 1 rfl ?_
      refine x_get X E.1.1 (T := TX3) (C := RX3) inW3 0 rfl rfl 5 (by decide) w_5062 rfl (v := .ref (ad 17)) rfl dX3_spreadToJunctions_44 ?_
      refine x_iload_n X dX3_spreadToJunctions_47 0 rfl ?_
      refine x_aload_n X dX3_spreadToJunctions_48 1 rfl ?_
      refine x_get X E.1.1 (T := TX3) (C := RX3) inW3 0 rfl rfl 5 (by decide) w_5062 rfl (v := .ref (ad 17)) rfl dX3_spreadToJunctions_49 ?_
      refine x_iload_n X dX3_spreadToJunctions_52 0 rfl ?_
      refine x_iald X E.1.1 17 rfl dX3_spreadToJunctions_53 hf (fun x3 hf => ?_)
      refine x_aload_n X dX3_spreadToJunctions_54 1 rfl ?_
      refine x_get X E.1.1 (T := TX3) (C := RX3) inW3 0 rfl rfl 4 (by decide) w_216 rfl (v := .ref (ad 5)) rfl dX3_spreadToJunctions_55 ?_
      refine x_iload_n X dX3_spreadToJunctions_58 2 rfl ?_
      refine x_iald X E.1.1 5 rfl dX3_spreadToJunctions_59 hf (fun x4 hf => ?_)
      refine x_mmin X w_5172 w_496 w_62 w_497 (by decide) (Nat.le_of_ble_eq_true rfl) (by decide) (by decide) dX3_spreadToJunctions_60 ?_
      refine x_iast X E.1.1 17 rfl dX3_spreadToJunctions_63 hf (picC kA ad) (setC_17 kA ad _ _ _) (fun w5 hf => ?_)
      refine x_iinc X dX3_spreadToJunctions_64 2 rfl (by decide) (y1 + 1) rfl hf (fun x6 => [(1, .int x6), (2, .int x2), (0, .ref (ad 0))]) (fun _ => rfl) (fun x6 hf => ?_)
      refine x_goto X (tgt := 22) dX3_spreadToJunctions_67 (by decide) ?_
      cases hf
      refine x_lpick (lv2 := [(0, .ref (ad 0)), (1, .int x6)]) [2, 0] rfl ?_
      exact ih _ _ _ hit kk
set_option maxRecDepth 100000 in
set_option maxHeartbeats 4000000 in
theorem met_X3_spreadToJunctions (l : Launch) (hst : l.stackTraces = false) (D : va_G) (kA : Nat → ClassId) (ad : Nat → Nat) (fu : Nat) (w : WS)  (w1 : WS) (hf : f_X3_spreadToJunctions fu w = some w1) (sz : Nat) : Met l yX3_spreadToJunctions (wsY yX3_spreadToJunctions cX3_spreadToJunctions 3 none) rm_X3_spreadToJunctions (va_Pc [.ref (ad 0)] (PreG D kA (picC kA ad w) sz)) (va_Qv (fun (_ : Unit) => True) (fun _ t => PosG D (va_A (picC kA ad w) sz) (picC kA ad w1) t) (va_A (picC kA ad w) sz)) 0 0 (va_A (picC kA ad w) sz) := by
  refine metG (own := RX3) hst (by decide +kernel) rfl (Nat.le_of_ble_eq_true rfl) rfl ?_
  intro p e s m below meth c X hr hlk E _
  unfold f_X3_spreadToJunctions at hf
  refine x_aload_n X dX3_spreadToJunctions_0 0 rfl ?_
  refine x_get X E.1.1 (T := TX3) (C := RX3) inW3 0 rfl rfl 1 (by decide) w_213 rfl (v := .ref (ad 2)) rfl dX3_spreadToJunctions_1 ?_
  refine x_aload_n X dX3_spreadToJunctions_4 0 rfl ?_
  refine x_get X E.1.1 (T := TX3) (C := RX3) inW3 0 rfl rfl 4 (by decide) w_216 rfl (v := .ref (ad 5)) rfl dX3_spreadToJunctions_5 ?_
  obtain ⟨w1, hw1, hf⟩ := bn_some hf
  refine x_callV_v X E (As := [.ref (ad 5)]) (rest := []) (n := 1) (ws2 := (picC kA ad w1)) (goodV w_5168 w_672 w_673 w_50 w_5169) (met_X0_spreadForward l E.2.2.2 D kA ad fu w w1 hw1) rfl rfl (by decide +kernel) ⟨by decide, by decide⟩ 2 rfl (qc := (RX0, TX0, _)) rfl rfl rfl rfl (Nat.le_of_ble_eq_true rfl) dX3_spreadToJunctions_8 ⟨by decide, by decide⟩ ?_
  refine x_aload_n X dX3_spreadToJunctions_11 0 rfl ?_
  refine x_get X E.1.1 (T := TX3) (C := RX3) inW3 0 rfl rfl 5 (by decide) w_5062 rfl (v := .ref (ad 17)) rfl dX3_spreadToJunctions_12 ?_
  refine x_ldc X (v := 536870912) w_5089 dX3_spreadToJunctions_15 ?_
  refine x_fill X E w_5163 w_80 w_49 w_81 (by decide) (by decide) 17 rfl (by decide) dX3_spreadToJunctions_17 ⟨by decide, by decide⟩ hf (picC kA ad) (setFC_17 kA ad _ _) (fun w2 hf => ?_)
  refine x_iconst X (v := 0) dX3_spreadToJunctions_20 (by decide) ?_
  refine x_istore_n X (lv2 := [(1, .int 0), (0, .ref (ad 0))]) dX3_spreadToJunctions_21 (by decide) rfl ?_
  refine x_lpick (lv2 := [(0, .ref (ad 0)), (1, .int 0)]) [1, 0] rfl ?_
  obtain ⟨w3, h4, hf⟩ := bn_some hf
  refine lp_X3_spreadToJunctions_22 X E fu  fu (0 : Int32) w2 w3 h4 ?_
  cases hf
  exact x_vret X hr hlk rfl dX3_spreadToJunctions_70
end
section
variable {p : Program} {l : Launch} {e : Env} {s : State} {m : MethodId} {args : Array Value} {below : List Frame} {meth : Method} {c : Code} {D : va_G} {kA : Nat → ClassId} {A : Nat → Prop} {Q : State → Prop} {ad al : Nat → Nat} {b L : Nat} {xs : Nat → Int32}
abbrev rm_X3_searchFrom : Room := { frames := 4, cells := 0, slots := 0, locals := 92 }
set_option maxRecDepth 100000 in
set_option maxHeartbeats 4000000 in
theorem lp_X3_searchFrom_30 (X : CX p m c cX3_searchFrom 5 s args RX3) (E : EX l s D kA A) (fu : Nat) (y1 : Int32) (y2 : Int64) : ∀ (n : Nat) (y4 : Int32) (w : WS) (rw : WS), iter (fun q => bd_X3_searchFrom_30 fu y1 y2 q.1 q.2) n (y4, w) = some (rw) → CS p l e rm_X3_searchFrom s m args below meth c D A 5 0 0 Q (picC kA ad rw) 73 [(0, .ref (ad 0)), (1, .int y1)] [] → CS p l e rm_X3_searchFrom s m args below meth c D A 5 0 0 Q (picC kA ad w) 30 [(0, .ref (ad 0)), (1, .int y1), (2, .long y2), (4, .int y4)] [] := by
  intro n
  induction n with
  | zero =>
    intro y4 w rw hit kk
    exact (iter_0 hit).elim
  | succ n ih =>
    intro y4 w rw hit kk
    obtain ⟨o, h1, hit⟩ := iter_one hit
    have hf : bd_X3_searchFrom_30 fu y1 y2 y4 w = some o := h1
    unfold bd_X3_searchFrom_30 at hf
    refine x_iload X dX3_searchFrom_30 3 rfl ?_
    refine x_aload_n X dX3_searchFrom_32 0 rfl ?_
    refine x_get X E.1.1 (T := TX3) (C := RX3) inW3 0 rfl rfl 0 (by decide) w_212 rfl (v := .ref (ad 1)) rfl dX3_searchFrom_33 ?_
    refine x_get X E.1.1 (T := TX2) (C := RX2) inW2 1 rfl rfl 1 (by decide) w_5003 rfl (v := .int (w.1 1 1)) rfl dX3_searchFrom_36 ?_
    refine x_nmI hf (fun x1 hf => ?_)
    refine x_icmp_ge X (tgt := 73) dX3_searchFrom_39 (by decide) hf (fun hf => ?_) (fun hf => ?_)
    · cases hf
      cases hit
      refine x_lpick (lv2 := [(0, .ref (ad 0)), (1, .int y1)]) [0, 1] rfl ?_
      exact kk
    · refine x_lload_n X dX3_searchFrom_42 2 rfl ?_
      refine x_iload X dX3_searchFrom_43 3 rfl ?_
      obtain ⟨x2, hx2, hf⟩ := bn_some hf
      refine x_callS_i X (As := [.long y2, .int y4]) (rest := []) (n := 2) (goodS w_5085 w_274 w_47 w_275) (met_X3_has l fu y2 y4 x2 hx2) rfl rfl (by decide +kernel) ⟨by decide, by decide⟩ rfl rfl (Nat.le_of_ble_eq_true rfl) dX3_searchFrom_45 ⟨by decide, by decide⟩ ?_
      refine x_if_eq X (tgt := 67) dX3_searchFrom_48 (by decide) hf (fun hf => ?_) (fun hf => ?_)
      · refine x_iinc X dX3_searchFrom_67 3 rfl (by decide) (y4 + 1) rfl hf (fun x3 => [(4, .int x3), (0, .ref (ad 0)), (1, .int y1), (2, .long y2)]) (fun _ => rfl) (fun x3 hf => ?_)
        refine x_goto X (tgt := 30) dX3_searchFrom_70 (by decide) ?_
        cases hf
        refine x_lpick (lv2 := [(0, .ref (ad 0)), (1, .int y1), (2, .long y2), (4, .int x3)]) [1, 2, 3, 0] rfl ?_
        exact ih _ _ _ hit kk
      · refine x_aload_n X dX3_searchFrom_51 0 rfl ?_
        refine x_get X E.1.1 (T := TX3) (C := RX3) inW3 0 rfl rfl 4 (by decide) w_216 rfl (v := .ref (ad 5)) rfl dX3_searchFrom_52 ?_
        refine x_iload X dX3_searchFrom_55 3 rfl ?_
        refine x_aload_n X dX3_searchFrom_57 0 rfl ?_
        refine x_get X E.1.1 (T := TX3) (C := RX3) inW3 0 rfl rfl 0 (by decide) w_212 rfl (v := .ref (ad 1)) rfl dX3_searchFrom_58 ?_
        refine x_iload X dX3_searchFrom_61 3 rfl ?_
        obtain ⟨x4, hx4, hf⟩ := bn_some hf
        refine x_callV_i X E (As := [.int y4]) (rest := [.int y4, .ref (ad 5)]) (n := 1) (ws2 := (picC kA ad w)) (goodV w_5164 w_475 w_476 w_48 w_477) (met_X2_roadLength l E.2.2.2 D kA ad fu w y4 x4 hx4) rfl rfl (by decide +kernel) ⟨by decide, by decide⟩ 1 rfl (qc := (RX2, TX2, _)) rfl rfl rfl rfl (Nat.le_of_ble_eq_true rfl) dX3_searchFrom_63 ⟨by decide, by decide⟩ ?_
        refine x_iast X E.1.1 5 rfl dX3_searchFrom_66 hf (picC kA ad) (setC_5 kA ad _ _ _) (fun w5 hf => ?_)
        refine x_iinc X dX3_searchFrom_67 3 rfl (by decide) (y4 + 1) rfl hf (fun x6 => [(4, .int x6), (0, .ref (ad 0)), (1, .int y1), (2, .long y2)]) (fun _ => rfl) (fun x6 hf => ?_)
        refine x_goto X (tgt := 30) dX3_searchFrom_70 (by decide) ?_
        cases hf
        refine x_lpick (lv2 := [(0, .ref (ad 0)), (1, .int y1), (2, .long y2), (4, .int x6)]) [1, 2, 3, 0] rfl ?_
        exact ih _ _ _ hit kk
set_option maxRecDepth 100000 in
set_option maxHeartbeats 4000000 in
theorem met_X3_searchFrom (l : Launch) (hst : l.stackTraces = false) (D : va_G) (kA : Nat → ClassId) (ad : Nat → Nat) (fu : Nat) (w : WS) (a1 : Int32) (w1 : WS) (hf : f_X3_searchFrom fu w a1 = some w1) (sz : Nat) : Met l yX3_searchFrom (wsY yX3_searchFrom cX3_searchFrom 5 none) rm_X3_searchFrom (va_Pc [.ref (ad 0), .int a1] (PreG D kA (picC kA ad w) sz)) (va_Qv (fun (_ : Unit) => True) (fun _ t => PosG D (va_A (picC kA ad w) sz) (picC kA ad w1) t) (va_A (picC kA ad w) sz)) 0 0 (va_A (picC kA ad w) sz) := by
  refine metG (own := RX3) hst (by decide +kernel) rfl (Nat.le_of_ble_eq_true rfl) rfl ?_
  intro p e s m below meth c X hr hlk E _
  unfold f_X3_searchFrom at hf
  refine x_aload_n X dX3_searchFrom_0 0 rfl ?_
  refine x_get X E.1.1 (T := TX3) (C := RX3) inW3 0 rfl rfl 4 (by decide) w_216 rfl (v := .ref (ad 5)) rfl dX3_searchFrom_1 ?_
  refine x_ldc X (v := 536870912) w_5089 dX3_searchFrom_4 ?_
  refine x_fill X E w_5163 w_80 w_49 w_81 (by decide) (by decide) 5 rfl (by decide) dX3_searchFrom_6 ⟨by decide, by decide⟩ hf (picC kA ad) (setFC_5 kA ad _ _) (fun w1 hf => ?_)
  refine x_aload_n X dX3_searchFrom_9 0 rfl ?_
  refine x_get X E.1.1 (T := TX3) (C := RX3) inW3 0 rfl rfl 0 (by decide) w_212 rfl (v := .ref (ad 1)) rfl dX3_searchFrom_10 ?_
  refine x_get X E.1.1 (T := TX2) (C := RX2) inW2 1 rfl rfl 6 (by decide) w_5008 rfl (v := .ref (ad 13)) rfl dX3_searchFrom_13 ?_
  refine x_iload_n X dX3_searchFrom_16 1 rfl ?_
  refine x_lald X E.1.1 13 rfl dX3_searchFrom_17 hf (fun x2 hf => ?_)
  refine x_aload_n X dX3_searchFrom_18 0 rfl ?_
  refine x_get X E.1.1 (T := TX3) (C := RX3) inW3 0 rfl rfl 0 (by decide) w_212 rfl (v := .ref (ad 1)) rfl dX3_searchFrom_19 ?_
  refine x_get X E.1.1 (T := TX2) (C := RX2) inW2 1 rfl rfl 8 (by decide) w_5010 rfl (v := .long (w1.2 1 8)) rfl dX3_searchFrom_22 ?_
  refine x_nmL hf (fun x3 hf => ?_)
  refine x_land X dX3_searchFrom_25 ?_
  refine x_nmL hf (fun x4 hf => ?_)
  refine x_lstore_n X (lv2 := [(2, .long x4), (0, .ref (ad 0)), (1, .int a1)]) dX3_searchFrom_26 (by decide) rfl ?_
  refine x_iconst X (v := 0) dX3_searchFrom_27 (by decide) ?_
  refine x_istore X (lv2 := [(4, .int 0), (2, .long x4), (0, .ref (ad 0)), (1, .int a1)]) dX3_searchFrom_28 (by decide) rfl ?_
  refine x_lpick (lv2 := [(0, .ref (ad 0)), (1, .int a1), (2, .long x4), (4, .int 0)]) [2, 3, 1, 0] rfl ?_
  obtain ⟨w5, h6, hf⟩ := bn_some hf
  refine lp_X3_searchFrom_30 X E fu a1 x4 fu (0 : Int32) w1 w5 h6 ?_
  refine x_aload_n X dX3_searchFrom_73 0 rfl ?_
  obtain ⟨w7, hw7, hf⟩ := bn_some hf
  refine x_callV_v X E (As := []) (rest := []) (n := 0) (ws2 := (picC kA ad w7)) (goodV w_5165 w_5166 s_502 w_47 w_5167) (met_X3_spreadToJunctions l E.2.2.2 D kA ad fu w5 w7 hw7) rfl rfl (by decide +kernel) ⟨by decide, by decide⟩ 0 rfl (qc := (RX3, TX3, _)) rfl rfl rfl rfl (Nat.le_of_ble_eq_true rfl) dX3_searchFrom_74 ⟨by decide, by decide⟩ ?_
  refine x_aload_n X dX3_searchFrom_77 0 rfl ?_
  refine x_get X E.1.1 (T := TX3) (C := RX3) inW3 0 rfl rfl 5 (by decide) w_5062 rfl (v := .ref (ad 17)) rfl dX3_searchFrom_78 ?_
  refine x_iload_n X dX3_searchFrom_81 1 rfl ?_
  refine x_iconst X (v := 0) dX3_searchFrom_82 (by decide) ?_
  refine x_iast X E.1.1 17 rfl dX3_searchFrom_83 hf (picC kA ad) (setC_17 kA ad _ _ _) (fun w8 hf => ?_)
  cases hf
  exact x_vret X hr hlk rfl dX3_searchFrom_84
end
section
variable {p : Program} {l : Launch} {e : Env} {s : State} {m : MethodId} {args : Array Value} {below : List Frame} {meth : Method} {c : Code} {D : va_G} {kA : Nat → ClassId} {A : Nat → Prop} {Q : State → Prop} {ad al : Nat → Nat} {b L : Nat} {xs : Nat → Int32}
abbrev rm_X3_foundCost : Room := { frames := 1, cells := 0, slots := 0, locals := 20 }
set_option maxRecDepth 100000 in
set_option maxHeartbeats 4000000 in
theorem met_X3_foundCost (l : Launch) (hst : l.stackTraces = false) (D : va_G) (kA : Nat → ClassId) (ad : Nat → Nat) (fu : Nat) (w : WS) (a1 : Int32) (v : Int32) (hf : f_X3_foundCost fu w a1 = some v) (sz : Nat) : Met l yX3_foundCost (wsY yX3_foundCost cX3_foundCost 2 (some .int)) rm_X3_foundCost (va_Pc [.ref (ad 0), .int a1] (PreG D kA (picC kA ad w) sz)) (va_Qi (fun (r : Int32) (_ : Unit) => r = v) (fun _ t => PosG D (va_A (picC kA ad w) sz) (picC kA ad w) t) (va_A (picC kA ad w) sz)) 0 0 (va_A (picC kA ad w) sz) := by
  refine metG (own := RX3) hst (by decide +kernel) rfl (Nat.le_of_ble_eq_true rfl) rfl ?_
  intro p e s m below meth c X hr hlk E _
  unfold f_X3_foundCost at hf
  refine x_aload_n X dX3_foundCost_0 0 rfl ?_
  refine x_get X E.1.1 (T := TX3) (C := RX3) inW3 0 rfl rfl 5 (by decide) w_5062 rfl (v := .ref (ad 17)) rfl dX3_foundCost_1 ?_
  refine x_iload_n X dX3_foundCost_4 1 rfl ?_
  refine x_iald X E.1.1 17 rfl dX3_foundCost_5 hf (fun x1 hf => ?_)
  obtain ⟨x2, hx2, hf⟩ := bn_some hf
  refine x_callS_i X (As := [.int x1]) (rest := []) (n := 1) (goodS w_5160 w_296 w_47 w_297) (met_X3_costOf l fu x1 x2 hx2) rfl rfl (by decide +kernel) ⟨by decide, by decide⟩ rfl rfl (Nat.le_of_ble_eq_true rfl) dX3_foundCost_6 ⟨by decide, by decide⟩ ?_
  exact x_iret X hr hlk rfl (Option.some.inj hf) dX3_foundCost_9
end
section
variable {p : Program} {l : Launch} {e : Env} {s : State} {m : MethodId} {args : Array Value} {below : List Frame} {meth : Method} {c : Code} {D : va_G} {kA : Nat → ClassId} {A : Nat → Prop} {Q : State → Prop} {ad al : Nat → Nat} {b L : Nat} {xs : Nat → Int32}
abbrev rm_X3_costBetween : Room := { frames := 5, cells := 0, slots := 0, locals := 116 }
set_option maxRecDepth 100000 in
set_option maxHeartbeats 4000000 in
theorem met_X3_costBetween (l : Launch) (hst : l.stackTraces = false) (D : va_G) (kA : Nat → ClassId) (ad : Nat → Nat) (fu : Nat) (w : WS) (a1 : Int32) (a2 : Int32) (v : Int32) (w1 : WS) (hf : f_X3_costBetween fu w a1 a2 = some (v, w1)) (sz : Nat) : Met l yX3_costBetween (wsY yX3_costBetween cX3_costBetween 3 (some .int)) rm_X3_costBetween (va_Pc [.ref (ad 0), .int a1, .int a2] (PreG D kA (picC kA ad w) sz)) (va_Qi (fun (r : Int32) (_ : Unit) => r = v) (fun _ t => PosG D (va_A (picC kA ad w) sz) (picC kA ad w1) t) (va_A (picC kA ad w) sz)) 0 0 (va_A (picC kA ad w) sz) := by
  refine metG (own := RX3) hst (by decide +kernel) rfl (Nat.le_of_ble_eq_true rfl) rfl ?_
  intro p e s m below meth c X hr hlk E _
  unfold f_X3_costBetween at hf
  refine x_aload_n X dX3_costBetween_0 0 rfl ?_
  refine x_iload_n X dX3_costBetween_1 1 rfl ?_
  obtain ⟨w1, hw1, hf⟩ := bn_some hf
  refine x_callV_v X E (As := [.int a1]) (rest := []) (n := 1) (ws2 := (picC kA ad w1)) (goodV w_5162 w_666 s_18 w_47 w_667) (met_X3_searchFrom l E.2.2.2 D kA ad fu w a1 w1 hw1) rfl rfl (by decide +kernel) ⟨by decide, by decide⟩ 0 rfl (qc := (RX3, TX3, _)) rfl rfl rfl rfl (Nat.le_of_ble_eq_true rfl) dX3_costBetween_2 ⟨by decide, by decide⟩ ?_
  refine x_aload_n X dX3_costBetween_5 0 rfl ?_
  refine x_iload_n X dX3_costBetween_6 2 rfl ?_
  obtain ⟨x2, hx2, hf⟩ := bn_some hf
  refine x_callV_i X E (As := [.int a2]) (rest := []) (n := 1) (ws2 := (picC kA ad w1)) (goodV w_5173 w_681 s_20 w_47 w_5174) (met_X3_foundCost l E.2.2.2 D kA ad fu w1 a2 x2 hx2) rfl rfl (by decide +kernel) ⟨by decide, by decide⟩ 0 rfl (qc := (RX3, TX3, _)) rfl rfl rfl rfl (Nat.le_of_ble_eq_true rfl) dX3_costBetween_7 ⟨by decide, by decide⟩ ?_
  cases hf
  exact x_iret X hr hlk rfl rfl dX3_costBetween_10
end
section
variable {p : Program} {l : Launch} {e : Env} {s : State} {m : MethodId} {args : Array Value} {below : List Frame} {meth : Method} {c : Code} {D : va_G} {kA : Nat → ClassId} {A : Nat → Prop} {Q : State → Prop} {ad al : Nat → Nat} {b L : Nat} {xs : Nat → Int32}
abbrev rm_X3_distance : Room := { frames := 6, cells := 0, slots := 0, locals := 138 }
set_option maxRecDepth 100000 in
set_option maxHeartbeats 4000000 in
theorem met_X3_distance (l : Launch) (hst : l.stackTraces = false) (D : va_G) (kA : Nat → ClassId) (ad : Nat → Nat) (fu : Nat) (w : WS) (a1 : Int32) (a2 : Int32) (v : Int32) (w1 : WS) (hf : f_X3_distance fu w a1 a2 = some (.inl (v, w1))) (sz : Nat) : Met l yX3_distance (wsY yX3_distance cX3_distance 3 (some .int)) rm_X3_distance (va_Pc [.ref (ad 0), .int a1, .int a2] (PreG D kA (picC kA ad w) sz)) (va_Qi (fun (r : Int32) (_ : Unit) => r = v) (fun _ t => PosG D (va_A (picC kA ad w) sz) (picC kA ad w1) t) (va_A (picC kA ad w) sz)) 0 0 (va_A (picC kA ad w) sz) := by
  refine metG (own := RX3) hst (by decide +kernel) rfl (Nat.le_of_ble_eq_true rfl) rfl ?_
  intro p e s m below meth c X hr hlk E _
  unfold f_X3_distance at hf
  refine x_aload_n X dX3_distance_0 0 rfl ?_
  obtain ⟨w1, hw1, hf⟩ := bxr_some hf
  refine x_callV_v X E (As := []) (rest := []) (n := 0) (ws2 := (picC kA ad w1)) (goodV w_5155 w_618 s_16 w_47 w_619) (met_X3_requireHierarchy l E.2.2.2 D kA ad fu w w1 hw1) rfl rfl (by decide +kernel) ⟨by decide, by decide⟩ 0 rfl (qc := (RX3, TX3, _)) rfl rfl rfl rfl (Nat.le_of_ble_eq_true rfl) dX3_distance_1 ⟨by decide, by decide⟩ ?_
  refine x_aload_n X dX3_distance_4 0 rfl ?_
  refine x_iload_n X dX3_distance_5 1 rfl ?_
  obtain ⟨w2, hw2, hf⟩ := bxr_some hf
  refine x_callV_v X E (As := [.int a1]) (rest := []) (n := 1) (ws2 := (picC kA ad w2)) (goodV w_5106 w_387 s_1 w_47 w_388) (met_X3_requireJunction l E.2.2.2 D kA ad fu w1 a1 w2 hw2) rfl rfl (by decide +kernel) ⟨by decide, by decide⟩ 0 rfl (qc := (RX3, TX3, _)) rfl rfl rfl rfl (Nat.le_of_ble_eq_true rfl) dX3_distance_6 ⟨by decide, by decide⟩ ?_
  refine x_aload_n X dX3_distance_9 0 rfl ?_
  refine x_iload_n X dX3_distance_10 2 rfl ?_
  obtain ⟨w3, hw3, hf⟩ := bxr_some hf
  refine x_callV_v X E (As := [.int a2]) (rest := []) (n := 1) (ws2 := (picC kA ad w3)) (goodV w_5106 w_387 s_1 w_47 w_388) (met_X3_requireJunction l E.2.2.2 D kA ad fu w2 a2 w3 hw3) rfl rfl (by decide +kernel) ⟨by decide, by decide⟩ 0 rfl (qc := (RX3, TX3, _)) rfl rfl rfl rfl (Nat.le_of_ble_eq_true rfl) dX3_distance_11 ⟨by decide, by decide⟩ ?_
  refine x_aload_n X dX3_distance_14 0 rfl ?_
  refine x_iload_n X dX3_distance_15 1 rfl ?_
  refine x_iload_n X dX3_distance_16 2 rfl ?_
  obtain ⟨x5, w4, hx5, hf⟩ := bn2_some hf
  refine x_callV_i X E (As := [.int a1, .int a2]) (rest := []) (n := 2) (ws2 := (picC kA ad w4)) (goodV w_5161 w_662 s_17 w_47 w_663) (met_X3_costBetween l E.2.2.2 D kA ad fu w3 a1 a2 x5 w4 hx5) rfl rfl (by decide +kernel) ⟨by decide, by decide⟩ 0 rfl (qc := (RX3, TX3, _)) rfl rfl rfl rfl (Nat.le_of_ble_eq_true rfl) dX3_distance_17 ⟨by decide, by decide⟩ ?_
  cases hf
  exact x_iret X hr hlk rfl rfl dX3_distance_20
end
end
section
abbrev rm_L_cell : Room := { frames := 0, cells := 0, slots := 0, locals := 0 }
theorem met_L_cell (l : Launch) (b L : Nat) (xs : Nat → Int32) (hL : L ≤ 260) (k : Int32) (hk : ¬ k < 0) : Met l yL_cell (wsY yL_cell cL_cell 2 (some .int)) rm_L_cell (va_Pc [.ref b, .int k] (fun U => va_X b L xs U U.heap ∧ b < U.heap.size)) (va_Qi (fun (r : Int32) (_ : Unit) => r = cellV L xs k) (fun _ _ => True) (fun _ => False)) 0 0 (fun _ => False) := by
  refine Met.ofW (cc := cL_cell) (maxL := 2) (ret := some .int) (by decide +kernel) rfl ?_
  intro p e s m args below meth c s₁ B hml hv
  obtain ⟨rfl, hX, hbl⟩ := hv
  have hts := atoms_spec (ws := wsY yL_cell cL_cell 2 (some .int)) B.pre
  rw [lg_entry_eq]
  have hl := lv_entry (n := 2) [Value.ref b, Value.int k] (Nat.le_of_ble_eq_true rfl)
  have X : CX p m c cL_cell 2 s [Value.ref b, Value.int k].toArray RL := ⟨B.exec, B.bytes, hml, findClass_of_methodNamed B.named, fun w h => hts w (List.mem_cons_of_mem _ h)⟩
  have hr := B.returns
  have hlk := B.notSynchronized
  obtain ⟨n, hn, rfl⟩ := nI_of hk
  have hcl : Int32.toNatClampNeg (nI n) = n := nI_clamp hn
  have main : CS p l e rm_L_cell s m [Value.ref b, Value.int (nI n)].toArray below meth c (fun _ => 0, fun _ _ => 0) (fun _ => False) 2 0 0 (MQ below (va_Qi (fun (r : Int32) (_ : Unit) => r = cellV L xs (nI n)) (fun _ _ => True) (fun _ => False)) [Value.ref b, Value.int (nI n)].toArray s 0 0 (fun _ => False)) [] 0 [(0, .ref b), (1, .int (nI n))] [] := by
    refine x_iload_n X dL_cell_0 1 rfl ?_
    refine x_aload_n X dL_cell_1 0 rfl ?_
    refine x_slen X hX hbl (fun h => h) dL_cell_2 ?_
    by_cases h : Int32.ofNat L ≤ nI n
    · refine x_icmp_ge_t X (tgt := 12) dL_cell_3 (by decide) h ?_
      refine x_ldc X (v := 790386105) w_5233 dL_cell_12 ?_
      refine x_iload_n X dL_cell_14 1 rfl ?_
      refine x_iconst X (v := 3) dL_cell_15 (by decide) ?_
      refine x_iadd X dL_cell_16 ?_
      refine x_imul X dL_cell_17 ?_
      exact x_iretS X hr hlk (if_pos h).symm dL_cell_18
    · refine x_icmp_ge_f X (tgt := 12) dL_cell_3 (by decide) h ?_
      have hlt : n < L := by
        apply Nat.lt_of_not_le
        intro hge
        exact h (nI_le hge hn)
      refine x_aload_n X dL_cell_6 0 rfl ?_
      refine x_iload_n X dL_cell_7 1 rfl ?_
      refine x_sld X hX hbl (fun h => h) (vp_in_nI hlt (by omega)) dL_cell_8 ?_
      refine x_goto X (tgt := 18) dL_cell_9 (by decide) ?_
      exact x_iretS X hr hlk (if_neg h).symm dL_cell_18
  exact main s.heap [] _ (fun k q h => by simp at h) ⟨fun i j p q h => by simp at h, fun k q h => by simp at h⟩ va_S.rf hl
end
section
section
variable {p : Program} {l : Launch} {e : Env} {s : State} {m : MethodId} {args : Array Value} {below : List Frame} {meth : Method} {c : Code} {D : va_G} {kA : Nat → ClassId} {A : Nat → Prop} {Q : State → Prop} {ad al : Nat → Nat} {b L : Nat} {xs : Nat → Int32}
abbrev rm_L_below : Room := { frames := 0, cells := 0, slots := 0, locals := 0 }
set_option maxRecDepth 100000 in
set_option maxHeartbeats 4000000 in
theorem met_L_below (l : Launch) (fu : Nat) (a0 : Int32) (a1 : Int32) (v : Int32) (hf : f_L_below fu a0 a1 = some v) : Met l yL_below (wsY yL_below cL_below 2 (some .int)) rm_L_below (va_Pc [.int a0, .int a1] (fun _ => True)) (va_Qi (fun (r : Int32) (_ : Unit) => r = v) (fun _ _ => True) (fun _ => False)) 0 0 (fun _ => False) := by
  refine metS (own := RL) (by decide +kernel) rfl (Nat.le_of_ble_eq_true rfl) rfl ?_
  intro p e s m below meth c X hr hlk
  generalize ([] : va_W) = ws
  unfold f_L_below at hf
  refine x_iload_n X dL_below_0 0 rfl ?_
  refine x_ldc X (v := 2147483647) w_5241 dL_below_1 ?_
  refine x_iand X dL_below_3 ?_
  refine x_iload_n X dL_below_4 1 rfl ?_
  refine x_irem X dL_below_5 hf (fun x1 hf => ?_)
  exact x_iretS X hr hlk (Option.some.inj hf) dL_below_6
end
section
variable {p : Program} {l : Launch} {e : Env} {s : State} {m : MethodId} {args : Array Value} {below : List Frame} {meth : Method} {c : Code} {D : va_G} {kA : Nat → ClassId} {A : Nat → Prop} {Q : State → Prop} {ad al : Nat → Nat} {b L : Nat} {xs : Nat → Int32}
abbrev rm_L_build : Room := { frames := 3, cells := 0, slots := 0, locals := 104 }
set_option maxRecDepth 100000 in
set_option maxHeartbeats 4000000 in
theorem lp_L_build_3 (X : CX p m c cL_build 7 s args RL) (E : EX l s D kA A) (hX : va_X b L xs s s.heap) (hbl : b < s.heap.size) (hbA : ¬ A b) (hL : L ≤ 260) (fu : Nat) (f : WS) : ∀ (n : Nat) (y5 : Int32) (w : WS) (out : (WS) ⊕ (WS)), iter (fun q => bd_L_build_3 fu L xs f q.1 q.2) n (y5, w) = some out → (∀ (r : WS), out = .inl r → CS p l e rm_L_build s m args below meth c D A 7 0 0 Q ((picC kA ad r) ++ picB kA al f) 18 [] []) ∧ (∀ (r : WS), out = .inr r → CS p l e rm_L_build s m args below meth c D A 7 0 0 Q ((picC kA ad r) ++ picB kA al f) 26 [(0, .ref (ad 0)), (1, .ref b), (2, .ref (al 0)), (3, .ref (al 1)), (4, .ref (al 2))] []) → CS p l e rm_L_build s m args below meth c D A 7 0 0 Q ((picC kA ad w) ++ picB kA al f) 3 [(0, .ref (ad 0)), (1, .ref b), (2, .ref (al 0)), (3, .ref (al 1)), (4, .ref (al 2)), (5, .int y5)] [] := by
  intro n
  induction n with
  | zero =>
    intro y5 w out hit kk
    exact (iter_0 hit).elim
  | succ n ih =>
    intro y5 w out hit kk
    obtain ⟨o, h1, hit⟩ := iter_one hit
    have hf : bd_L_build_3 fu L xs f y5 w = some o := h1
    unfold bd_L_build_3 at hf
    refine x_iload X dL_build_3 5 rfl ?_
    refine x_iconst X (v := 5) dL_build_5 (by decide) ?_
    refine x_icmp_ge X (tgt := 26) dL_build_6 (by decide) hf (fun hf => ?_) (fun hf => ?_)
    · cases hf
      cases hit
      refine x_lpick (lv2 := [(0, .ref (ad 0)), (1, .ref b), (2, .ref (al 0)), (3, .ref (al 1)), (4, .ref (al 2))]) [0, 1, 2, 3, 4] rfl ?_
      exact kk.2 _ rfl
    · refine x_aload_n X dL_build_9 0 rfl ?_
      obtain ⟨x1, w2, hx1, hf⟩ := bxn2_some hf
      refine x_callVs_i X E (As := []) (rest := []) (n := 0) (u := picC kA ad w) (u2 := picC kA ad w2) [] (picB kA al f) rfl (goodV w_5237 w_304 w_305 w_47 w_306) (met_X3_addJunction l E.2.2.2 D kA ad fu w x1 w2 hx1) rfl rfl (by decide +kernel) ⟨Nat.le_of_ble_eq_true rfl, Nat.le_of_ble_eq_true rfl⟩ 0 rfl (qc := (RX3, TX3, _)) rfl rfl rfl rfl (Nat.le_of_ble_eq_true rfl) dL_build_10 ⟨by decide, by decide⟩ (picC kA ad w2 ++ picB kA al f) rfl ?_
      refine x_iload X dL_build_13 5 rfl ?_
      refine x_icmp_eq X (tgt := 20) dL_build_15 (by decide) hf (fun hf => ?_) (fun hf => ?_)
      · refine x_iinc X dL_build_20 5 rfl (by decide) (y5 + 1) rfl hf (fun x3 => [(5, .int x3), (0, .ref (ad 0)), (1, .ref b), (2, .ref (al 0)), (3, .ref (al 1)), (4, .ref (al 2))]) (fun _ => rfl) (fun x3 hf => ?_)
        refine x_goto X (tgt := 3) dL_build_23 (by decide) ?_
        cases hf
        refine x_lpick (lv2 := [(0, .ref (ad 0)), (1, .ref b), (2, .ref (al 0)), (3, .ref (al 1)), (4, .ref (al 2)), (5, .int x3)]) [1, 2, 3, 4, 5, 0] rfl ?_
        exact ih _ _ _ hit kk
      · cases hf
        cases hit
        refine x_lpick (lv2 := []) [] rfl ?_
        exact kk.1 _ rfl
set_option maxRecDepth 100000 in
set_option maxHeartbeats 4000000 in
theorem lp_L_build_29 (X : CX p m c cL_build 7 s args RL) (E : EX l s D kA A) (hX : va_X b L xs s s.heap) (hbl : b < s.heap.size) (hbA : ¬ A b) (hL : L ≤ 260) (fu : Nat)  : ∀ (n : Nat) (y5 : Int32) (w : WS) (f : WS) (out : (WS × WS) ⊕ (WS × WS)), iter (fun q => bd_L_build_29 fu L xs q.1 q.2.1 q.2.2) n (y5, w, f) = some out → (∀ (r : WS × WS), out = .inl r → CS p l e rm_L_build s m args below meth c D A 7 0 0 Q ((picC kA ad r.1) ++ picB kA al r.2) 140 [] []) ∧ (∀ (r : WS × WS), out = .inr r → CS p l e rm_L_build s m args below meth c D A 7 0 0 Q ((picC kA ad r.1) ++ picB kA al r.2) 148 [] []) → CS p l e rm_L_build s m args below meth c D A 7 0 0 Q ((picC kA ad w) ++ picB kA al f) 29 [(0, .ref (ad 0)), (1, .ref b), (2, .ref (al 0)), (3, .ref (al 1)), (4, .ref (al 2)), (5, .int y5)] [] := by
  intro n
  induction n with
  | zero =>
    intro y5 w f out hit kk
    exact (iter_0 hit).elim
  | succ n ih =>
    intro y5 w f out hit kk
    obtain ⟨o, h1, hit⟩ := iter_one hit
    have hf : bd_L_build_29 fu L xs y5 w f = some o := h1
    unfold bd_L_build_29 at hf
    refine x_iload X dL_build_29 5 rfl ?_
    refine x_bipush X (v := 9) dL_build_31 (by decide) ?_
    refine x_icmp_ge X (tgt := 148) dL_build_33 (by decide) hf (fun hf => ?_) (fun hf => ?_)
    · cases hf
      cases hit
      refine x_lpick (lv2 := []) [] rfl ?_
      exact kk.2 _ rfl
    · refine x_aload_n X dL_build_36 1 rfl ?_
      refine x_iload X dL_build_37 5 rfl ?_
      obtain ⟨hk9, hf⟩ := ck_some hf
      refine x_callSx X hX hbl hbA (As := [.ref b, .int y5]) (rest := []) (n := 2) (goodS w_5230 w_5231 w_46 w_5232) (met_L_cell l b L xs hL y5 hk9) rfl rfl (by decide +kernel) ⟨Nat.le_of_ble_eq_true rfl, Nat.le_of_ble_eq_true rfl⟩ rfl rfl (Nat.le_of_ble_eq_true rfl) dL_build_39 ⟨by decide, by decide⟩ ?_
      refine x_nmI hf (fun x1 hf => ?_)
      refine x_istore X (lv2 := [(6, .int x1), (0, .ref (ad 0)), (1, .ref b), (2, .ref (al 0)), (3, .ref (al 1)), (4, .ref (al 2)), (5, .int y5)]) dL_build_42 (by decide) rfl ?_
      refine x_aload_n X dL_build_44 3 rfl ?_
      refine x_iload X dL_build_45 6 rfl ?_
      refine x_iload X dL_build_47 6 rfl ?_
      refine x_iconst X (v := 5) dL_build_49 (by decide) ?_
      refine x_icmp_ge X (tgt := 58) dL_build_50 (by decide) hf (fun hf => ?_) (fun hf => ?_)
      · refine x_iload X dL_build_58 0 rfl ?_
        refine x_iconst X (v := 5) dL_build_60 (by decide) ?_
        obtain ⟨x2, hx2, hf⟩ := bn_some hf
        refine x_callS_i X (As := [.int x1, .int 5]) (rest := [.int y5, .ref (al 0)]) (n := 2) (goodS w_5238 w_5239 w_46 w_5240) (met_L_below l fu x1 (5 : Int32) x2 hx2) rfl rfl (by decide +kernel) ⟨by decide, by decide⟩ rfl rfl (Nat.le_of_ble_eq_true rfl) dL_build_61 ⟨by decide, by decide⟩ ?_
        refine x_iast X E.1.1 29 rfl dL_build_64 hf (fun f => picC kA ad w ++ picB kA al f) rfl (fun f3 hf => ?_)
        refine x_aload_n X dL_build_65 4 rfl ?_
        refine x_iload X dL_build_66 6 rfl ?_
        refine x_iload X dL_build_68 6 rfl ?_
        refine x_iconst X (v := 5) dL_build_70 (by decide) ?_
        refine x_icmp_ge X (tgt := 83) dL_build_71 (by decide) hf (fun hf => ?_) (fun hf => ?_)
        · refine x_aload_n X dL_build_83 3 rfl ?_
          refine x_iload X dL_build_84 6 rfl ?_
          refine x_iald X E.1.1 29 rfl dL_build_86 hf (fun x4 hf => ?_)
          refine x_iconst X (v := 1) dL_build_87 (by decide) ?_
          refine x_iadd X dL_build_88 ?_
          refine x_iload X dL_build_89 0 rfl ?_
          refine x_iconst X (v := 4) dL_build_91 (by decide) ?_
          refine x_ishr X dL_build_92 ?_
          refine x_iconst X (v := 4) dL_build_93 (by decide) ?_
          obtain ⟨x5, hx5, hf⟩ := bn_some hf
          refine x_callS_i X (As := [.int (x1 >>> ((4 : Int32) &&& 31)), .int 4]) (rest := [.int (x4 + 1), .int y5, .ref (al 1)]) (n := 2) (goodS w_5238 w_5239 w_46 w_5240) (met_L_below l fu (x1 >>> ((4 : Int32) &&& 31)) (4 : Int32) x5 hx5) rfl rfl (by decide +kernel) ⟨by decide, by decide⟩ rfl rfl (Nat.le_of_ble_eq_true rfl) dL_build_94 ⟨by decide, by decide⟩ ?_
          refine x_iadd X dL_build_97 ?_
          refine x_iconst X (v := 5) dL_build_98 (by decide) ?_
          refine x_irem X dL_build_99 hf (fun x6 hf => ?_)
          refine x_iast X E.1.1 30 rfl dL_build_100 hf (fun f => picC kA ad w ++ picB kA al f) rfl (fun f7 hf => ?_)
          refine x_aload X dL_build_101 5 rfl ?_
          refine x_iload X dL_build_103 6 rfl ?_
          refine x_iconst X (v := 1) dL_build_105 (by decide) ?_
          refine x_iload X dL_build_106 0 rfl ?_
          refine x_bipush X (v := 8) dL_build_108 (by decide) ?_
          refine x_ishr X dL_build_110 ?_
          refine x_bipush X (v := 6) dL_build_111 (by decide) ?_
          obtain ⟨x8, hx8, hf⟩ := bn_some hf
          refine x_callS_i X (As := [.int (x1 >>> ((8 : Int32) &&& 31)), .int 6]) (rest := [.int 1, .int y5, .ref (al 2)]) (n := 2) (goodS w_5238 w_5239 w_46 w_5240) (met_L_below l fu (x1 >>> ((8 : Int32) &&& 31)) (6 : Int32) x8 hx8) rfl rfl (by decide +kernel) ⟨by decide, by decide⟩ rfl rfl (Nat.le_of_ble_eq_true rfl) dL_build_113 ⟨by decide, by decide⟩ ?_
          refine x_iadd X dL_build_116 ?_
          refine x_iast X E.1.1 31 rfl dL_build_117 hf (fun f => picC kA ad w ++ picB kA al f) rfl (fun f9 hf => ?_)
          refine x_aload_n X dL_build_118 1 rfl ?_
          refine x_aload_n X dL_build_119 3 rfl ?_
          refine x_iload X dL_build_120 6 rfl ?_
          refine x_iald X E.1.1 29 rfl dL_build_122 hf (fun x10 hf => ?_)
          refine x_aload_n X dL_build_123 4 rfl ?_
          refine x_iload X dL_build_124 6 rfl ?_
          refine x_iald X E.1.1 30 rfl dL_build_126 hf (fun x11 hf => ?_)
          refine x_aload X dL_build_127 5 rfl ?_
          refine x_iload X dL_build_129 6 rfl ?_
          refine x_iald X E.1.1 31 rfl dL_build_131 hf (fun x12 hf => ?_)
          obtain ⟨x13, w14, hx13, hf⟩ := bxn2_some hf
          refine x_callVs_i X E (As := [.int x10, .int x11, .int x12]) (rest := []) (n := 3) (u := picC kA ad w) (u2 := picC kA ad w14) [] (picB kA al f9) rfl (goodV w_5242 w_382 w_383 w_47 w_384) (met_X3_addRoad l E.2.2.2 D kA ad fu w x10 x11 x12 x13 w14 hx13) rfl rfl (by decide +kernel) ⟨Nat.le_of_ble_eq_true rfl, Nat.le_of_ble_eq_true rfl⟩ 0 rfl (qc := (RX3, TX3, _)) rfl rfl rfl rfl (Nat.le_of_ble_eq_true rfl) dL_build_132 ⟨by decide, by decide⟩ (picC kA ad w14 ++ picB kA al f9) rfl ?_
          refine x_iload X dL_build_135 6 rfl ?_
          refine x_icmp_eq X (tgt := 142) dL_build_137 (by decide) hf (fun hf => ?_) (fun hf => ?_)
          · refine x_iinc X dL_build_142 6 rfl (by decide) (y5 + 1) rfl hf (fun x15 => [(5, .int x15), (6, .int x1), (0, .ref (ad 0)), (1, .ref b), (2, .ref (al 0)), (3, .ref (al 1)), (4, .ref (al 2))]) (fun _ => rfl) (fun x15 hf => ?_)
            refine x_goto X (tgt := 29) dL_build_145 (by decide) ?_
            cases hf
            refine x_lpick (lv2 := [(0, .ref (ad 0)), (1, .ref b), (2, .ref (al 0)), (3, .ref (al 1)), (4, .ref (al 2)), (5, .int x15)]) [2, 3, 4, 5, 6, 0] rfl ?_
            exact ih _ _ _ _ hit kk
          · cases hf
            cases hit
            refine x_lpick (lv2 := []) [] rfl ?_
            exact kk.1 _ rfl
        · refine x_iload X dL_build_74 6 rfl ?_
          refine x_iconst X (v := 1) dL_build_76 (by decide) ?_
          refine x_iadd X dL_build_77 ?_
          refine x_iconst X (v := 5) dL_build_78 (by decide) ?_
          refine x_irem X dL_build_79 hf (fun x16 hf => ?_)
          refine x_goto X (tgt := 100) dL_build_80 (by decide) ?_
          refine x_iast X E.1.1 30 rfl dL_build_100 hf (fun f => picC kA ad w ++ picB kA al f) rfl (fun f17 hf => ?_)
          refine x_aload X dL_build_101 5 rfl ?_
          refine x_iload X dL_build_103 6 rfl ?_
          refine x_iconst X (v := 1) dL_build_105 (by decide) ?_
          refine x_iload X dL_build_106 0 rfl ?_
          refine x_bipush X (v := 8) dL_build_108 (by decide) ?_
          refine x_ishr X dL_build_110 ?_
          refine x_bipush X (v := 6) dL_build_111 (by decide) ?_
          obtain ⟨x18, hx18, hf⟩ := bn_some hf
          refine x_callS_i X (As := [.int (x1 >>> ((8 : Int32) &&& 31)), .int 6]) (rest := [.int 1, .int y5, .ref (al 2)]) (n := 2) (goodS w_5238 w_5239 w_46 w_5240) (met_L_below l fu (x1 >>> ((8 : Int32) &&& 31)) (6 : Int32) x18 hx18) rfl rfl (by decide +kernel) ⟨by decide, by decide⟩ rfl rfl (Nat.le_of_ble_eq_true rfl) dL_build_113 ⟨by decide, by decide⟩ ?_
          refine x_iadd X dL_build_116 ?_
          refine x_iast X E.1.1 31 rfl dL_build_117 hf (fun f => picC kA ad w ++ picB kA al f) rfl (fun f19 hf => ?_)
          refine x_aload_n X dL_build_118 1 rfl ?_
          refine x_aload_n X dL_build_119 3 rfl ?_
          refine x_iload X dL_build_120 6 rfl ?_
          refine x_iald X E.1.1 29 rfl dL_build_122 hf (fun x20 hf => ?_)
          refine x_aload_n X dL_build_123 4 rfl ?_
          refine x_iload X dL_build_124 6 rfl ?_
          refine x_iald X E.1.1 30 rfl dL_build_126 hf (fun x21 hf => ?_)
          refine x_aload X dL_build_127 5 rfl ?_
          refine x_iload X dL_build_129 6 rfl ?_
          refine x_iald X E.1.1 31 rfl dL_build_131 hf (fun x22 hf => ?_)
          obtain ⟨x23, w24, hx23, hf⟩ := bxn2_some hf
          refine x_callVs_i X E (As := [.int x20, .int x21, .int x22]) (rest := []) (n := 3) (u := picC kA ad w) (u2 := picC kA ad w24) [] (picB kA al f19) rfl (goodV w_5242 w_382 w_383 w_47 w_384) (met_X3_addRoad l E.2.2.2 D kA ad fu w x20 x21 x22 x23 w24 hx23) rfl rfl (by decide +kernel) ⟨Nat.le_of_ble_eq_true rfl, Nat.le_of_ble_eq_true rfl⟩ 0 rfl (qc := (RX3, TX3, _)) rfl rfl rfl rfl (Nat.le_of_ble_eq_true rfl) dL_build_132 ⟨by decide, by decide⟩ (picC kA ad w24 ++ picB kA al f19) rfl ?_
          refine x_iload X dL_build_135 6 rfl ?_
          refine x_icmp_eq X (tgt := 142) dL_build_137 (by decide) hf (fun hf => ?_) (fun hf => ?_)
          · refine x_iinc X dL_build_142 6 rfl (by decide) (y5 + 1) rfl hf (fun x25 => [(5, .int x25), (6, .int x1), (0, .ref (ad 0)), (1, .ref b), (2, .ref (al 0)), (3, .ref (al 1)), (4, .ref (al 2))]) (fun _ => rfl) (fun x25 hf => ?_)
            refine x_goto X (tgt := 29) dL_build_145 (by decide) ?_
            cases hf
            refine x_lpick (lv2 := [(0, .ref (ad 0)), (1, .ref b), (2, .ref (al 0)), (3, .ref (al 1)), (4, .ref (al 2)), (5, .int x25)]) [2, 3, 4, 5, 6, 0] rfl ?_
            exact ih _ _ _ _ hit kk
          · cases hf
            cases hit
            refine x_lpick (lv2 := []) [] rfl ?_
            exact kk.1 _ rfl
      · refine x_iload X dL_build_53 6 rfl ?_
        refine x_goto X (tgt := 64) dL_build_55 (by decide) ?_
        refine x_iast X E.1.1 29 rfl dL_build_64 hf (fun f => picC kA ad w ++ picB kA al f) rfl (fun f26 hf => ?_)
        refine x_aload_n X dL_build_65 4 rfl ?_
        refine x_iload X dL_build_66 6 rfl ?_
        refine x_iload X dL_build_68 6 rfl ?_
        refine x_iconst X (v := 5) dL_build_70 (by decide) ?_
        refine x_icmp_ge X (tgt := 83) dL_build_71 (by decide) hf (fun hf => ?_) (fun hf => ?_)
        · refine x_aload_n X dL_build_83 3 rfl ?_
          refine x_iload X dL_build_84 6 rfl ?_
          refine x_iald X E.1.1 29 rfl dL_build_86 hf (fun x27 hf => ?_)
          refine x_iconst X (v := 1) dL_build_87 (by decide) ?_
          refine x_iadd X dL_build_88 ?_
          refine x_iload X dL_build_89 0 rfl ?_
          refine x_iconst X (v := 4) dL_build_91 (by decide) ?_
          refine x_ishr X dL_build_92 ?_
          refine x_iconst X (v := 4) dL_build_93 (by decide) ?_
          obtain ⟨x28, hx28, hf⟩ := bn_some hf
          refine x_callS_i X (As := [.int (x1 >>> ((4 : Int32) &&& 31)), .int 4]) (rest := [.int (x27 + 1), .int y5, .ref (al 1)]) (n := 2) (goodS w_5238 w_5239 w_46 w_5240) (met_L_below l fu (x1 >>> ((4 : Int32) &&& 31)) (4 : Int32) x28 hx28) rfl rfl (by decide +kernel) ⟨by decide, by decide⟩ rfl rfl (Nat.le_of_ble_eq_true rfl) dL_build_94 ⟨by decide, by decide⟩ ?_
          refine x_iadd X dL_build_97 ?_
          refine x_iconst X (v := 5) dL_build_98 (by decide) ?_
          refine x_irem X dL_build_99 hf (fun x29 hf => ?_)
          refine x_iast X E.1.1 30 rfl dL_build_100 hf (fun f => picC kA ad w ++ picB kA al f) rfl (fun f30 hf => ?_)
          refine x_aload X dL_build_101 5 rfl ?_
          refine x_iload X dL_build_103 6 rfl ?_
          refine x_iconst X (v := 1) dL_build_105 (by decide) ?_
          refine x_iload X dL_build_106 0 rfl ?_
          refine x_bipush X (v := 8) dL_build_108 (by decide) ?_
          refine x_ishr X dL_build_110 ?_
          refine x_bipush X (v := 6) dL_build_111 (by decide) ?_
          obtain ⟨x31, hx31, hf⟩ := bn_some hf
          refine x_callS_i X (As := [.int (x1 >>> ((8 : Int32) &&& 31)), .int 6]) (rest := [.int 1, .int y5, .ref (al 2)]) (n := 2) (goodS w_5238 w_5239 w_46 w_5240) (met_L_below l fu (x1 >>> ((8 : Int32) &&& 31)) (6 : Int32) x31 hx31) rfl rfl (by decide +kernel) ⟨by decide, by decide⟩ rfl rfl (Nat.le_of_ble_eq_true rfl) dL_build_113 ⟨by decide, by decide⟩ ?_
          refine x_iadd X dL_build_116 ?_
          refine x_iast X E.1.1 31 rfl dL_build_117 hf (fun f => picC kA ad w ++ picB kA al f) rfl (fun f32 hf => ?_)
          refine x_aload_n X dL_build_118 1 rfl ?_
          refine x_aload_n X dL_build_119 3 rfl ?_
          refine x_iload X dL_build_120 6 rfl ?_
          refine x_iald X E.1.1 29 rfl dL_build_122 hf (fun x33 hf => ?_)
          refine x_aload_n X dL_build_123 4 rfl ?_
          refine x_iload X dL_build_124 6 rfl ?_
          refine x_iald X E.1.1 30 rfl dL_build_126 hf (fun x34 hf => ?_)
          refine x_aload X dL_build_127 5 rfl ?_
          refine x_iload X dL_build_129 6 rfl ?_
          refine x_iald X E.1.1 31 rfl dL_build_131 hf (fun x35 hf => ?_)
          obtain ⟨x36, w37, hx36, hf⟩ := bxn2_some hf
          refine x_callVs_i X E (As := [.int x33, .int x34, .int x35]) (rest := []) (n := 3) (u := picC kA ad w) (u2 := picC kA ad w37) [] (picB kA al f32) rfl (goodV w_5242 w_382 w_383 w_47 w_384) (met_X3_addRoad l E.2.2.2 D kA ad fu w x33 x34 x35 x36 w37 hx36) rfl rfl (by decide +kernel) ⟨Nat.le_of_ble_eq_true rfl, Nat.le_of_ble_eq_true rfl⟩ 0 rfl (qc := (RX3, TX3, _)) rfl rfl rfl rfl (Nat.le_of_ble_eq_true rfl) dL_build_132 ⟨by decide, by decide⟩ (picC kA ad w37 ++ picB kA al f32) rfl ?_
          refine x_iload X dL_build_135 6 rfl ?_
          refine x_icmp_eq X (tgt := 142) dL_build_137 (by decide) hf (fun hf => ?_) (fun hf => ?_)
          · refine x_iinc X dL_build_142 6 rfl (by decide) (y5 + 1) rfl hf (fun x38 => [(5, .int x38), (6, .int x1), (0, .ref (ad 0)), (1, .ref b), (2, .ref (al 0)), (3, .ref (al 1)), (4, .ref (al 2))]) (fun _ => rfl) (fun x38 hf => ?_)
            refine x_goto X (tgt := 29) dL_build_145 (by decide) ?_
            cases hf
            refine x_lpick (lv2 := [(0, .ref (ad 0)), (1, .ref b), (2, .ref (al 0)), (3, .ref (al 1)), (4, .ref (al 2)), (5, .int x38)]) [2, 3, 4, 5, 6, 0] rfl ?_
            exact ih _ _ _ _ hit kk
          · cases hf
            cases hit
            refine x_lpick (lv2 := []) [] rfl ?_
            exact kk.1 _ rfl
        · refine x_iload X dL_build_74 6 rfl ?_
          refine x_iconst X (v := 1) dL_build_76 (by decide) ?_
          refine x_iadd X dL_build_77 ?_
          refine x_iconst X (v := 5) dL_build_78 (by decide) ?_
          refine x_irem X dL_build_79 hf (fun x39 hf => ?_)
          refine x_goto X (tgt := 100) dL_build_80 (by decide) ?_
          refine x_iast X E.1.1 30 rfl dL_build_100 hf (fun f => picC kA ad w ++ picB kA al f) rfl (fun f40 hf => ?_)
          refine x_aload X dL_build_101 5 rfl ?_
          refine x_iload X dL_build_103 6 rfl ?_
          refine x_iconst X (v := 1) dL_build_105 (by decide) ?_
          refine x_iload X dL_build_106 0 rfl ?_
          refine x_bipush X (v := 8) dL_build_108 (by decide) ?_
          refine x_ishr X dL_build_110 ?_
          refine x_bipush X (v := 6) dL_build_111 (by decide) ?_
          obtain ⟨x41, hx41, hf⟩ := bn_some hf
          refine x_callS_i X (As := [.int (x1 >>> ((8 : Int32) &&& 31)), .int 6]) (rest := [.int 1, .int y5, .ref (al 2)]) (n := 2) (goodS w_5238 w_5239 w_46 w_5240) (met_L_below l fu (x1 >>> ((8 : Int32) &&& 31)) (6 : Int32) x41 hx41) rfl rfl (by decide +kernel) ⟨by decide, by decide⟩ rfl rfl (Nat.le_of_ble_eq_true rfl) dL_build_113 ⟨by decide, by decide⟩ ?_
          refine x_iadd X dL_build_116 ?_
          refine x_iast X E.1.1 31 rfl dL_build_117 hf (fun f => picC kA ad w ++ picB kA al f) rfl (fun f42 hf => ?_)
          refine x_aload_n X dL_build_118 1 rfl ?_
          refine x_aload_n X dL_build_119 3 rfl ?_
          refine x_iload X dL_build_120 6 rfl ?_
          refine x_iald X E.1.1 29 rfl dL_build_122 hf (fun x43 hf => ?_)
          refine x_aload_n X dL_build_123 4 rfl ?_
          refine x_iload X dL_build_124 6 rfl ?_
          refine x_iald X E.1.1 30 rfl dL_build_126 hf (fun x44 hf => ?_)
          refine x_aload X dL_build_127 5 rfl ?_
          refine x_iload X dL_build_129 6 rfl ?_
          refine x_iald X E.1.1 31 rfl dL_build_131 hf (fun x45 hf => ?_)
          obtain ⟨x46, w47, hx46, hf⟩ := bxn2_some hf
          refine x_callVs_i X E (As := [.int x43, .int x44, .int x45]) (rest := []) (n := 3) (u := picC kA ad w) (u2 := picC kA ad w47) [] (picB kA al f42) rfl (goodV w_5242 w_382 w_383 w_47 w_384) (met_X3_addRoad l E.2.2.2 D kA ad fu w x43 x44 x45 x46 w47 hx46) rfl rfl (by decide +kernel) ⟨Nat.le_of_ble_eq_true rfl, Nat.le_of_ble_eq_true rfl⟩ 0 rfl (qc := (RX3, TX3, _)) rfl rfl rfl rfl (Nat.le_of_ble_eq_true rfl) dL_build_132 ⟨by decide, by decide⟩ (picC kA ad w47 ++ picB kA al f42) rfl ?_
          refine x_iload X dL_build_135 6 rfl ?_
          refine x_icmp_eq X (tgt := 142) dL_build_137 (by decide) hf (fun hf => ?_) (fun hf => ?_)
          · refine x_iinc X dL_build_142 6 rfl (by decide) (y5 + 1) rfl hf (fun x48 => [(5, .int x48), (6, .int x1), (0, .ref (ad 0)), (1, .ref b), (2, .ref (al 0)), (3, .ref (al 1)), (4, .ref (al 2))]) (fun _ => rfl) (fun x48 hf => ?_)
            refine x_goto X (tgt := 29) dL_build_145 (by decide) ?_
            cases hf
            refine x_lpick (lv2 := [(0, .ref (ad 0)), (1, .ref b), (2, .ref (al 0)), (3, .ref (al 1)), (4, .ref (al 2)), (5, .int x48)]) [2, 3, 4, 5, 6, 0] rfl ?_
            exact ih _ _ _ _ hit kk
          · cases hf
            cases hit
            refine x_lpick (lv2 := []) [] rfl ?_
            exact kk.1 _ rfl
set_option maxRecDepth 100000 in
set_option maxHeartbeats 4000000 in
theorem met_L_build (l : Launch) (hst : l.stackTraces = false) (D : va_G) (kA : Nat → ClassId) (ad al : Nat → Nat) (fu : Nat) (b L : Nat) (xs : Nat → Int32) (hL : L ≤ 260) (w : WS) (f : WS)  (v : Int32) (w1 : WS) (f1 : WS) (hf : f_L_build fu L xs w f = some (v, w1, f1)) (sz : Nat) : Met l yL_build (wsY yL_build cL_build 7 (some .boolean)) rm_L_build (va_Pc [.ref (ad 0), .ref b, .ref (al 0), .ref (al 1), .ref (al 2)] (fun U => PreG D kA (picC kA ad w ++ picB kA al f) sz U ∧ va_X b L xs U U.heap ∧ b < U.heap.size ∧ ¬ va_A (picC kA ad w ++ picB kA al f) sz b)) (va_Qi (fun (r : Int32) (_ : Unit) => r = v) (fun _ t => PosG D (va_A (picC kA ad w ++ picB kA al f) sz) (picC kA ad w1 ++ picB kA al f1) t) (va_A (picC kA ad w ++ picB kA al f) sz)) 0 0 (va_A (picC kA ad w ++ picB kA al f) sz) := by
  refine metGx (own := RL) hst (by decide +kernel) rfl (Nat.le_of_ble_eq_true rfl) rfl ?_
  intro p e s m below meth c X hr hlk E hX hbl hbA
  unfold f_L_build at hf
  refine x_iconst X (v := 0) dL_build_0 (by decide) ?_
  refine x_istore X (lv2 := [(5, .int 0), (0, .ref (ad 0)), (1, .ref b), (2, .ref (al 0)), (3, .ref (al 1)), (4, .ref (al 2))]) dL_build_1 (by decide) rfl ?_
  refine x_lpick (lv2 := [(0, .ref (ad 0)), (1, .ref b), (2, .ref (al 0)), (3, .ref (al 1)), (4, .ref (al 2)), (5, .int 0)]) [1, 2, 3, 4, 5, 0] rfl ?_
  obtain ⟨o1, h2, hf, hg⟩ := bx_one hf
  refine lp_L_build_3 X E hX hbl hbA hL fu f fu (0 : Int32) w o1 h2 ⟨fun r ho => ?_, fun r ho => ?_⟩
  · have hf := hf _ ho
    refine x_iconst X (v := 0) dL_build_18 (by decide) ?_
    cases hf
  · have hf := hg _ ho
    refine x_iconst X (v := 0) dL_build_26 (by decide) ?_
    refine x_istore X (lv2 := [(5, .int 0), (0, .ref (ad 0)), (1, .ref b), (2, .ref (al 0)), (3, .ref (al 1)), (4, .ref (al 2))]) dL_build_27 (by decide) rfl ?_
    refine x_lpick (lv2 := [(0, .ref (ad 0)), (1, .ref b), (2, .ref (al 0)), (3, .ref (al 1)), (4, .ref (al 2)), (5, .int 0)]) [1, 2, 3, 4, 5, 0] rfl ?_
    obtain ⟨o5, h6, hf, hg⟩ := bx_one hf
    refine lp_L_build_29 X E hX hbl hbA hL fu  fu (0 : Int32) r f o5 h6 ⟨fun r ho => ?_, fun r ho => ?_⟩
    · have hf := hf _ ho
      refine x_iconst X (v := 0) dL_build_140 (by decide) ?_
      cases hf
    · have hf := hg _ ho
      refine x_iconst X (v := 1) dL_build_148 (by decide) ?_
      cases hf
      exact x_zret X hr hlk rfl (by decide) rfl dL_build_149
end
section
variable {p : Program} {l : Launch} {e : Env} {s : State} {m : MethodId} {args : Array Value} {below : List Frame} {meth : Method} {c : Code} {D : va_G} {kA : Nat → ClassId} {A : Nat → Prop} {Q : State → Prop} {ad al : Nat → Nat} {b L : Nat} {xs : Nat → Int32}
abbrev rm_L_penalty : Room := { frames := 0, cells := 0, slots := 0, locals := 0 }
set_option maxRecDepth 100000 in
set_option maxHeartbeats 4000000 in
theorem met_L_penalty (l : Launch) (hst : l.stackTraces = false) (D : va_G) (kA : Nat → ClassId) (ad al : Nat → Nat) (fu : Nat) (w : WS) (f : WS) (a3 : Int32) (a4 : Int32) (a5 : Int32) (v : Int32) (hf : f_L_penalty fu w f a3 a4 a5 = some (v)) (sz : Nat) : Met l yL_penalty (wsY yL_penalty cL_penalty 7 (some .int)) rm_L_penalty (va_Pc [.ref (al 0), .ref (al 1), .ref (al 3), .int a3, .int a4, .int a5] (PreG D kA (picC kA ad w ++ picL kA al f) sz)) (va_Qi (fun (r : Int32) (_ : Unit) => r = v) (fun _ t => PosG D (va_A (picC kA ad w ++ picL kA al f) sz) (picC kA ad w ++ picL kA al f) t) (va_A (picC kA ad w ++ picL kA al f) sz)) 0 0 (va_A (picC kA ad w ++ picL kA al f) sz) := by
  refine metG (own := RL) hst (by decide +kernel) rfl (Nat.le_of_ble_eq_true rfl) rfl ?_
  intro p e s m below meth c X hr hlk E _
  unfold f_L_penalty at hf
  refine x_aload_n X dL_penalty_0 2 rfl ?_
  refine x_bipush X (v := 9) dL_penalty_1 (by decide) ?_
  refine x_iload X dL_penalty_3 4 rfl ?_
  refine x_imul X dL_penalty_5 ?_
  refine x_iload X dL_penalty_6 5 rfl ?_
  refine x_iadd X dL_penalty_8 ?_
  refine x_iald X E.1.1 32 rfl dL_penalty_9 hf (fun x1 hf => ?_)
  refine x_istore X (lv2 := [(6, .int x1), (0, .ref (al 0)), (1, .ref (al 1)), (2, .ref (al 3)), (3, .int a3), (4, .int a4), (5, .int a5)]) dL_penalty_10 (by decide) rfl ?_
  refine x_iload X dL_penalty_12 0 rfl ?_
  refine x_bipush X (v := (-2)) dL_penalty_14 (by decide) ?_
  refine x_icmp_eq X (tgt := 24) dL_penalty_16 (by decide) hf (fun hf => ?_) (fun hf => ?_)
  · refine x_aload_n X dL_penalty_24 2 rfl ?_
    refine x_iload X dL_penalty_25 6 rfl ?_
    refine x_iald X E.1.1 30 rfl dL_penalty_27 hf (fun x2 hf => ?_)
    refine x_aload_n X dL_penalty_28 1 rfl ?_
    refine x_iload X dL_penalty_29 5 rfl ?_
    refine x_iald X E.1.1 29 rfl dL_penalty_31 hf (fun x3 hf => ?_)
    refine x_icmp_ne X (tgt := 39) dL_penalty_32 (by decide) hf (fun hf => ?_) (fun hf => ?_)
    · refine x_iconst X (v := 0) dL_penalty_39 (by decide) ?_
      cases hf
      exact x_iret X hr hlk rfl rfl dL_penalty_40
    · refine x_iload_n X dL_penalty_35 4 rfl ?_
      refine x_goto X (tgt := 40) dL_penalty_36 (by decide) ?_
      cases hf
      exact x_iret X hr hlk rfl rfl dL_penalty_40
  · refine x_iload X dL_penalty_19 0 rfl ?_
    refine x_goto X (tgt := 40) dL_penalty_21 (by decide) ?_
    cases hf
    exact x_iret X hr hlk rfl rfl dL_penalty_40
end
section
variable {p : Program} {l : Launch} {e : Env} {s : State} {m : MethodId} {args : Array Value} {below : List Frame} {meth : Method} {c : Code} {D : va_G} {kA : Nat → ClassId} {A : Nat → Prop} {Q : State → Prop} {ad al : Nat → Nat} {b L : Nat} {xs : Nat → Int32}
abbrev rm_L_find : Room := { frames := 1, cells := 0, slots := 0, locals := 26 }
set_option maxRecDepth 100000 in
set_option maxHeartbeats 4000000 in
theorem lp_L_find_3 (X : CX p m c cL_find 11 s args RL) (E : EX l s D kA A) (fu : Nat) (w : WS) (y5 : Int32) (y6 : Int32) : ∀ (n : Nat) (y8 : Int32) (f : WS) (rf : WS), iter (fun q => bd_L_find_3 fu w y5 y6 q.1 q.2) n (y8, f) = some (rf) → CS p l e rm_L_find s m args below meth c D A 11 0 0 Q ((picC kA ad w) ++ picL kA al rf) 46 [(0, .ref (al 0)), (1, .ref (al 1)), (2, .ref (al 2)), (3, .ref (al 4)), (4, .ref (al 3)), (5, .int y5), (7, .ref (al 8))] [] → CS p l e rm_L_find s m args below meth c D A 11 0 0 Q ((picC kA ad w) ++ picL kA al f) 3 [(0, .ref (al 0)), (1, .ref (al 1)), (2, .ref (al 2)), (3, .ref (al 4)), (4, .ref (al 3)), (5, .int y5), (6, .int y6), (7, .ref (al 8)), (8, .int y8)] [] := by
  intro n
  induction n with
  | zero =>
    intro y8 f rf hit kk
    exact (iter_0 hit).elim
  | succ n ih =>
    intro y8 f rf hit kk
    obtain ⟨o, h1, hit⟩ := iter_one hit
    have hf : bd_L_find_3 fu w y5 y6 y8 f = some o := h1
    unfold bd_L_find_3 at hf
    refine x_iload X dL_find_3 8 rfl ?_
    refine x_bipush X (v := 9) dL_find_5 (by decide) ?_
    refine x_icmp_ge X (tgt := 46) dL_find_7 (by decide) hf (fun hf => ?_) (fun hf => ?_)
    · cases hf
      cases hit
      refine x_lpick (lv2 := [(0, .ref (al 0)), (1, .ref (al 1)), (2, .ref (al 2)), (3, .ref (al 4)), (4, .ref (al 3)), (5, .int y5), (7, .ref (al 8))]) [0, 1, 2, 3, 4, 5, 7] rfl ?_
      exact kk
    · refine x_aload X dL_find_10 7 rfl ?_
      refine x_iload X dL_find_12 8 rfl ?_
      refine x_aload_n X dL_find_14 3 rfl ?_
      refine x_iload X dL_find_15 8 rfl ?_
      refine x_zald X E.1.1 33 rfl dL_find_17 hf (fun x1 hf => ?_)
      refine x_if_eq X (tgt := 37) dL_find_18 (by decide) hf (fun hf => ?_) (fun hf => ?_)
      · refine x_ldc X (v := 1000000) w_5246 dL_find_37 ?_
        refine x_iast X E.1.1 37 rfl dL_find_39 hf (fun f => picC kA ad w ++ picL kA al f) rfl (fun f2 hf => ?_)
        refine x_iinc X dL_find_40 8 rfl (by decide) (y8 + 1) rfl hf (fun x3 => [(8, .int x3), (0, .ref (al 0)), (1, .ref (al 1)), (2, .ref (al 2)), (3, .ref (al 4)), (4, .ref (al 3)), (5, .int y5), (6, .int y6), (7, .ref (al 8))]) (fun _ => rfl) (fun x3 hf => ?_)
        refine x_goto X (tgt := 3) dL_find_43 (by decide) ?_
        cases hf
        refine x_lpick (lv2 := [(0, .ref (al 0)), (1, .ref (al 1)), (2, .ref (al 2)), (3, .ref (al 4)), (4, .ref (al 3)), (5, .int y5), (6, .int y6), (7, .ref (al 8)), (8, .int x3)]) [1, 2, 3, 4, 5, 6, 7, 8, 0] rfl ?_
        exact ih _ _ _ hit kk
      · refine x_aload_n X dL_find_21 1 rfl ?_
        refine x_iload X dL_find_22 8 rfl ?_
        refine x_iald X E.1.1 30 rfl dL_find_24 hf (fun x4 hf => ?_)
        refine x_iload X dL_find_25 6 rfl ?_
        refine x_icmp_ne X (tgt := 37) dL_find_27 (by decide) hf (fun hf => ?_) (fun hf => ?_)
        · refine x_ldc X (v := 1000000) w_5246 dL_find_37 ?_
          refine x_iast X E.1.1 37 rfl dL_find_39 hf (fun f => picC kA ad w ++ picL kA al f) rfl (fun f5 hf => ?_)
          refine x_iinc X dL_find_40 8 rfl (by decide) (y8 + 1) rfl hf (fun x6 => [(8, .int x6), (0, .ref (al 0)), (1, .ref (al 1)), (2, .ref (al 2)), (3, .ref (al 4)), (4, .ref (al 3)), (5, .int y5), (6, .int y6), (7, .ref (al 8))]) (fun _ => rfl) (fun x6 hf => ?_)
          refine x_goto X (tgt := 3) dL_find_43 (by decide) ?_
          cases hf
          refine x_lpick (lv2 := [(0, .ref (al 0)), (1, .ref (al 1)), (2, .ref (al 2)), (3, .ref (al 4)), (4, .ref (al 3)), (5, .int y5), (6, .int y6), (7, .ref (al 8)), (8, .int x6)]) [1, 2, 3, 4, 5, 6, 7, 8, 0] rfl ?_
          exact ih _ _ _ hit kk
        · refine x_aload_n X dL_find_30 2 rfl ?_
          refine x_iload X dL_find_31 8 rfl ?_
          refine x_iald X E.1.1 31 rfl dL_find_33 hf (fun x7 hf => ?_)
          refine x_goto X (tgt := 39) dL_find_34 (by decide) ?_
          refine x_iast X E.1.1 37 rfl dL_find_39 hf (fun f => picC kA ad w ++ picL kA al f) rfl (fun f8 hf => ?_)
          refine x_iinc X dL_find_40 8 rfl (by decide) (y8 + 1) rfl hf (fun x9 => [(8, .int x9), (0, .ref (al 0)), (1, .ref (al 1)), (2, .ref (al 2)), (3, .ref (al 4)), (4, .ref (al 3)), (5, .int y5), (6, .int y6), (7, .ref (al 8))]) (fun _ => rfl) (fun x9 hf => ?_)
          refine x_goto X (tgt := 3) dL_find_43 (by decide) ?_
          cases hf
          refine x_lpick (lv2 := [(0, .ref (al 0)), (1, .ref (al 1)), (2, .ref (al 2)), (3, .ref (al 4)), (4, .ref (al 3)), (5, .int y5), (6, .int y6), (7, .ref (al 8)), (8, .int x9)]) [1, 2, 3, 4, 5, 6, 7, 8, 0] rfl ?_
          exact ih _ _ _ hit kk
set_option maxRecDepth 100000 in
set_option maxHeartbeats 4000000 in
theorem lp_L_find_69 (X : CX p m c cL_find 11 s args RL) (E : EX l s D kA A) (fu : Nat) (w : WS) (y5 : Int32) (y8 : Int32) (y9 : Int32) : ∀ (n : Nat) (y10 : Int32) (f : WS) (rf : WS), iter (fun q => bd_L_find_69 fu w y5 y8 y9 q.1 q.2) n (y10, f) = some (rf) → CS p l e rm_L_find s m args below meth c D A 11 0 0 Q ((picC kA ad w) ++ picL kA al rf) 156 [(0, .ref (al 0)), (1, .ref (al 1)), (2, .ref (al 2)), (3, .ref (al 4)), (4, .ref (al 3)), (5, .int y5), (7, .ref (al 8)), (8, .int y8), (9, .int y9)] [] → CS p l e rm_L_find s m args below meth c D A 11 0 0 Q ((picC kA ad w) ++ picL kA al f) 69 [(0, .ref (al 0)), (1, .ref (al 1)), (2, .ref (al 2)), (3, .ref (al 4)), (4, .ref (al 3)), (5, .int y5), (7, .ref (al 8)), (8, .int y8), (9, .int y9), (10, .int y10)] [] := by
  intro n
  induction n with
  | zero =>
    intro y10 f rf hit kk
    exact (iter_0 hit).elim
  | succ n ih =>
    intro y10 f rf hit kk
    obtain ⟨o, h1, hit⟩ := iter_one hit
    have hf : bd_L_find_69 fu w y5 y8 y9 y10 f = some o := h1
    unfold bd_L_find_69 at hf
    refine x_iload X dL_find_69 9 rfl ?_
    refine x_bipush X (v := 9) dL_find_71 (by decide) ?_
    refine x_icmp_ge X (tgt := 156) dL_find_73 (by decide) hf (fun hf => ?_) (fun hf => ?_)
    · cases hf
      cases hit
      refine x_lpick (lv2 := [(0, .ref (al 0)), (1, .ref (al 1)), (2, .ref (al 2)), (3, .ref (al 4)), (4, .ref (al 3)), (5, .int y5), (7, .ref (al 8)), (8, .int y8), (9, .int y9)]) [0, 1, 2, 3, 4, 5, 6, 7, 8] rfl ?_
      exact kk
    · refine x_aload_n X dL_find_76 3 rfl ?_
      refine x_iload X dL_find_77 8 rfl ?_
      refine x_zald X E.1.1 33 rfl dL_find_79 hf (fun x1 hf => ?_)
      refine x_if_eq X (tgt := 150) dL_find_80 (by decide) hf (fun hf => ?_) (fun hf => ?_)
      · refine x_iinc X dL_find_150 9 rfl (by decide) (y10 + 1) rfl hf (fun x2 => [(10, .int x2), (0, .ref (al 0)), (1, .ref (al 1)), (2, .ref (al 2)), (3, .ref (al 4)), (4, .ref (al 3)), (5, .int y5), (7, .ref (al 8)), (8, .int y8), (9, .int y9)]) (fun _ => rfl) (fun x2 hf => ?_)
        refine x_goto X (tgt := 69) dL_find_153 (by decide) ?_
        cases hf
        refine x_lpick (lv2 := [(0, .ref (al 0)), (1, .ref (al 1)), (2, .ref (al 2)), (3, .ref (al 4)), (4, .ref (al 3)), (5, .int y5), (7, .ref (al 8)), (8, .int y8), (9, .int y9), (10, .int x2)]) [1, 2, 3, 4, 5, 6, 7, 8, 9, 0] rfl ?_
        exact ih _ _ _ hit kk
      · refine x_aload_n X dL_find_83 1 rfl ?_
        refine x_iload X dL_find_84 8 rfl ?_
        refine x_iald X E.1.1 30 rfl dL_find_86 hf (fun x3 hf => ?_)
        refine x_aload_n X dL_find_87 0 rfl ?_
        refine x_iload X dL_find_88 9 rfl ?_
        refine x_iald X E.1.1 29 rfl dL_find_90 hf (fun x4 hf => ?_)
        refine x_icmp_ne X (tgt := 150) dL_find_91 (by decide) hf (fun hf => ?_) (fun hf => ?_)
        · refine x_iinc X dL_find_150 9 rfl (by decide) (y10 + 1) rfl hf (fun x5 => [(10, .int x5), (0, .ref (al 0)), (1, .ref (al 1)), (2, .ref (al 2)), (3, .ref (al 4)), (4, .ref (al 3)), (5, .int y5), (7, .ref (al 8)), (8, .int y8), (9, .int y9)]) (fun _ => rfl) (fun x5 hf => ?_)
          refine x_goto X (tgt := 69) dL_find_153 (by decide) ?_
          cases hf
          refine x_lpick (lv2 := [(0, .ref (al 0)), (1, .ref (al 1)), (2, .ref (al 2)), (3, .ref (al 4)), (4, .ref (al 3)), (5, .int y5), (7, .ref (al 8)), (8, .int y8), (9, .int y9), (10, .int x5)]) [1, 2, 3, 4, 5, 6, 7, 8, 9, 0] rfl ?_
          exact ih _ _ _ hit kk
        · refine x_aload_n X dL_find_94 0 rfl ?_
          refine x_aload_n X dL_find_95 1 rfl ?_
          refine x_aload X dL_find_96 4 rfl ?_
          refine x_iload X dL_find_98 5 rfl ?_
          refine x_iload X dL_find_100 8 rfl ?_
          refine x_iload X dL_find_102 9 rfl ?_
          obtain ⟨x6, h7, hf⟩ := bn_some hf
          refine x_callSw_i X E (As := [.ref (al 0), .ref (al 1), .ref (al 3), .int y5, .int y9, .int y10]) (rest := []) (n := 6) (ws2 := picC kA ad w ++ picL kA al f) (goodS w_5247 w_5248 w_46 w_5249) (fun sz => (met_L_penalty l E.2.2.2 D kA ad al fu w f y5 y9 y10 x6 h7) sz) rfl rfl (by decide +kernel) ⟨Nat.le_of_ble_eq_true rfl, Nat.le_of_ble_eq_true rfl⟩ rfl rfl (Nat.le_of_ble_eq_true rfl) dL_find_104 ⟨Nat.le_of_ble_eq_true rfl, Nat.le_of_ble_eq_true rfl⟩ ?_
          refine x_if_ge X (tgt := 113) dL_find_107 (by decide) hf (fun hf => ?_) (fun hf => ?_)
          · refine x_aload X dL_find_113 6 rfl ?_
            refine x_iload X dL_find_115 8 rfl ?_
            refine x_aload X dL_find_117 6 rfl ?_
            refine x_iload X dL_find_119 8 rfl ?_
            refine x_iald X E.1.1 37 rfl dL_find_121 hf (fun x8 hf => ?_)
            refine x_aload_n X dL_find_122 2 rfl ?_
            refine x_iload X dL_find_123 8 rfl ?_
            refine x_iald X E.1.1 31 rfl dL_find_125 hf (fun x9 hf => ?_)
            refine x_aload_n X dL_find_126 0 rfl ?_
            refine x_aload_n X dL_find_127 1 rfl ?_
            refine x_aload X dL_find_128 4 rfl ?_
            refine x_iload X dL_find_130 5 rfl ?_
            refine x_iload X dL_find_132 8 rfl ?_
            refine x_iload X dL_find_134 9 rfl ?_
            obtain ⟨x10, h11, hf⟩ := bn_some hf
            refine x_callSw_i X E (As := [.ref (al 0), .ref (al 1), .ref (al 3), .int y5, .int y9, .int y10]) (rest := [.int x9, .int x8, .int y9, .ref (al 8)]) (n := 6) (ws2 := picC kA ad w ++ picL kA al f) (goodS w_5247 w_5248 w_46 w_5249) (fun sz => (met_L_penalty l E.2.2.2 D kA ad al fu w f y5 y9 y10 x10 h11) sz) rfl rfl (by decide +kernel) ⟨Nat.le_of_ble_eq_true rfl, Nat.le_of_ble_eq_true rfl⟩ rfl rfl (Nat.le_of_ble_eq_true rfl) dL_find_136 ⟨Nat.le_of_ble_eq_true rfl, Nat.le_of_ble_eq_true rfl⟩ ?_
            refine x_iadd X dL_find_139 ?_
            refine x_aload X dL_find_140 6 rfl ?_
            refine x_iload X dL_find_142 9 rfl ?_
            refine x_iald X E.1.1 37 rfl dL_find_144 hf (fun x12 hf => ?_)
            refine x_iadd X dL_find_145 ?_
            refine x_mmin X w_5250 w_496 w_62 w_497 (by decide) (Nat.le_of_ble_eq_true rfl) (by decide) (by decide) dL_find_146 ?_
            refine x_iast X E.1.1 37 rfl dL_find_149 hf (fun f => picC kA ad w ++ picL kA al f) rfl (fun f13 hf => ?_)
            refine x_iinc X dL_find_150 9 rfl (by decide) (y10 + 1) rfl hf (fun x14 => [(10, .int x14), (0, .ref (al 0)), (1, .ref (al 1)), (2, .ref (al 2)), (3, .ref (al 4)), (4, .ref (al 3)), (5, .int y5), (7, .ref (al 8)), (8, .int y8), (9, .int y9)]) (fun _ => rfl) (fun x14 hf => ?_)
            refine x_goto X (tgt := 69) dL_find_153 (by decide) ?_
            cases hf
            refine x_lpick (lv2 := [(0, .ref (al 0)), (1, .ref (al 1)), (2, .ref (al 2)), (3, .ref (al 4)), (4, .ref (al 3)), (5, .int y5), (7, .ref (al 8)), (8, .int y8), (9, .int y9), (10, .int x14)]) [1, 2, 3, 4, 5, 6, 7, 8, 9, 0] rfl ?_
            exact ih _ _ _ hit kk
          · refine x_goto X (tgt := 150) dL_find_110 (by decide) ?_
            refine x_iinc X dL_find_150 9 rfl (by decide) (y10 + 1) rfl hf (fun x15 => [(10, .int x15), (0, .ref (al 0)), (1, .ref (al 1)), (2, .ref (al 2)), (3, .ref (al 4)), (4, .ref (al 3)), (5, .int y5), (7, .ref (al 8)), (8, .int y8), (9, .int y9)]) (fun _ => rfl) (fun x15 hf => ?_)
            refine x_goto X (tgt := 69) dL_find_153 (by decide) ?_
            cases hf
            refine x_lpick (lv2 := [(0, .ref (al 0)), (1, .ref (al 1)), (2, .ref (al 2)), (3, .ref (al 4)), (4, .ref (al 3)), (5, .int y5), (7, .ref (al 8)), (8, .int y8), (9, .int y9), (10, .int x15)]) [1, 2, 3, 4, 5, 6, 7, 8, 9, 0] rfl ?_
            exact ih _ _ _ hit kk
set_option maxRecDepth 100000 in
set_option maxHeartbeats 4000000 in
theorem lp_L_find_59 (X : CX p m c cL_find 11 s args RL) (E : EX l s D kA A) (fu : Nat) (w : WS) (y5 : Int32) (y8 : Int32) : ∀ (n : Nat) (y9 : Int32) (f : WS) (rf : WS), iter (fun q => bd_L_find_59 fu w y5 y8 q.1 q.2) n (y9, f) = some (rf) → CS p l e rm_L_find s m args below meth c D A 11 0 0 Q ((picC kA ad w) ++ picL kA al rf) 162 [(0, .ref (al 0)), (1, .ref (al 1)), (2, .ref (al 2)), (3, .ref (al 4)), (4, .ref (al 3)), (5, .int y5), (7, .ref (al 8)), (8, .int y8)] [] → CS p l e rm_L_find s m args below meth c D A 11 0 0 Q ((picC kA ad w) ++ picL kA al f) 59 [(0, .ref (al 0)), (1, .ref (al 1)), (2, .ref (al 2)), (3, .ref (al 4)), (4, .ref (al 3)), (5, .int y5), (7, .ref (al 8)), (8, .int y8), (9, .int y9)] [] := by
  intro n
  induction n with
  | zero =>
    intro y9 f rf hit kk
    exact (iter_0 hit).elim
  | succ n ih =>
    intro y9 f rf hit kk
    obtain ⟨o, h1, hit⟩ := iter_one hit
    have hf : bd_L_find_59 fu w y5 y8 y9 f = some o := h1
    unfold bd_L_find_59 at hf
    refine x_iload X dL_find_59 8 rfl ?_
    refine x_bipush X (v := 9) dL_find_61 (by decide) ?_
    refine x_icmp_ge X (tgt := 162) dL_find_63 (by decide) hf (fun hf => ?_) (fun hf => ?_)
    · cases hf
      cases hit
      refine x_lpick (lv2 := [(0, .ref (al 0)), (1, .ref (al 1)), (2, .ref (al 2)), (3, .ref (al 4)), (4, .ref (al 3)), (5, .int y5), (7, .ref (al 8)), (8, .int y8)]) [0, 1, 2, 3, 4, 5, 6, 7] rfl ?_
      exact kk
    · refine x_iconst X (v := 0) dL_find_66 (by decide) ?_
      refine x_istore X (lv2 := [(10, .int 0), (0, .ref (al 0)), (1, .ref (al 1)), (2, .ref (al 2)), (3, .ref (al 4)), (4, .ref (al 3)), (5, .int y5), (7, .ref (al 8)), (8, .int y8), (9, .int y9)]) dL_find_67 (by decide) rfl ?_
      refine x_lpick (lv2 := [(0, .ref (al 0)), (1, .ref (al 1)), (2, .ref (al 2)), (3, .ref (al 4)), (4, .ref (al 3)), (5, .int y5), (7, .ref (al 8)), (8, .int y8), (9, .int y9), (10, .int 0)]) [1, 2, 3, 4, 5, 6, 7, 8, 9, 0] rfl ?_
      obtain ⟨f1, h2, hf⟩ := bn_some hf
      refine lp_L_find_69 X E fu w y5 y8 y9 fu (0 : Int32) f f1 h2 ?_
      refine x_iinc X dL_find_156 8 rfl (by decide) (y9 + 1) rfl hf (fun x3 => [(9, .int x3), (0, .ref (al 0)), (1, .ref (al 1)), (2, .ref (al 2)), (3, .ref (al 4)), (4, .ref (al 3)), (5, .int y5), (7, .ref (al 8)), (8, .int y8)]) (fun _ => rfl) (fun x3 hf => ?_)
      refine x_goto X (tgt := 59) dL_find_159 (by decide) ?_
      cases hf
      refine x_lpick (lv2 := [(0, .ref (al 0)), (1, .ref (al 1)), (2, .ref (al 2)), (3, .ref (al 4)), (4, .ref (al 3)), (5, .int y5), (7, .ref (al 8)), (8, .int y8), (9, .int x3)]) [1, 2, 3, 4, 5, 6, 7, 8, 0] rfl ?_
      exact ih _ _ _ hit kk
set_option maxRecDepth 100000 in
set_option maxHeartbeats 4000000 in
theorem lp_L_find_49 (X : CX p m c cL_find 11 s args RL) (E : EX l s D kA A) (fu : Nat) (w : WS) (y5 : Int32) : ∀ (n : Nat) (y8 : Int32) (f : WS) (rf : WS), iter (fun q => bd_L_find_49 fu w y5 q.1 q.2) n (y8, f) = some (rf) → CS p l e rm_L_find s m args below meth c D A 11 0 0 Q ((picC kA ad w) ++ picL kA al rf) 168 [] [] → CS p l e rm_L_find s m args below meth c D A 11 0 0 Q ((picC kA ad w) ++ picL kA al f) 49 [(0, .ref (al 0)), (1, .ref (al 1)), (2, .ref (al 2)), (3, .ref (al 4)), (4, .ref (al 3)), (5, .int y5), (7, .ref (al 8)), (8, .int y8)] [] := by
  intro n
  induction n with
  | zero =>
    intro y8 f rf hit kk
    exact (iter_0 hit).elim
  | succ n ih =>
    intro y8 f rf hit kk
    obtain ⟨o, h1, hit⟩ := iter_one hit
    have hf : bd_L_find_49 fu w y5 y8 f = some o := h1
    unfold bd_L_find_49 at hf
    refine x_iload X dL_find_49 7 rfl ?_
    refine x_bipush X (v := 9) dL_find_51 (by decide) ?_
    refine x_icmp_ge X (tgt := 168) dL_find_53 (by decide) hf (fun hf => ?_) (fun hf => ?_)
    · cases hf
      cases hit
      refine x_lpick (lv2 := []) [] rfl ?_
      exact kk
    · refine x_iconst X (v := 0) dL_find_56 (by decide) ?_
      refine x_istore X (lv2 := [(9, .int 0), (0, .ref (al 0)), (1, .ref (al 1)), (2, .ref (al 2)), (3, .ref (al 4)), (4, .ref (al 3)), (5, .int y5), (7, .ref (al 8)), (8, .int y8)]) dL_find_57 (by decide) rfl ?_
      refine x_lpick (lv2 := [(0, .ref (al 0)), (1, .ref (al 1)), (2, .ref (al 2)), (3, .ref (al 4)), (4, .ref (al 3)), (5, .int y5), (7, .ref (al 8)), (8, .int y8), (9, .int 0)]) [1, 2, 3, 4, 5, 6, 7, 8, 0] rfl ?_
      obtain ⟨f1, h2, hf⟩ := bn_some hf
      refine lp_L_find_59 X E fu w y5 y8 fu (0 : Int32) f f1 h2 ?_
      refine x_iinc X dL_find_162 7 rfl (by decide) (y8 + 1) rfl hf (fun x3 => [(8, .int x3), (0, .ref (al 0)), (1, .ref (al 1)), (2, .ref (al 2)), (3, .ref (al 4)), (4, .ref (al 3)), (5, .int y5), (7, .ref (al 8))]) (fun _ => rfl) (fun x3 hf => ?_)
      refine x_goto X (tgt := 49) dL_find_165 (by decide) ?_
      cases hf
      refine x_lpick (lv2 := [(0, .ref (al 0)), (1, .ref (al 1)), (2, .ref (al 2)), (3, .ref (al 4)), (4, .ref (al 3)), (5, .int y5), (7, .ref (al 8)), (8, .int x3)]) [1, 2, 3, 4, 5, 6, 7, 0] rfl ?_
      exact ih _ _ _ hit kk
set_option maxRecDepth 100000 in
set_option maxHeartbeats 4000000 in
theorem met_L_find (l : Launch) (hst : l.stackTraces = false) (D : va_G) (kA : Nat → ClassId) (ad al : Nat → Nat) (fu : Nat) (w : WS) (f : WS) (a5 : Int32) (a6 : Int32) (f1 : WS) (hf : f_L_find fu w f a5 a6 = some (f1)) (sz : Nat) : Met l yL_find (wsY yL_find cL_find 11 none) rm_L_find (va_Pc [.ref (al 0), .ref (al 1), .ref (al 2), .ref (al 4), .ref (al 3), .int a5, .int a6, .ref (al 8)] (PreG D kA (picC kA ad w ++ picL kA al f) sz)) (va_Qv (fun (_ : Unit) => True) (fun _ t => PosG D (va_A (picC kA ad w ++ picL kA al f) sz) (picC kA ad w ++ picL kA al f1) t) (va_A (picC kA ad w ++ picL kA al f) sz)) 0 0 (va_A (picC kA ad w ++ picL kA al f) sz) := by
  refine metG (own := RL) hst (by decide +kernel) rfl (Nat.le_of_ble_eq_true rfl) rfl ?_
  intro p e s m below meth c X hr hlk E _
  unfold f_L_find at hf
  refine x_iconst X (v := 0) dL_find_0 (by decide) ?_
  refine x_istore X (lv2 := [(8, .int 0), (0, .ref (al 0)), (1, .ref (al 1)), (2, .ref (al 2)), (3, .ref (al 4)), (4, .ref (al 3)), (5, .int a5), (6, .int a6), (7, .ref (al 8))]) dL_find_1 (by decide) rfl ?_
  refine x_lpick (lv2 := [(0, .ref (al 0)), (1, .ref (al 1)), (2, .ref (al 2)), (3, .ref (al 4)), (4, .ref (al 3)), (5, .int a5), (6, .int a6), (7, .ref (al 8)), (8, .int 0)]) [1, 2, 3, 4, 5, 6, 7, 8, 0] rfl ?_
  obtain ⟨f1, h2, hf⟩ := bn_some hf
  refine lp_L_find_3 X E fu w a5 a6 fu (0 : Int32) f f1 h2 ?_
  refine x_iconst X (v := 0) dL_find_46 (by decide) ?_
  refine x_istore X (lv2 := [(8, .int 0), (0, .ref (al 0)), (1, .ref (al 1)), (2, .ref (al 2)), (3, .ref (al 4)), (4, .ref (al 3)), (5, .int a5), (7, .ref (al 8))]) dL_find_47 (by decide) rfl ?_
  refine x_lpick (lv2 := [(0, .ref (al 0)), (1, .ref (al 1)), (2, .ref (al 2)), (3, .ref (al 4)), (4, .ref (al 3)), (5, .int a5), (7, .ref (al 8)), (8, .int 0)]) [1, 2, 3, 4, 5, 6, 7, 0] rfl ?_
  obtain ⟨f3, h4, hf⟩ := bn_some hf
  refine lp_L_find_49 X E fu w a5 fu (0 : Int32) f1 f3 h4 ?_
  cases hf
  exact x_vret X hr hlk rfl dL_find_168
end
section
variable {p : Program} {l : Launch} {e : Env} {s : State} {m : MethodId} {args : Array Value} {below : List Frame} {meth : Method} {c : Code} {D : va_G} {kA : Nat → ClassId} {A : Nat → Prop} {Q : State → Prop} {ad al : Nat → Nat} {b L : Nat} {xs : Nat → Int32}
abbrev rm_L_distance : Room := { frames := 1, cells := 0, slots := 0, locals := 21 }
set_option maxRecDepth 100000 in
set_option maxHeartbeats 4000000 in
theorem lp_L_distance_16 (X : CX p m c cL_distance 6 s args RL) (E : EX l s D kA A) (fu : Nat) (w : WS) (f : WS) (y2 : Int32) : ∀ (n : Nat) (y4 : Int32) (y5 : Int32) (r4 : Int32), iter (fun q => bd_L_distance_16 fu w f y2 q.1 q.2) n (y4, y5) = some (r4) → CS p l e rm_L_distance s m args below meth c D A 6 0 0 Q ((picC kA ad w) ++ picL kA al f) 48 [(4, .int r4)] [] → CS p l e rm_L_distance s m args below meth c D A 6 0 0 Q ((picC kA ad w) ++ picL kA al f) 16 [(0, .ref (al 0)), (1, .ref (al 8)), (2, .int y2), (4, .int y4), (5, .int y5)] [] := by
  intro n
  induction n with
  | zero =>
    intro y4 y5 r4 hit kk
    exact (iter_0 hit).elim
  | succ n ih =>
    intro y4 y5 r4 hit kk
    obtain ⟨o, h1, hit⟩ := iter_one hit
    have hf : bd_L_distance_16 fu w f y2 y4 y5 = some o := h1
    unfold bd_L_distance_16 at hf
    refine x_iload X dL_distance_16 4 rfl ?_
    refine x_bipush X (v := 9) dL_distance_18 (by decide) ?_
    refine x_icmp_ge X (tgt := 48) dL_distance_20 (by decide) hf (fun hf => ?_) (fun hf => ?_)
    · cases hf
      cases hit
      refine x_lpick (lv2 := [(4, .int y4)]) [3] rfl ?_
      exact kk
    · refine x_aload_n X dL_distance_23 0 rfl ?_
      refine x_iload X dL_distance_24 4 rfl ?_
      refine x_iald X E.1.1 29 rfl dL_distance_26 hf (fun x1 hf => ?_)
      refine x_iload_n X dL_distance_27 2 rfl ?_
      refine x_icmp_ne X (tgt := 42) dL_distance_28 (by decide) hf (fun hf => ?_) (fun hf => ?_)
      · refine x_iinc X dL_distance_42 4 rfl (by decide) (y5 + 1) rfl hf (fun x2 => [(5, .int x2), (0, .ref (al 0)), (1, .ref (al 8)), (2, .int y2), (4, .int y4)]) (fun _ => rfl) (fun x2 hf => ?_)
        refine x_goto X (tgt := 16) dL_distance_45 (by decide) ?_
        cases hf
        refine x_lpick (lv2 := [(0, .ref (al 0)), (1, .ref (al 8)), (2, .int y2), (4, .int y4), (5, .int x2)]) [1, 2, 3, 4, 0] rfl ?_
        exact ih _ _ _ hit kk
      · refine x_iload X dL_distance_31 3 rfl ?_
        refine x_aload_n X dL_distance_33 1 rfl ?_
        refine x_iload X dL_distance_34 4 rfl ?_
        refine x_iald X E.1.1 37 rfl dL_distance_36 hf (fun x3 hf => ?_)
        refine x_mmin X w_5250 w_496 w_62 w_497 (by decide) (Nat.le_of_ble_eq_true rfl) (by decide) (by decide) dL_distance_37 ?_
        refine x_nmI hf (fun x4 hf => ?_)
        refine x_istore X (lv2 := [(4, .int x4), (0, .ref (al 0)), (1, .ref (al 8)), (2, .int y2), (5, .int y5)]) dL_distance_40 (by decide) rfl ?_
        refine x_iinc X dL_distance_42 4 rfl (by decide) (y5 + 1) rfl hf (fun x5 => [(5, .int x5), (4, .int x4), (0, .ref (al 0)), (1, .ref (al 8)), (2, .int y2)]) (fun _ => rfl) (fun x5 hf => ?_)
        refine x_goto X (tgt := 16) dL_distance_45 (by decide) ?_
        cases hf
        refine x_lpick (lv2 := [(0, .ref (al 0)), (1, .ref (al 8)), (2, .int y2), (4, .int x4), (5, .int x5)]) [2, 3, 4, 1, 0] rfl ?_
        exact ih _ _ _ hit kk
set_option maxRecDepth 100000 in
set_option maxHeartbeats 4000000 in
theorem met_L_distance (l : Launch) (hst : l.stackTraces = false) (D : va_G) (kA : Nat → ClassId) (ad al : Nat → Nat) (fu : Nat) (w : WS) (f : WS) (a2 : Int32) (a3 : Int32) (v : Int32) (hf : f_L_distance fu w f a2 a3 = some (v)) (sz : Nat) : Met l yL_distance (wsY yL_distance cL_distance 6 (some .int)) rm_L_distance (va_Pc [.ref (al 0), .ref (al 8), .int a2, .int a3] (PreG D kA (picC kA ad w ++ picL kA al f) sz)) (va_Qi (fun (r : Int32) (_ : Unit) => r = v) (fun _ t => PosG D (va_A (picC kA ad w ++ picL kA al f) sz) (picC kA ad w ++ picL kA al f) t) (va_A (picC kA ad w ++ picL kA al f) sz)) 0 0 (va_A (picC kA ad w ++ picL kA al f) sz) := by
  refine metG (own := RL) hst (by decide +kernel) rfl (Nat.le_of_ble_eq_true rfl) rfl ?_
  intro p e s m below meth c X hr hlk E _
  unfold f_L_distance at hf
  refine x_iload_n X dL_distance_0 2 rfl ?_
  refine x_iload_n X dL_distance_1 3 rfl ?_
  refine x_icmp_ne X (tgt := 9) dL_distance_2 (by decide) hf (fun hf => ?_) (fun hf => ?_)
  · refine x_ldc X (v := 1000000) w_5246 dL_distance_9 ?_
    refine x_istore X (lv2 := [(4, .int 1000000), (0, .ref (al 0)), (1, .ref (al 8)), (2, .int a2), (3, .int a3)]) dL_distance_11 (by decide) rfl ?_
    refine x_iconst X (v := 0) dL_distance_13 (by decide) ?_
    refine x_istore X (lv2 := [(5, .int 0), (4, .int 1000000), (0, .ref (al 0)), (1, .ref (al 8)), (2, .int a2), (3, .int a3)]) dL_distance_14 (by decide) rfl ?_
    refine x_lpick (lv2 := [(0, .ref (al 0)), (1, .ref (al 8)), (2, .int a2), (4, .int 1000000), (5, .int 0)]) [2, 3, 4, 1, 0] rfl ?_
    obtain ⟨x1, h2, hf⟩ := bn_some hf
    refine lp_L_distance_16 X E fu w f a2 fu (1000000 : Int32) (0 : Int32) x1 h2 ?_
    refine x_iload X dL_distance_48 0 rfl ?_
    refine x_ldc X (v := 1000000) w_5246 dL_distance_50 ?_
    refine x_icmp_lt X (tgt := 59) dL_distance_52 (by decide) hf (fun hf => ?_) (fun hf => ?_)
    · refine x_iload X dL_distance_59 0 rfl ?_
      cases hf
      exact x_iret X hr hlk rfl rfl dL_distance_61
    · refine x_iconst X (v := (-1)) dL_distance_55 (by decide) ?_
      refine x_goto X (tgt := 61) dL_distance_56 (by decide) ?_
      cases hf
      exact x_iret X hr hlk rfl rfl dL_distance_61
  · refine x_iconst X (v := 0) dL_distance_5 (by decide) ?_
    refine x_goto X (tgt := 11) dL_distance_6 (by decide) ?_
    refine x_istore X (lv2 := [(4, .int 0), (0, .ref (al 0)), (1, .ref (al 8)), (2, .int a2), (3, .int a3)]) dL_distance_11 (by decide) rfl ?_
    refine x_iconst X (v := 0) dL_distance_13 (by decide) ?_
    refine x_istore X (lv2 := [(5, .int 0), (4, .int 0), (0, .ref (al 0)), (1, .ref (al 8)), (2, .int a2), (3, .int a3)]) dL_distance_14 (by decide) rfl ?_
    refine x_lpick (lv2 := [(0, .ref (al 0)), (1, .ref (al 8)), (2, .int a2), (4, .int 0), (5, .int 0)]) [2, 3, 4, 1, 0] rfl ?_
    obtain ⟨x3, h4, hf⟩ := bn_some hf
    refine lp_L_distance_16 X E fu w f a2 fu (0 : Int32) (0 : Int32) x3 h4 ?_
    refine x_iload X dL_distance_48 0 rfl ?_
    refine x_ldc X (v := 1000000) w_5246 dL_distance_50 ?_
    refine x_icmp_lt X (tgt := 59) dL_distance_52 (by decide) hf (fun hf => ?_) (fun hf => ?_)
    · refine x_iload X dL_distance_59 0 rfl ?_
      cases hf
      exact x_iret X hr hlk rfl rfl dL_distance_61
    · refine x_iconst X (v := (-1)) dL_distance_55 (by decide) ?_
      refine x_goto X (tgt := 61) dL_distance_56 (by decide) ?_
      cases hf
      exact x_iret X hr hlk rfl rfl dL_distance_61
end
section
variable {p : Program} {l : Launch} {e : Env} {s : State} {m : MethodId} {args : Array Value} {below : List Frame} {meth : Method} {c : Code} {D : va_G} {kA : Nat → ClassId} {A : Nat → Prop} {Q : State → Prop} {ad al : Nat → Nat} {b L : Nat} {xs : Nat → Int32}
abbrev rm_L_change : Room := { frames := 7, cells := 0, slots := 0, locals := 162 }
set_option maxRecDepth 100000 in
set_option maxHeartbeats 4000000 in
theorem met_L_change (l : Launch) (hst : l.stackTraces = false) (D : va_G) (kA : Nat → ClassId) (ad al : Nat → Nat) (fu : Nat) (w : WS) (f : WS) (a1 : Int32) (v : Int32) (w1 : WS) (f1 : WS) (hf : f_L_change fu w f a1 = some (v, w1, f1)) (sz : Nat) : Met l yL_change (wsY yL_change cL_change 11 (some .int)) rm_L_change (va_Pc [.ref (ad 0), .int a1, .ref (al 0), .ref (al 1), .ref (al 2), .ref (al 4), .ref (al 3), .ref (al 5)] (PreG D kA (picC kA ad w ++ picL kA al f) sz)) (va_Qi (fun (r : Int32) (_ : Unit) => r = v) (fun _ t => PosG D (va_A (picC kA ad w ++ picL kA al f) sz) (picC kA ad w1 ++ picL kA al f1) t) (va_A (picC kA ad w ++ picL kA al f) sz)) 0 0 (va_A (picC kA ad w ++ picL kA al f) sz) := by
  refine metG (own := RL) hst (by decide +kernel) rfl (Nat.le_of_ble_eq_true rfl) rfl ?_
  intro p e s m below meth c X hr hlk E _
  unfold f_L_change at hf
  refine x_iload_n X dL_change_0 1 rfl ?_
  refine x_iconst X (v := 3) dL_change_1 (by decide) ?_
  refine x_ishr X dL_change_2 ?_
  refine x_bipush X (v := 9) dL_change_3 (by decide) ?_
  obtain ⟨x1, hx1, hf⟩ := bn_some hf
  refine x_callS_i X (As := [.int (a1 >>> ((3 : Int32) &&& 31)), .int 9]) (rest := []) (n := 2) (goodS w_5238 w_5239 w_46 w_5240) (met_L_below l fu (a1 >>> ((3 : Int32) &&& 31)) (9 : Int32) x1 hx1) rfl rfl (by decide +kernel) ⟨by decide, by decide⟩ rfl rfl (Nat.le_of_ble_eq_true rfl) dL_change_5 ⟨by decide, by decide⟩ ?_
  refine x_istore X (lv2 := [(8, .int x1), (0, .ref (ad 0)), (1, .int a1), (2, .ref (al 0)), (3, .ref (al 1)), (4, .ref (al 2)), (5, .ref (al 4)), (6, .ref (al 3)), (7, .ref (al 5))]) dL_change_8 (by decide) rfl ?_
  refine x_iload_n X dL_change_10 2 rfl ?_
  refine x_bipush X (v := 10) dL_change_11 (by decide) ?_
  refine x_ishr X dL_change_13 ?_
  refine x_bipush X (v := 9) dL_change_14 (by decide) ?_
  obtain ⟨x2, hx2, hf⟩ := bn_some hf
  refine x_callS_i X (As := [.int (a1 >>> ((10 : Int32) &&& 31)), .int 9]) (rest := []) (n := 2) (goodS w_5238 w_5239 w_46 w_5240) (met_L_below l fu (a1 >>> ((10 : Int32) &&& 31)) (9 : Int32) x2 hx2) rfl rfl (by decide +kernel) ⟨by decide, by decide⟩ rfl rfl (Nat.le_of_ble_eq_true rfl) dL_change_16 ⟨by decide, by decide⟩ ?_
  refine x_istore X (lv2 := [(9, .int x2), (8, .int x1), (0, .ref (ad 0)), (1, .int a1), (2, .ref (al 0)), (3, .ref (al 1)), (4, .ref (al 2)), (5, .ref (al 4)), (6, .ref (al 3)), (7, .ref (al 5))]) dL_change_19 (by decide) rfl ?_
  refine x_iload_n X dL_change_21 3 rfl ?_
  refine x_bipush X (v := 16) dL_change_22 (by decide) ?_
  refine x_ishr X dL_change_24 ?_
  refine x_bipush X (v := 8) dL_change_25 (by decide) ?_
  obtain ⟨x3, hx3, hf⟩ := bn_some hf
  refine x_callS_i X (As := [.int (a1 >>> ((16 : Int32) &&& 31)), .int 8]) (rest := []) (n := 2) (goodS w_5238 w_5239 w_46 w_5240) (met_L_below l fu (a1 >>> ((16 : Int32) &&& 31)) (8 : Int32) x3 hx3) rfl rfl (by decide +kernel) ⟨by decide, by decide⟩ rfl rfl (Nat.le_of_ble_eq_true rfl) dL_change_27 ⟨by decide, by decide⟩ ?_
  refine x_istore X (lv2 := [(10, .int x3), (9, .int x2), (8, .int x1), (0, .ref (ad 0)), (1, .int a1), (2, .ref (al 0)), (3, .ref (al 1)), (4, .ref (al 2)), (5, .ref (al 4)), (6, .ref (al 3)), (7, .ref (al 5))]) dL_change_30 (by decide) rfl ?_
  refine x_iload_n X dL_change_32 4 rfl ?_
  refine x_bipush X (v := 7) dL_change_33 (by decide) ?_
  refine x_iand X dL_change_35 ?_
  refine x_iconst X (v := 3) dL_change_36 (by decide) ?_
  refine x_icmp_ge X (tgt := 60) dL_change_37 (by decide) hf (fun hf => ?_) (fun hf => ?_)
  · refine x_iload_n X dL_change_60 4 rfl ?_
    refine x_bipush X (v := 7) dL_change_61 (by decide) ?_
    refine x_iand X dL_change_63 ?_
    refine x_iconst X (v := 5) dL_change_64 (by decide) ?_
    refine x_icmp_ge X (tgt := 102) dL_change_65 (by decide) hf (fun hf => ?_) (fun hf => ?_)
    · refine x_iload_n X dL_change_102 4 rfl ?_
      refine x_bipush X (v := 7) dL_change_103 (by decide) ?_
      refine x_iand X dL_change_105 ?_
      refine x_bipush X (v := 7) dL_change_106 (by decide) ?_
      refine x_icmp_ge X (tgt := 150) dL_change_108 (by decide) hf (fun hf => ?_) (fun hf => ?_)
      · refine x_aload X dL_change_150 10 rfl ?_
        refine x_iconst X (v := 0) dL_change_152 (by decide) ?_
        refine x_iload X dL_change_153 0 rfl ?_
        refine x_iconst X (v := 1) dL_change_155 (by decide) ?_
        refine x_isub X dL_change_156 ?_
        refine x_iast X E.1.1 34 rfl dL_change_157 hf (fun f => picC kA ad w ++ picL kA al f) rfl (fun f4 hf => ?_)
        refine x_aload_n X dL_change_158 3 rfl ?_
        refine x_iload X dL_change_159 0 rfl ?_
        refine x_iconst X (v := 1) dL_change_161 (by decide) ?_
        refine x_isub X dL_change_162 ?_
        obtain ⟨x5, w6, hx5, hf⟩ := bxn2_some hf
        refine x_callVs_i X E (As := [.int (x3 - 1)]) (rest := []) (n := 1) (u := picC kA ad w) (u2 := picC kA ad w6) [] (picL kA al f4) rfl (goodV w_5259 w_541 w_542 w_47 w_543) (met_X3_setUTurn l E.2.2.2 D kA ad fu w (x3 - 1) x5 w6 hx5) rfl rfl (by decide +kernel) ⟨Nat.le_of_ble_eq_true rfl, Nat.le_of_ble_eq_true rfl⟩ 0 rfl (qc := (RX3, TX3, _)) rfl rfl rfl rfl (Nat.le_of_ble_eq_true rfl) dL_change_163 ⟨by decide, by decide⟩ (picC kA ad w6 ++ picL kA al f4) rfl ?_
        cases hf
        exact x_iret X hr hlk rfl rfl dL_change_166
      · refine x_aload_n X dL_change_111 6 rfl ?_
        refine x_iload X dL_change_112 2 rfl ?_
        refine x_iald X E.1.1 30 rfl dL_change_114 hf (fun x7 hf => ?_)
        refine x_aload_n X dL_change_115 5 rfl ?_
        refine x_iload X dL_change_116 1 rfl ?_
        refine x_iald X E.1.1 29 rfl dL_change_118 hf (fun x8 hf => ?_)
        refine x_icmp_ne X (tgt := 150) dL_change_119 (by decide) hf (fun hf => ?_) (fun hf => ?_)
        · refine x_aload X dL_change_150 10 rfl ?_
          refine x_iconst X (v := 0) dL_change_152 (by decide) ?_
          refine x_iload X dL_change_153 0 rfl ?_
          refine x_iconst X (v := 1) dL_change_155 (by decide) ?_
          refine x_isub X dL_change_156 ?_
          refine x_iast X E.1.1 34 rfl dL_change_157 hf (fun f => picC kA ad w ++ picL kA al f) rfl (fun f9 hf => ?_)
          refine x_aload_n X dL_change_158 3 rfl ?_
          refine x_iload X dL_change_159 0 rfl ?_
          refine x_iconst X (v := 1) dL_change_161 (by decide) ?_
          refine x_isub X dL_change_162 ?_
          obtain ⟨x10, w11, hx10, hf⟩ := bxn2_some hf
          refine x_callVs_i X E (As := [.int (x3 - 1)]) (rest := []) (n := 1) (u := picC kA ad w) (u2 := picC kA ad w11) [] (picL kA al f9) rfl (goodV w_5259 w_541 w_542 w_47 w_543) (met_X3_setUTurn l E.2.2.2 D kA ad fu w (x3 - 1) x10 w11 hx10) rfl rfl (by decide +kernel) ⟨Nat.le_of_ble_eq_true rfl, Nat.le_of_ble_eq_true rfl⟩ 0 rfl (qc := (RX3, TX3, _)) rfl rfl rfl rfl (Nat.le_of_ble_eq_true rfl) dL_change_163 ⟨by decide, by decide⟩ (picC kA ad w11 ++ picL kA al f9) rfl ?_
          cases hf
          exact x_iret X hr hlk rfl rfl dL_change_166
        · refine x_aload X dL_change_122 9 rfl ?_
          refine x_bipush X (v := 9) dL_change_124 (by decide) ?_
          refine x_iload X dL_change_126 2 rfl ?_
          refine x_imul X dL_change_128 ?_
          refine x_iload X dL_change_129 1 rfl ?_
          refine x_iadd X dL_change_131 ?_
          refine x_iload X dL_change_132 0 rfl ?_
          refine x_iconst X (v := 2) dL_change_134 (by decide) ?_
          refine x_isub X dL_change_135 ?_
          refine x_iast X E.1.1 32 rfl dL_change_136 hf (fun f => picC kA ad w ++ picL kA al f) rfl (fun f12 hf => ?_)
          refine x_aload_n X dL_change_137 3 rfl ?_
          refine x_iload X dL_change_138 2 rfl ?_
          refine x_iload X dL_change_140 1 rfl ?_
          refine x_iload X dL_change_142 0 rfl ?_
          refine x_iconst X (v := 2) dL_change_144 (by decide) ?_
          refine x_isub X dL_change_145 ?_
          obtain ⟨x13, w14, hx13, hf⟩ := bxn2_some hf
          refine x_callVs_i X E (As := [.int x1, .int x2, .int (x3 - 2)]) (rest := []) (n := 3) (u := picC kA ad w) (u2 := picC kA ad w14) [] (picL kA al f12) rfl (goodV w_5258 w_523 w_524 w_47 w_525) (met_X3_setTurn l E.2.2.2 D kA ad fu w x1 x2 (x3 - 2) x13 w14 hx13) rfl rfl (by decide +kernel) ⟨Nat.le_of_ble_eq_true rfl, Nat.le_of_ble_eq_true rfl⟩ 0 rfl (qc := (RX3, TX3, _)) rfl rfl rfl rfl (Nat.le_of_ble_eq_true rfl) dL_change_146 ⟨by decide, by decide⟩ (picC kA ad w14 ++ picL kA al f12) rfl ?_
          cases hf
          exact x_iret X hr hlk rfl rfl dL_change_149
    · refine x_aload X dL_change_68 8 rfl ?_
      refine x_iload X dL_change_70 2 rfl ?_
      refine x_iload X dL_change_72 0 rfl ?_
      refine x_iconst X (v := 2) dL_change_74 (by decide) ?_
      refine x_icmp_le X (tgt := 82) dL_change_75 (by decide) hf (fun hf => ?_) (fun hf => ?_)
      · refine x_iconst X (v := 0) dL_change_82 (by decide) ?_
        refine x_zast X E.1.1 33 rfl dL_change_83 hf (fun f => picC kA ad w ++ picL kA al f) rfl (fun f15 hf => ?_)
        refine x_aload_n X dL_change_84 3 rfl ?_
        refine x_iload X dL_change_85 2 rfl ?_
        refine x_iload X dL_change_87 0 rfl ?_
        refine x_iconst X (v := 2) dL_change_89 (by decide) ?_
        refine x_icmp_le X (tgt := 97) dL_change_90 (by decide) hf (fun hf => ?_) (fun hf => ?_)
        · refine x_iconst X (v := 0) dL_change_97 (by decide) ?_
          obtain ⟨x16, w17, hx16, hf⟩ := bxn2_some hf
          refine x_callVs_i X E (As := [.int x1, .int 0]) (rest := []) (n := 2) (u := picC kA ad w) (u2 := picC kA ad w17) [] (picL kA al f15) rfl (goodV w_5257 w_511 w_512 w_47 w_513) (met_X3_setOpen l E.2.2.2 D kA ad fu w x1 (0 : Int32) x16 w17 hx16) rfl rfl (by decide +kernel) ⟨Nat.le_of_ble_eq_true rfl, Nat.le_of_ble_eq_true rfl⟩ 0 rfl (qc := (RX3, TX3, _)) rfl rfl rfl rfl (Nat.le_of_ble_eq_true rfl) dL_change_98 ⟨by decide, by decide⟩ (picC kA ad w17 ++ picL kA al f15) rfl ?_
          cases hf
          exact x_iret X hr hlk rfl rfl dL_change_101
        · refine x_iconst X (v := 1) dL_change_93 (by decide) ?_
          refine x_goto X (tgt := 98) dL_change_94 (by decide) ?_
          obtain ⟨x18, w19, hx18, hf⟩ := bxn2_some hf
          refine x_callVs_i X E (As := [.int x1, .int 1]) (rest := []) (n := 2) (u := picC kA ad w) (u2 := picC kA ad w19) [] (picL kA al f15) rfl (goodV w_5257 w_511 w_512 w_47 w_513) (met_X3_setOpen l E.2.2.2 D kA ad fu w x1 (1 : Int32) x18 w19 hx18) rfl rfl (by decide +kernel) ⟨Nat.le_of_ble_eq_true rfl, Nat.le_of_ble_eq_true rfl⟩ 0 rfl (qc := (RX3, TX3, _)) rfl rfl rfl rfl (Nat.le_of_ble_eq_true rfl) dL_change_98 ⟨by decide, by decide⟩ (picC kA ad w19 ++ picL kA al f15) rfl ?_
          cases hf
          exact x_iret X hr hlk rfl rfl dL_change_101
      · refine x_iconst X (v := 1) dL_change_78 (by decide) ?_
        refine x_goto X (tgt := 83) dL_change_79 (by decide) ?_
        refine x_zast X E.1.1 33 rfl dL_change_83 hf (fun f => picC kA ad w ++ picL kA al f) rfl (fun f20 hf => ?_)
        refine x_aload_n X dL_change_84 3 rfl ?_
        refine x_iload X dL_change_85 2 rfl ?_
        refine x_iload X dL_change_87 0 rfl ?_
        refine x_iconst X (v := 2) dL_change_89 (by decide) ?_
        refine x_icmp_le X (tgt := 97) dL_change_90 (by decide) hf (fun hf => ?_) (fun hf => ?_)
        · refine x_iconst X (v := 0) dL_change_97 (by decide) ?_
          obtain ⟨x21, w22, hx21, hf⟩ := bxn2_some hf
          refine x_callVs_i X E (As := [.int x1, .int 0]) (rest := []) (n := 2) (u := picC kA ad w) (u2 := picC kA ad w22) [] (picL kA al f20) rfl (goodV w_5257 w_511 w_512 w_47 w_513) (met_X3_setOpen l E.2.2.2 D kA ad fu w x1 (0 : Int32) x21 w22 hx21) rfl rfl (by decide +kernel) ⟨Nat.le_of_ble_eq_true rfl, Nat.le_of_ble_eq_true rfl⟩ 0 rfl (qc := (RX3, TX3, _)) rfl rfl rfl rfl (Nat.le_of_ble_eq_true rfl) dL_change_98 ⟨by decide, by decide⟩ (picC kA ad w22 ++ picL kA al f20) rfl ?_
          cases hf
          exact x_iret X hr hlk rfl rfl dL_change_101
        · refine x_iconst X (v := 1) dL_change_93 (by decide) ?_
          refine x_goto X (tgt := 98) dL_change_94 (by decide) ?_
          obtain ⟨x23, w24, hx23, hf⟩ := bxn2_some hf
          refine x_callVs_i X E (As := [.int x1, .int 1]) (rest := []) (n := 2) (u := picC kA ad w) (u2 := picC kA ad w24) [] (picL kA al f20) rfl (goodV w_5257 w_511 w_512 w_47 w_513) (met_X3_setOpen l E.2.2.2 D kA ad fu w x1 (1 : Int32) x23 w24 hx23) rfl rfl (by decide +kernel) ⟨Nat.le_of_ble_eq_true rfl, Nat.le_of_ble_eq_true rfl⟩ 0 rfl (qc := (RX3, TX3, _)) rfl rfl rfl rfl (Nat.le_of_ble_eq_true rfl) dL_change_98 ⟨by decide, by decide⟩ (picC kA ad w24 ++ picL kA al f20) rfl ?_
          cases hf
          exact x_iret X hr hlk rfl rfl dL_change_101
  · refine x_aload X dL_change_40 7 rfl ?_
    refine x_iload X dL_change_42 2 rfl ?_
    refine x_iconst X (v := 1) dL_change_44 (by decide) ?_
    refine x_iload X dL_change_45 0 rfl ?_
    refine x_iadd X dL_change_47 ?_
    refine x_iast X E.1.1 31 rfl dL_change_48 hf (fun f => picC kA ad w ++ picL kA al f) rfl (fun f25 hf => ?_)
    refine x_aload_n X dL_change_49 3 rfl ?_
    refine x_iload X dL_change_50 2 rfl ?_
    refine x_iconst X (v := 1) dL_change_52 (by decide) ?_
    refine x_iload X dL_change_53 0 rfl ?_
    refine x_iadd X dL_change_55 ?_
    obtain ⟨x26, w27, hx26, hf⟩ := bxn2_some hf
    refine x_callVs_i X E (As := [.int x1, .int ((1 : Int32) + x3)]) (rest := []) (n := 2) (u := picC kA ad w) (u2 := picC kA ad w27) [] (picL kA al f25) rfl (goodV w_5256 w_438 w_439 w_47 w_440) (met_X3_setWeight l E.2.2.2 D kA ad fu w x1 ((1 : Int32) + x3) x26 w27 hx26) rfl rfl (by decide +kernel) ⟨Nat.le_of_ble_eq_true rfl, Nat.le_of_ble_eq_true rfl⟩ 0 rfl (qc := (RX3, TX3, _)) rfl rfl rfl rfl (Nat.le_of_ble_eq_true rfl) dL_change_56 ⟨by decide, by decide⟩ (picC kA ad w27 ++ picL kA al f25) rfl ?_
    cases hf
    exact x_iret X hr hlk rfl rfl dL_change_59
end
section
variable {p : Program} {l : Launch} {e : Env} {s : State} {m : MethodId} {args : Array Value} {below : List Frame} {meth : Method} {c : Code} {D : va_G} {kA : Nat → ClassId} {A : Nat → Prop} {Q : State → Prop} {ad al : Nat → Nat} {b L : Nat} {xs : Nat → Int32}
abbrev rm_L_read6 : Room := { frames := 3, cells := 0, slots := 0, locals := 103 }
set_option maxRecDepth 100000 in
set_option maxHeartbeats 4000000 in
theorem lp_L_read6_10 (X : CX p m c cL_read 4 s args RL) (E : EX l s D kA A) (fu : Nat) (y2 : Int32) : ∀ (n : Nat) (y3 : Int32) (w : WS) (f : WS) (rw : WS) (rf : WS), iter (fun q => bd_L_read6_10 fu y2 q.1 q.2.1 q.2.2) n (y3, w, f) = some (rw, rf) → CS p l e rm_L_read6 s m args below meth c D A 4 0 0 Q ((picC kA ad rw) ++ picL kA al rf) 50 [(0, .ref (ad 0)), (1, .ref (al 6)), (2, .int y2)] [] → CS p l e rm_L_read6 s m args below meth c D A 4 0 0 Q ((picC kA ad w) ++ picL kA al f) 10 [(0, .ref (ad 0)), (1, .ref (al 6)), (2, .int y2), (3, .int y3)] [] := by
  intro n
  induction n with
  | zero =>
    intro y3 w f rw rf hit kk
    exact (iter_0 hit).elim
  | succ n ih =>
    intro y3 w f rw rf hit kk
    obtain ⟨o, h1, hit⟩ := iter_one hit
    have hf : bd_L_read6_10 fu y2 y3 w f = some o := h1
    unfold bd_L_read6_10 at hf
    refine x_iload_n X dL_read_10 3 rfl ?_
    refine x_bipush X (v := 9) dL_read_11 (by decide) ?_
    refine x_icmp_ge X (tgt := 50) dL_read_13 (by decide) hf (fun hf => ?_) (fun hf => ?_)
    · cases hf
      cases hit
      refine x_lpick (lv2 := [(0, .ref (ad 0)), (1, .ref (al 6)), (2, .int y2)]) [0, 1, 2] rfl ?_
      exact kk
    · refine x_aload_n X dL_read_16 1 rfl ?_
      refine x_bipush X (v := 9) dL_read_17 (by decide) ?_
      refine x_iload_n X dL_read_19 2 rfl ?_
      refine x_imul X dL_read_20 ?_
      refine x_iload_n X dL_read_21 3 rfl ?_
      refine x_iadd X dL_read_22 ?_
      refine x_aload_n X dL_read_23 0 rfl ?_
      refine x_iload_n X dL_read_24 2 rfl ?_
      refine x_iload_n X dL_read_25 3 rfl ?_
      obtain ⟨x1, w2, hx1, hf⟩ := bxn2_some hf
      refine x_callVs_i X E (As := [.int y2, .int y3]) (rest := [.int (((9 : Int32) * y2) + y3), .ref (al 6)]) (n := 2) (u := picC kA ad w) (u2 := picC kA ad w2) [] (picL kA al f) rfl (goodV w_5263 w_625 w_626 w_47 w_627) (met_X3_hasArc l E.2.2.2 D kA ad fu w y2 y3 x1 w2 hx1) rfl rfl (by decide +kernel) ⟨Nat.le_of_ble_eq_true rfl, Nat.le_of_ble_eq_true rfl⟩ 0 rfl (qc := (RX3, TX3, _)) rfl rfl rfl rfl (Nat.le_of_ble_eq_true rfl) dL_read_26 ⟨by decide, by decide⟩ (picC kA ad w2 ++ picL kA al f) rfl ?_
      refine x_if_eq X (tgt := 41) dL_read_29 (by decide) hf (fun hf => ?_) (fun hf => ?_)
      · refine x_bipush X (v := (-2)) dL_read_41 (by decide) ?_
        refine x_iast X E.1.1 35 rfl dL_read_43 hf (fun f => picC kA ad w2 ++ picL kA al f) rfl (fun f3 hf => ?_)
        refine x_iinc X dL_read_44 3 rfl (by decide) (y3 + 1) rfl hf (fun x4 => [(3, .int x4), (0, .ref (ad 0)), (1, .ref (al 6)), (2, .int y2)]) (fun _ => rfl) (fun x4 hf => ?_)
        refine x_goto X (tgt := 10) dL_read_47 (by decide) ?_
        cases hf
        refine x_lpick (lv2 := [(0, .ref (ad 0)), (1, .ref (al 6)), (2, .int y2), (3, .int x4)]) [1, 2, 3, 0] rfl ?_
        exact ih _ _ _ _ _ hit kk
      · refine x_aload_n X dL_read_32 0 rfl ?_
        refine x_iload_n X dL_read_33 2 rfl ?_
        refine x_iload_n X dL_read_34 3 rfl ?_
        obtain ⟨x5, w6, hx5, hf⟩ := bxn2_some hf
        refine x_callVs_i X E (As := [.int y2, .int y3]) (rest := [.int (((9 : Int32) * y2) + y3), .ref (al 6)]) (n := 2) (u := picC kA ad w2) (u2 := picC kA ad w6) [] (picL kA al f) rfl (goodV w_5264 w_633 w_634 w_47 w_635) (met_X3_arcCost l E.2.2.2 D kA ad fu w2 y2 y3 x5 w6 hx5) rfl rfl (by decide +kernel) ⟨Nat.le_of_ble_eq_true rfl, Nat.le_of_ble_eq_true rfl⟩ 0 rfl (qc := (RX3, TX3, _)) rfl rfl rfl rfl (Nat.le_of_ble_eq_true rfl) dL_read_35 ⟨by decide, by decide⟩ (picC kA ad w6 ++ picL kA al f) rfl ?_
        refine x_goto X (tgt := 43) dL_read_38 (by decide) ?_
        refine x_iast X E.1.1 35 rfl dL_read_43 hf (fun f => picC kA ad w6 ++ picL kA al f) rfl (fun f7 hf => ?_)
        refine x_iinc X dL_read_44 3 rfl (by decide) (y3 + 1) rfl hf (fun x8 => [(3, .int x8), (0, .ref (ad 0)), (1, .ref (al 6)), (2, .int y2)]) (fun _ => rfl) (fun x8 hf => ?_)
        refine x_goto X (tgt := 10) dL_read_47 (by decide) ?_
        cases hf
        refine x_lpick (lv2 := [(0, .ref (ad 0)), (1, .ref (al 6)), (2, .int y2), (3, .int x8)]) [1, 2, 3, 0] rfl ?_
        exact ih _ _ _ _ _ hit kk
set_option maxRecDepth 100000 in
set_option maxHeartbeats 4000000 in
theorem lp_L_read6_2 (X : CX p m c cL_read 4 s args RL) (E : EX l s D kA A) (fu : Nat)  : ∀ (n : Nat) (y2 : Int32) (w : WS) (f : WS) (rw : WS) (rf : WS), iter (fun q => bd_L_read6_2 fu q.1 q.2.1 q.2.2) n (y2, w, f) = some (rw, rf) → CS p l e rm_L_read6 s m args below meth c D A 4 0 0 Q ((picC kA ad rw) ++ picL kA al rf) 56 [] [] → CS p l e rm_L_read6 s m args below meth c D A 4 0 0 Q ((picC kA ad w) ++ picL kA al f) 2 [(0, .ref (ad 0)), (1, .ref (al 6)), (2, .int y2)] [] := by
  intro n
  induction n with
  | zero =>
    intro y2 w f rw rf hit kk
    exact (iter_0 hit).elim
  | succ n ih =>
    intro y2 w f rw rf hit kk
    obtain ⟨o, h1, hit⟩ := iter_one hit
    have hf : bd_L_read6_2 fu y2 w f = some o := h1
    unfold bd_L_read6_2 at hf
    refine x_iload_n X dL_read_2 2 rfl ?_
    refine x_bipush X (v := 9) dL_read_3 (by decide) ?_
    refine x_icmp_ge X (tgt := 56) dL_read_5 (by decide) hf (fun hf => ?_) (fun hf => ?_)
    · cases hf
      cases hit
      refine x_lpick (lv2 := []) [] rfl ?_
      exact kk
    · refine x_iconst X (v := 0) dL_read_8 (by decide) ?_
      refine x_istore_n X (lv2 := [(3, .int 0), (0, .ref (ad 0)), (1, .ref (al 6)), (2, .int y2)]) dL_read_9 (by decide) rfl ?_
      refine x_lpick (lv2 := [(0, .ref (ad 0)), (1, .ref (al 6)), (2, .int y2), (3, .int 0)]) [1, 2, 3, 0] rfl ?_
      obtain ⟨w1, f2, h3, hf⟩ := bn2_some hf
      refine lp_L_read6_10 X E fu y2 fu (0 : Int32) w f w1 f2 h3 ?_
      refine x_iinc X dL_read_50 2 rfl (by decide) (y2 + 1) rfl hf (fun x4 => [(2, .int x4), (0, .ref (ad 0)), (1, .ref (al 6))]) (fun _ => rfl) (fun x4 hf => ?_)
      refine x_goto X (tgt := 2) dL_read_53 (by decide) ?_
      cases hf
      refine x_lpick (lv2 := [(0, .ref (ad 0)), (1, .ref (al 6)), (2, .int x4)]) [1, 2, 0] rfl ?_
      exact ih _ _ _ _ _ hit kk
set_option maxRecDepth 100000 in
set_option maxHeartbeats 4000000 in
theorem met_L_read6 (l : Launch) (hst : l.stackTraces = false) (D : va_G) (kA : Nat → ClassId) (ad al : Nat → Nat) (fu : Nat) (w : WS) (f : WS)  (w1 : WS) (f1 : WS) (hf : f_L_read6 fu w f = some (w1, f1)) (sz : Nat) : Met l yL_read (wsY yL_read cL_read 4 none) rm_L_read6 (va_Pc [.ref (ad 0), .ref (al 6)] (PreG D kA (picC kA ad w ++ picL kA al f) sz)) (va_Qv (fun (_ : Unit) => True) (fun _ t => PosG D (va_A (picC kA ad w ++ picL kA al f) sz) (picC kA ad w1 ++ picL kA al f1) t) (va_A (picC kA ad w ++ picL kA al f) sz)) 0 0 (va_A (picC kA ad w ++ picL kA al f) sz) := by
  refine metG (own := RL) hst (by decide +kernel) rfl (Nat.le_of_ble_eq_true rfl) rfl ?_
  intro p e s m below meth c X hr hlk E _
  unfold f_L_read6 at hf
  refine x_iconst X (v := 0) dL_read_0 (by decide) ?_
  refine x_istore_n X (lv2 := [(2, .int 0), (0, .ref (ad 0)), (1, .ref (al 6))]) dL_read_1 (by decide) rfl ?_
  refine x_lpick (lv2 := [(0, .ref (ad 0)), (1, .ref (al 6)), (2, .int 0)]) [1, 2, 0] rfl ?_
  obtain ⟨w1, f2, h3, hf⟩ := bn2_some hf
  refine lp_L_read6_2 X E fu  fu (0 : Int32) w f w1 f2 h3 ?_
  cases hf
  exact x_vret X hr hlk rfl dL_read_56
end
section
variable {p : Program} {l : Launch} {e : Env} {s : State} {m : MethodId} {args : Array Value} {below : List Frame} {meth : Method} {c : Code} {D : va_G} {kA : Nat → ClassId} {A : Nat → Prop} {Q : State → Prop} {ad al : Nat → Nat} {b L : Nat} {xs : Nat → Int32}
abbrev rm_L_read7 : Room := { frames := 3, cells := 0, slots := 0, locals := 103 }
set_option maxRecDepth 100000 in
set_option maxHeartbeats 4000000 in
theorem lp_L_read7_10 (X : CX p m c cL_read 4 s args RL) (E : EX l s D kA A) (fu : Nat) (y2 : Int32) : ∀ (n : Nat) (y3 : Int32) (w : WS) (f : WS) (rw : WS) (rf : WS), iter (fun q => bd_L_read7_10 fu y2 q.1 q.2.1 q.2.2) n (y3, w, f) = some (rw, rf) → CS p l e rm_L_read7 s m args below meth c D A 4 0 0 Q ((picC kA ad rw) ++ picL kA al rf) 50 [(0, .ref (ad 0)), (1, .ref (al 7)), (2, .int y2)] [] → CS p l e rm_L_read7 s m args below meth c D A 4 0 0 Q ((picC kA ad w) ++ picL kA al f) 10 [(0, .ref (ad 0)), (1, .ref (al 7)), (2, .int y2), (3, .int y3)] [] := by
  intro n
  induction n with
  | zero =>
    intro y3 w f rw rf hit kk
    exact (iter_0 hit).elim
  | succ n ih =>
    intro y3 w f rw rf hit kk
    obtain ⟨o, h1, hit⟩ := iter_one hit
    have hf : bd_L_read7_10 fu y2 y3 w f = some o := h1
    unfold bd_L_read7_10 at hf
    refine x_iload_n X dL_read_10 3 rfl ?_
    refine x_bipush X (v := 9) dL_read_11 (by decide) ?_
    refine x_icmp_ge X (tgt := 50) dL_read_13 (by decide) hf (fun hf => ?_) (fun hf => ?_)
    · cases hf
      cases hit
      refine x_lpick (lv2 := [(0, .ref (ad 0)), (1, .ref (al 7)), (2, .int y2)]) [0, 1, 2] rfl ?_
      exact kk
    · refine x_aload_n X dL_read_16 1 rfl ?_
      refine x_bipush X (v := 9) dL_read_17 (by decide) ?_
      refine x_iload_n X dL_read_19 2 rfl ?_
      refine x_imul X dL_read_20 ?_
      refine x_iload_n X dL_read_21 3 rfl ?_
      refine x_iadd X dL_read_22 ?_
      refine x_aload_n X dL_read_23 0 rfl ?_
      refine x_iload_n X dL_read_24 2 rfl ?_
      refine x_iload_n X dL_read_25 3 rfl ?_
      obtain ⟨x1, w2, hx1, hf⟩ := bxn2_some hf
      refine x_callVs_i X E (As := [.int y2, .int y3]) (rest := [.int (((9 : Int32) * y2) + y3), .ref (al 7)]) (n := 2) (u := picC kA ad w) (u2 := picC kA ad w2) [] (picL kA al f) rfl (goodV w_5263 w_625 w_626 w_47 w_627) (met_X3_hasArc l E.2.2.2 D kA ad fu w y2 y3 x1 w2 hx1) rfl rfl (by decide +kernel) ⟨Nat.le_of_ble_eq_true rfl, Nat.le_of_ble_eq_true rfl⟩ 0 rfl (qc := (RX3, TX3, _)) rfl rfl rfl rfl (Nat.le_of_ble_eq_true rfl) dL_read_26 ⟨by decide, by decide⟩ (picC kA ad w2 ++ picL kA al f) rfl ?_
      refine x_if_eq X (tgt := 41) dL_read_29 (by decide) hf (fun hf => ?_) (fun hf => ?_)
      · refine x_bipush X (v := (-2)) dL_read_41 (by decide) ?_
        refine x_iast X E.1.1 36 rfl dL_read_43 hf (fun f => picC kA ad w2 ++ picL kA al f) rfl (fun f3 hf => ?_)
        refine x_iinc X dL_read_44 3 rfl (by decide) (y3 + 1) rfl hf (fun x4 => [(3, .int x4), (0, .ref (ad 0)), (1, .ref (al 7)), (2, .int y2)]) (fun _ => rfl) (fun x4 hf => ?_)
        refine x_goto X (tgt := 10) dL_read_47 (by decide) ?_
        cases hf
        refine x_lpick (lv2 := [(0, .ref (ad 0)), (1, .ref (al 7)), (2, .int y2), (3, .int x4)]) [1, 2, 3, 0] rfl ?_
        exact ih _ _ _ _ _ hit kk
      · refine x_aload_n X dL_read_32 0 rfl ?_
        refine x_iload_n X dL_read_33 2 rfl ?_
        refine x_iload_n X dL_read_34 3 rfl ?_
        obtain ⟨x5, w6, hx5, hf⟩ := bxn2_some hf
        refine x_callVs_i X E (As := [.int y2, .int y3]) (rest := [.int (((9 : Int32) * y2) + y3), .ref (al 7)]) (n := 2) (u := picC kA ad w2) (u2 := picC kA ad w6) [] (picL kA al f) rfl (goodV w_5264 w_633 w_634 w_47 w_635) (met_X3_arcCost l E.2.2.2 D kA ad fu w2 y2 y3 x5 w6 hx5) rfl rfl (by decide +kernel) ⟨Nat.le_of_ble_eq_true rfl, Nat.le_of_ble_eq_true rfl⟩ 0 rfl (qc := (RX3, TX3, _)) rfl rfl rfl rfl (Nat.le_of_ble_eq_true rfl) dL_read_35 ⟨by decide, by decide⟩ (picC kA ad w6 ++ picL kA al f) rfl ?_
        refine x_goto X (tgt := 43) dL_read_38 (by decide) ?_
        refine x_iast X E.1.1 36 rfl dL_read_43 hf (fun f => picC kA ad w6 ++ picL kA al f) rfl (fun f7 hf => ?_)
        refine x_iinc X dL_read_44 3 rfl (by decide) (y3 + 1) rfl hf (fun x8 => [(3, .int x8), (0, .ref (ad 0)), (1, .ref (al 7)), (2, .int y2)]) (fun _ => rfl) (fun x8 hf => ?_)
        refine x_goto X (tgt := 10) dL_read_47 (by decide) ?_
        cases hf
        refine x_lpick (lv2 := [(0, .ref (ad 0)), (1, .ref (al 7)), (2, .int y2), (3, .int x8)]) [1, 2, 3, 0] rfl ?_
        exact ih _ _ _ _ _ hit kk
set_option maxRecDepth 100000 in
set_option maxHeartbeats 4000000 in
theorem lp_L_read7_2 (X : CX p m c cL_read 4 s args RL) (E : EX l s D kA A) (fu : Nat)  : ∀ (n : Nat) (y2 : Int32) (w : WS) (f : WS) (rw : WS) (rf : WS), iter (fun q => bd_L_read7_2 fu q.1 q.2.1 q.2.2) n (y2, w, f) = some (rw, rf) → CS p l e rm_L_read7 s m args below meth c D A 4 0 0 Q ((picC kA ad rw) ++ picL kA al rf) 56 [] [] → CS p l e rm_L_read7 s m args below meth c D A 4 0 0 Q ((picC kA ad w) ++ picL kA al f) 2 [(0, .ref (ad 0)), (1, .ref (al 7)), (2, .int y2)] [] := by
  intro n
  induction n with
  | zero =>
    intro y2 w f rw rf hit kk
    exact (iter_0 hit).elim
  | succ n ih =>
    intro y2 w f rw rf hit kk
    obtain ⟨o, h1, hit⟩ := iter_one hit
    have hf : bd_L_read7_2 fu y2 w f = some o := h1
    unfold bd_L_read7_2 at hf
    refine x_iload_n X dL_read_2 2 rfl ?_
    refine x_bipush X (v := 9) dL_read_3 (by decide) ?_
    refine x_icmp_ge X (tgt := 56) dL_read_5 (by decide) hf (fun hf => ?_) (fun hf => ?_)
    · cases hf
      cases hit
      refine x_lpick (lv2 := []) [] rfl ?_
      exact kk
    · refine x_iconst X (v := 0) dL_read_8 (by decide) ?_
      refine x_istore_n X (lv2 := [(3, .int 0), (0, .ref (ad 0)), (1, .ref (al 7)), (2, .int y2)]) dL_read_9 (by decide) rfl ?_
      refine x_lpick (lv2 := [(0, .ref (ad 0)), (1, .ref (al 7)), (2, .int y2), (3, .int 0)]) [1, 2, 3, 0] rfl ?_
      obtain ⟨w1, f2, h3, hf⟩ := bn2_some hf
      refine lp_L_read7_10 X E fu y2 fu (0 : Int32) w f w1 f2 h3 ?_
      refine x_iinc X dL_read_50 2 rfl (by decide) (y2 + 1) rfl hf (fun x4 => [(2, .int x4), (0, .ref (ad 0)), (1, .ref (al 7))]) (fun _ => rfl) (fun x4 hf => ?_)
      refine x_goto X (tgt := 2) dL_read_53 (by decide) ?_
      cases hf
      refine x_lpick (lv2 := [(0, .ref (ad 0)), (1, .ref (al 7)), (2, .int x4)]) [1, 2, 0] rfl ?_
      exact ih _ _ _ _ _ hit kk
set_option maxRecDepth 100000 in
set_option maxHeartbeats 4000000 in
theorem met_L_read7 (l : Launch) (hst : l.stackTraces = false) (D : va_G) (kA : Nat → ClassId) (ad al : Nat → Nat) (fu : Nat) (w : WS) (f : WS)  (w1 : WS) (f1 : WS) (hf : f_L_read7 fu w f = some (w1, f1)) (sz : Nat) : Met l yL_read (wsY yL_read cL_read 4 none) rm_L_read7 (va_Pc [.ref (ad 0), .ref (al 7)] (PreG D kA (picC kA ad w ++ picL kA al f) sz)) (va_Qv (fun (_ : Unit) => True) (fun _ t => PosG D (va_A (picC kA ad w ++ picL kA al f) sz) (picC kA ad w1 ++ picL kA al f1) t) (va_A (picC kA ad w ++ picL kA al f) sz)) 0 0 (va_A (picC kA ad w ++ picL kA al f) sz) := by
  refine metG (own := RL) hst (by decide +kernel) rfl (Nat.le_of_ble_eq_true rfl) rfl ?_
  intro p e s m below meth c X hr hlk E _
  unfold f_L_read7 at hf
  refine x_iconst X (v := 0) dL_read_0 (by decide) ?_
  refine x_istore_n X (lv2 := [(2, .int 0), (0, .ref (ad 0)), (1, .ref (al 7))]) dL_read_1 (by decide) rfl ?_
  refine x_lpick (lv2 := [(0, .ref (ad 0)), (1, .ref (al 7)), (2, .int 0)]) [1, 2, 0] rfl ?_
  obtain ⟨w1, f2, h3, hf⟩ := bn2_some hf
  refine lp_L_read7_2 X E fu  fu (0 : Int32) w f w1 f2 h3 ?_
  cases hf
  exact x_vret X hr hlk rfl dL_read_56
end
section
variable {p : Program} {l : Launch} {e : Env} {s : State} {m : MethodId} {args : Array Value} {below : List Frame} {meth : Method} {c : Code} {D : va_G} {kA : Nat → ClassId} {A : Nat → Prop} {Q : State → Prop} {ad al : Nat → Nat} {b L : Nat} {xs : Nat → Int32}
abbrev rm_L_unlike : Room := { frames := 0, cells := 0, slots := 0, locals := 0 }
set_option maxRecDepth 100000 in
set_option maxHeartbeats 4000000 in
theorem lp_L_unlike_4 (X : CX p m c cL_unlike 4 s args RL) (E : EX l s D kA A) (fu : Nat) (w : WS) (f : WS) : ∀ (n : Nat) (y2 : Int32) (y3 : Int32) (r2 : Int32), iter (fun q => bd_L_unlike_4 fu w f q.1 q.2) n (y2, y3) = some (r2) → CS p l e rm_L_unlike s m args below meth c D A 4 0 0 Q ((picC kA ad w) ++ picL kA al f) 33 [(2, .int r2)] [] → CS p l e rm_L_unlike s m args below meth c D A 4 0 0 Q ((picC kA ad w) ++ picL kA al f) 4 [(0, .ref (al 6)), (1, .ref (al 7)), (2, .int y2), (3, .int y3)] [] := by
  intro n
  induction n with
  | zero =>
    intro y2 y3 r2 hit kk
    exact (iter_0 hit).elim
  | succ n ih =>
    intro y2 y3 r2 hit kk
    obtain ⟨o, h1, hit⟩ := iter_one hit
    have hf : bd_L_unlike_4 fu w f y2 y3 = some o := h1
    unfold bd_L_unlike_4 at hf
    refine x_iload_n X dL_unlike_4 3 rfl ?_
    refine x_bipush X (v := 81) dL_unlike_5 (by decide) ?_
    refine x_icmp_ge X (tgt := 33) dL_unlike_7 (by decide) hf (fun hf => ?_) (fun hf => ?_)
    · cases hf
      cases hit
      refine x_lpick (lv2 := [(2, .int y2)]) [2] rfl ?_
      exact kk
    · refine x_iload_n X dL_unlike_10 2 rfl ?_
      refine x_aload_n X dL_unlike_11 0 rfl ?_
      refine x_iload_n X dL_unlike_12 3 rfl ?_
      refine x_iald X E.1.1 35 rfl dL_unlike_13 hf (fun x1 hf => ?_)
      refine x_aload_n X dL_unlike_14 1 rfl ?_
      refine x_iload_n X dL_unlike_15 3 rfl ?_
      refine x_iald X E.1.1 36 rfl dL_unlike_16 hf (fun x2 hf => ?_)
      refine x_icmp_ne X (tgt := 24) dL_unlike_17 (by decide) hf (fun hf => ?_) (fun hf => ?_)
      · refine x_iconst X (v := 1) dL_unlike_24 (by decide) ?_
        refine x_iadd X dL_unlike_25 ?_
        refine x_nmI hf (fun x3 hf => ?_)
        refine x_istore_n X (lv2 := [(2, .int x3), (0, .ref (al 6)), (1, .ref (al 7)), (3, .int y3)]) dL_unlike_26 (by decide) rfl ?_
        refine x_iinc X dL_unlike_27 3 rfl (by decide) (y3 + 1) rfl hf (fun x4 => [(3, .int x4), (2, .int x3), (0, .ref (al 6)), (1, .ref (al 7))]) (fun _ => rfl) (fun x4 hf => ?_)
        refine x_goto X (tgt := 4) dL_unlike_30 (by decide) ?_
        cases hf
        refine x_lpick (lv2 := [(0, .ref (al 6)), (1, .ref (al 7)), (2, .int x3), (3, .int x4)]) [2, 3, 1, 0] rfl ?_
        exact ih _ _ _ hit kk
      · refine x_iconst X (v := 0) dL_unlike_20 (by decide) ?_
        refine x_goto X (tgt := 25) dL_unlike_21 (by decide) ?_
        refine x_iadd X dL_unlike_25 ?_
        refine x_nmI hf (fun x5 hf => ?_)
        refine x_istore_n X (lv2 := [(2, .int x5), (0, .ref (al 6)), (1, .ref (al 7)), (3, .int y3)]) dL_unlike_26 (by decide) rfl ?_
        refine x_iinc X dL_unlike_27 3 rfl (by decide) (y3 + 1) rfl hf (fun x6 => [(3, .int x6), (2, .int x5), (0, .ref (al 6)), (1, .ref (al 7))]) (fun _ => rfl) (fun x6 hf => ?_)
        refine x_goto X (tgt := 4) dL_unlike_30 (by decide) ?_
        cases hf
        refine x_lpick (lv2 := [(0, .ref (al 6)), (1, .ref (al 7)), (2, .int x5), (3, .int x6)]) [2, 3, 1, 0] rfl ?_
        exact ih _ _ _ hit kk
set_option maxRecDepth 100000 in
set_option maxHeartbeats 4000000 in
theorem met_L_unlike (l : Launch) (hst : l.stackTraces = false) (D : va_G) (kA : Nat → ClassId) (ad al : Nat → Nat) (fu : Nat) (w : WS) (f : WS)  (v : Int32) (hf : f_L_unlike fu w f = some (v)) (sz : Nat) : Met l yL_unlike (wsY yL_unlike cL_unlike 4 (some .int)) rm_L_unlike (va_Pc [.ref (al 6), .ref (al 7)] (PreG D kA (picC kA ad w ++ picL kA al f) sz)) (va_Qi (fun (r : Int32) (_ : Unit) => r = v) (fun _ t => PosG D (va_A (picC kA ad w ++ picL kA al f) sz) (picC kA ad w ++ picL kA al f) t) (va_A (picC kA ad w ++ picL kA al f) sz)) 0 0 (va_A (picC kA ad w ++ picL kA al f) sz) := by
  refine metG (own := RL) hst (by decide +kernel) rfl (Nat.le_of_ble_eq_true rfl) rfl ?_
  intro p e s m below meth c X hr hlk E _
  unfold f_L_unlike at hf
  refine x_iconst X (v := 0) dL_unlike_0 (by decide) ?_
  refine x_istore_n X (lv2 := [(2, .int 0), (0, .ref (al 6)), (1, .ref (al 7))]) dL_unlike_1 (by decide) rfl ?_
  refine x_iconst X (v := 0) dL_unlike_2 (by decide) ?_
  refine x_istore_n X (lv2 := [(3, .int 0), (2, .int 0), (0, .ref (al 6)), (1, .ref (al 7))]) dL_unlike_3 (by decide) rfl ?_
  refine x_lpick (lv2 := [(0, .ref (al 6)), (1, .ref (al 7)), (2, .int 0), (3, .int 0)]) [2, 3, 1, 0] rfl ?_
  obtain ⟨x1, h2, hf⟩ := bn_some hf
  refine lp_L_unlike_4 X E fu w f fu (0 : Int32) (0 : Int32) x1 h2 ?_
  refine x_iload_n X dL_unlike_33 0 rfl ?_
  cases hf
  exact x_iret X hr hlk rfl rfl dL_unlike_34
end
end
