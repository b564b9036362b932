section
-- ===== PART A: goes FIRST, ahead of the names: the tables' words, and 'selects' of the private methods out of them =====
/-- a private method of a class that the tables say can be made, by its rows of tables_1 -/
def lw_okq (q : MethodName × Nat) : Prop := (q.1.cls ≠ "java/lang/invoke/MethodHandle" ∧ q.1.cls ≠ "java/lang/invoke/VarHandle") ∧ Cond.instantiable q.1.cls q.2 ∈ tables_1 ∧ Cond.privateMethod q.1 ∈ tables_1 ∧ Cond.instanceMethod q.1 ∈ tables_1
theorem lw_p0 : lw_okq (⟨"JoinBlocks", "forgetSets", "()V"⟩, 8) := ⟨⟨by decide +kernel, by decide +kernel⟩, List.mem_of_getElem? (i := 14) (by decide +kernel), List.mem_of_getElem? (i := 163) (by decide +kernel), List.mem_of_getElem? (i := 164) (by decide +kernel)⟩
theorem lw_p1 : lw_okq (⟨"JoinBlocks", "isFound", "(IIII)Z"⟩, 8) := ⟨⟨by decide +kernel, by decide +kernel⟩, List.mem_of_getElem? (i := 14) (by decide +kernel), List.mem_of_getElem? (i := 229) (by decide +kernel), List.mem_of_getElem? (i := 230) (by decide +kernel)⟩
theorem lw_p2 : lw_okq (⟨"JoinBlocks", "scoreFound", "(III)J"⟩, 8) := ⟨⟨by decide +kernel, by decide +kernel⟩, List.mem_of_getElem? (i := 14) (by decide +kernel), List.mem_of_getElem? (i := 233) (by decide +kernel), List.mem_of_getElem? (i := 234) (by decide +kernel)⟩
theorem lw_p3 : lw_okq (⟨"JoinBlocks", "gatherBelow", "(IILJoinBlocks$ScoredSet;)V"⟩, 8) := ⟨⟨by decide +kernel, by decide +kernel⟩, List.mem_of_getElem? (i := 14) (by decide +kernel), List.mem_of_getElem? (i := 282) (by decide +kernel), List.mem_of_getElem? (i := 283) (by decide +kernel)⟩
theorem lw_p4 : lw_okq (⟨"JoinBlocks", "spreadBelow", "(IILJoinBlocks$ScoredSet;)V"⟩, 8) := ⟨⟨by decide +kernel, by decide +kernel⟩, List.mem_of_getElem? (i := 14) (by decide +kernel), List.mem_of_getElem? (i := 303) (by decide +kernel), List.mem_of_getElem? (i := 304) (by decide +kernel)⟩
theorem lw_p5 : lw_okq (⟨"JoinBlocks", "spreadToLinked", "(ILJoinBlocks$ScoredSet;)V"⟩, 8) := ⟨⟨by decide +kernel, by decide +kernel⟩, List.mem_of_getElem? (i := 14) (by decide +kernel), List.mem_of_getElem? (i := 312) (by decide +kernel), List.mem_of_getElem? (i := 313) (by decide +kernel)⟩
theorem lw_p6 : lw_okq (⟨"JoinBlocks$Ranking", "mergeRuns", "(LJoinBlocks$ScoredSet;I)V"⟩, 3) := ⟨⟨by decide +kernel, by decide +kernel⟩, List.mem_of_getElem? (i := 80) (by decide +kernel), List.mem_of_getElem? (i := 333) (by decide +kernel), List.mem_of_getElem? (i := 334) (by decide +kernel)⟩
theorem lw_p7 : lw_okq (⟨"JoinBlocks$Ranking", "mergeTwo", "(LJoinBlocks$ScoredSet;III)V"⟩, 3) := ⟨⟨by decide +kernel, by decide +kernel⟩, List.mem_of_getElem? (i := 80) (by decide +kernel), List.mem_of_getElem? (i := 340) (by decide +kernel), List.mem_of_getElem? (i := 341) (by decide +kernel)⟩
theorem lw_p8 : lw_okq (⟨"JoinBlocks", "answerRanked", "(I)I"⟩, 8) := ⟨⟨by decide +kernel, by decide +kernel⟩, List.mem_of_getElem? (i := 14) (by decide +kernel), List.mem_of_getElem? (i := 347) (by decide +kernel), List.mem_of_getElem? (i := 348) (by decide +kernel)⟩
theorem lw_p9 : lw_okq (⟨"java/lang/Throwable", "fillInStackTrace", "(I)Ljava/lang/Throwable;"⟩, 6) := ⟨⟨by decide +kernel, by decide +kernel⟩, List.mem_of_getElem? (i := 404) (by decide +kernel), List.mem_of_getElem? (i := 402) (by decide +kernel), List.mem_of_getElem? (i := 403) (by decide +kernel)⟩
theorem lw_p10 : lw_okq (⟨"JoinBlocksModel", "rootOf", "(I)I"⟩, 16) := ⟨⟨by decide +kernel, by decide +kernel⟩, List.mem_of_getElem? (i := 435) (by decide +kernel), List.mem_of_getElem? (i := 505) (by decide +kernel), List.mem_of_getElem? (i := 506) (by decide +kernel)⟩
theorem lw_p11 : lw_okq (⟨"JoinBlocksModel", "die", "(I)I"⟩, 16) := ⟨⟨by decide +kernel, by decide +kernel⟩, List.mem_of_getElem? (i := 435) (by decide +kernel), List.mem_of_getElem? (i := 509) (by decide +kernel), List.mem_of_getElem? (i := 510) (by decide +kernel)⟩
theorem lw_p12 : lw_okq (⟨"JoinBlocksModel", "empty", "()V"⟩, 16) := ⟨⟨by decide +kernel, by decide +kernel⟩, List.mem_of_getElem? (i := 435) (by decide +kernel), List.mem_of_getElem? (i := 513) (by decide +kernel), List.mem_of_getElem? (i := 514) (by decide +kernel)⟩
theorem lw_p13 : lw_okq (⟨"JoinBlocksModel", "stand", "(IIIII)V"⟩, 16) := ⟨⟨by decide +kernel, by decide +kernel⟩, List.mem_of_getElem? (i := 435) (by decide +kernel), List.mem_of_getElem? (i := 517) (by decide +kernel), List.mem_of_getElem? (i := 518) (by decide +kernel)⟩
theorem lw_p14 : lw_okq (⟨"JoinBlocksModel", "isObject", "(I)Z"⟩, 16) := ⟨⟨by decide +kernel, by decide +kernel⟩, List.mem_of_getElem? (i := 435) (by decide +kernel), List.mem_of_getElem? (i := 537) (by decide +kernel), List.mem_of_getElem? (i := 538) (by decide +kernel)⟩
theorem lw_p15 : lw_okq (⟨"JoinBlocksModel", "parent", "(I)I"⟩, 16) := ⟨⟨by decide +kernel, by decide +kernel⟩, List.mem_of_getElem? (i := 435) (by decide +kernel), List.mem_of_getElem? (i := 541) (by decide +kernel), List.mem_of_getElem? (i := 542) (by decide +kernel)⟩
def lw_privs_1 : List (MethodName × Nat) := [(⟨"JoinBlocks", "forgetSets", "()V"⟩, 8), (⟨"JoinBlocks", "isFound", "(IIII)Z"⟩, 8), (⟨"JoinBlocks", "scoreFound", "(III)J"⟩, 8), (⟨"JoinBlocks", "gatherBelow", "(IILJoinBlocks$ScoredSet;)V"⟩, 8), (⟨"JoinBlocks", "spreadBelow", "(IILJoinBlocks$ScoredSet;)V"⟩, 8), (⟨"JoinBlocks", "spreadToLinked", "(ILJoinBlocks$ScoredSet;)V"⟩, 8), (⟨"JoinBlocks$Ranking", "mergeRuns", "(LJoinBlocks$ScoredSet;I)V"⟩, 3), (⟨"JoinBlocks$Ranking", "mergeTwo", "(LJoinBlocks$ScoredSet;III)V"⟩, 3), (⟨"JoinBlocks", "answerRanked", "(I)I"⟩, 8), (⟨"java/lang/Throwable", "fillInStackTrace", "(I)Ljava/lang/Throwable;"⟩, 6), (⟨"JoinBlocksModel", "rootOf", "(I)I"⟩, 16), (⟨"JoinBlocksModel", "die", "(I)I"⟩, 16), (⟨"JoinBlocksModel", "empty", "()V"⟩, 16), (⟨"JoinBlocksModel", "stand", "(IIIII)V"⟩, 16), (⟨"JoinBlocksModel", "isObject", "(I)Z"⟩, 16), (⟨"JoinBlocksModel", "parent", "(I)I"⟩, 16)]
theorem lw_r1 : ∀ q ∈ lw_privs_1, lw_okq q := List.forall_mem_cons.mpr ⟨lw_p0, List.forall_mem_cons.mpr ⟨lw_p1, List.forall_mem_cons.mpr ⟨lw_p2, List.forall_mem_cons.mpr ⟨lw_p3, List.forall_mem_cons.mpr ⟨lw_p4, List.forall_mem_cons.mpr ⟨lw_p5, List.forall_mem_cons.mpr ⟨lw_p6, List.forall_mem_cons.mpr ⟨lw_p7, List.forall_mem_cons.mpr ⟨lw_p8, List.forall_mem_cons.mpr ⟨lw_p9, List.forall_mem_cons.mpr ⟨lw_p10, List.forall_mem_cons.mpr ⟨lw_p11, List.forall_mem_cons.mpr ⟨lw_p12, List.forall_mem_cons.mpr ⟨lw_p13, List.forall_mem_cons.mpr ⟨lw_p14, List.forall_mem_cons.mpr ⟨lw_p15, fun _ h => absurd h List.not_mem_nil⟩⟩⟩⟩⟩⟩⟩⟩⟩⟩⟩⟩⟩⟩⟩⟩
theorem lw_p16 : lw_okq (⟨"JoinBlocksModel", "belowOf", "(I)I"⟩, 16) := ⟨⟨by decide +kernel, by decide +kernel⟩, List.mem_of_getElem? (i := 435) (by decide +kernel), List.mem_of_getElem? (i := 545) (by decide +kernel), List.mem_of_getElem? (i := 546) (by decide +kernel)⟩
theorem lw_p17 : lw_okq (⟨"JoinBlocksModel", "isAbove", "(II)Z"⟩, 16) := ⟨⟨by decide +kernel, by decide +kernel⟩, List.mem_of_getElem? (i := 435) (by decide +kernel), List.mem_of_getElem? (i := 549) (by decide +kernel), List.mem_of_getElem? (i := 550) (by decide +kernel)⟩
theorem lw_p18 : lw_okq (⟨"JoinBlocksModel", "isFound", "(IIII)Z"⟩, 16) := ⟨⟨by decide +kernel, by decide +kernel⟩, List.mem_of_getElem? (i := 435) (by decide +kernel), List.mem_of_getElem? (i := 568) (by decide +kernel), List.mem_of_getElem? (i := 569) (by decide +kernel)⟩
theorem lw_p19 : lw_okq (⟨"JoinBlocksModel", "sizeOf", "(I)I"⟩, 16) := ⟨⟨by decide +kernel, by decide +kernel⟩, List.mem_of_getElem? (i := 435) (by decide +kernel), List.mem_of_getElem? (i := 575) (by decide +kernel), List.mem_of_getElem? (i := 576) (by decide +kernel)⟩
theorem lw_p20 : lw_okq (⟨"JoinBlocksModel", "takeLast", "()V"⟩, 16) := ⟨⟨by decide +kernel, by decide +kernel⟩, List.mem_of_getElem? (i := 435) (by decide +kernel), List.mem_of_getElem? (i := 587) (by decide +kernel), List.mem_of_getElem? (i := 588) (by decide +kernel)⟩
theorem lw_p21 : lw_okq (⟨"JoinBlocksModel", "kth", "(III)I"⟩, 16) := ⟨⟨by decide +kernel, by decide +kernel⟩, List.mem_of_getElem? (i := 435) (by decide +kernel), List.mem_of_getElem? (i := 611) (by decide +kernel), List.mem_of_getElem? (i := 612) (by decide +kernel)⟩
def lw_privs_2 : List (MethodName × Nat) := [(⟨"JoinBlocksModel", "belowOf", "(I)I"⟩, 16), (⟨"JoinBlocksModel", "isAbove", "(II)Z"⟩, 16), (⟨"JoinBlocksModel", "isFound", "(IIII)Z"⟩, 16), (⟨"JoinBlocksModel", "sizeOf", "(I)I"⟩, 16), (⟨"JoinBlocksModel", "takeLast", "()V"⟩, 16), (⟨"JoinBlocksModel", "kth", "(III)I"⟩, 16)]
theorem lw_r2 : ∀ q ∈ lw_privs_2, lw_okq q := List.forall_mem_cons.mpr ⟨lw_p16, List.forall_mem_cons.mpr ⟨lw_p17, List.forall_mem_cons.mpr ⟨lw_p18, List.forall_mem_cons.mpr ⟨lw_p19, List.forall_mem_cons.mpr ⟨lw_p20, List.forall_mem_cons.mpr ⟨lw_p21, fun _ h => absurd h List.not_mem_nil⟩⟩⟩⟩⟩⟩
def lw_privs : List (MethodName × Nat) := lw_privs_1 ++ (lw_privs_2)
def lw_tbl : List Cond := k2_sels lw_privs ++ tables_1
theorem lw_privs_ok : ∀ q ∈ lw_privs, lw_okq q := by
  show ∀ q ∈ lw_privs_1 ++ (lw_privs_2), lw_okq q
  exact List.forall_mem_append.mpr ⟨lw_r1, lw_r2⟩
end
section
/-! ===== BEGIN words of one list among another's, by their places ===== -/
theorem goodIn_r {big : List Cond} (ws : List Cond) (ps : List Nat) (hp : ws = ps.filterMap (fun i => big[i]?)) (h : ws.all goodWord = true) : GoodIn big ws := by
  intro w hw
  have h1 := List.all_eq_true.mp h w hw
  rw [hp] at hw
  obtain ⟨i, -, hi⟩ := List.mem_filterMap.mp hw
  have hm : w ∈ big := by first | exact List.mem_of_getElem? hi | exact List.getElem?_mem hi
  exact ⟨hm, good_of_word h1⟩
theorem goodIn_app {big a b : List Cond} (ha : GoodIn big a) (hb : GoodIn big b) : GoodIn big (a ++ b) := fun w h => (List.mem_append.mp h).elim (ha w) (hb w)
theorem goodIn_ca {big a b : List Cond} {c : Cond} (ha : GoodIn big (c :: a)) (hb : GoodIn big b) : GoodIn big (c :: (a ++ b)) := fun w h => (List.mem_cons.mp h).elim (fun e => ha w (List.mem_cons.mpr (Or.inl e))) (fun h => (List.mem_append.mp h).elim (fun h => ha w (List.mem_cons.mpr (Or.inr h))) (hb w))
theorem goodIn_sub {big ws : List Cond} (hm : ∀ w ∈ ws, w ∈ big) (h : ws.all goodWord = true) : GoodIn big ws := fun w hw => ⟨hm w hw, good_of_word (List.all_eq_true.mp h w hw)⟩
/-! ===== END ===== -/

/-! ===== BEGIN exceptions that leave a method, and their catching by the caller (launches without stack traces) ===== -/
section VXA
/-! The laws vx_back, vx_callV, vx_callS, vx_callSW, vx_throw0, vx_throwS follow proofs of the library, with one case more: JvmDerived/Free/Laws.lean (Back.of_free), Shelf42/LK1.lean (callV, callS), Shelf/KitTraced.lean (throwNew0V, throwNewS). -/
/-- where a method has thrown q: the class by its name, the cell, what was written, the world -/
def vx_T (XC : String → State → State → Prop) (st : State) (q : Addr) (t : State) (mc ms : Nat) (free : Addr → Prop) : Prop :=
  ∃ (E : String) (ce : Cell) (L : List Loc), XC E st t ∧ t.heap[q]? = some ce ∧ ce.vm = .none ∧ st.vm.findClass E = some ce.cls ∧ st.WarmedH t.vm ∧ st.sameButNew ({ t with vm := st.vm } : State) L mc ms ∧ ∀ z ∈ L, free z.base
def vx_Q (Qc : Array Value → State → Outcome → State → Prop) (XC : String → State → State → Prop) (mc ms : Nat) (free : Addr → Prop) : Array Value → State → Outcome → State → Prop := fun a st o t =>
  (Qc a st o t ∧ ∃ L, FrameEnd st o t L mc ms ∧ ∀ q ∈ L, free q.base) ∨ ∃ q, o = .threw q ∧ vx_T XC st q t mc ms free
/-- a callee that returns or throws -/
def vx_Met (l : Launch) (y : MethodName) (ws : List Cond) (rm : Room) (Pc : Array Value → State → Prop) (Qc : Array Value → State → Outcome → State → Prop) (XC : String → State → State → Prop) (mc ms : Nat) (free : Addr → Prop) : Prop :=
  MetFree l y (headSpec ws rm) Pc (fun _ _ _ _ _ => True) (vx_Q Qc XC mc ms free)
def vx_Post (XC : String → State → State → Prop) (mc ms : Nat) (free : Addr → Prop) : Pt → Array Value → Addr → Pt → Prop := fun A a q B =>
  ∃ (g : JFrame) (mk : MethodId) (t : State) (L : List Loc) (E : String) (ce : Cell), B.U.heap = t.heap ∧ B.U.vm = t.vm ∧ XC E (A.U.calling g mk a) t ∧ t.heap[q]? = some ce ∧ ce.vm = .none ∧ A.U.vm.findClass E = some ce.cls ∧ B.locs = A.locs ++ L ∧ (∀ z ∈ L, free z.base) ∧ B.cells = A.cells + mc ∧ B.slots = A.slots + ms
def vx_Back (l : Launch) (R : Room) (p : Program) (e : Env) (below : List Frame) (s : State) (sargs : Array Value) (y : MethodName) (len W9 : Nat)
    (Pre : Pt → Array Value → Prop) (Post : Pt → Array Value → Option Value → Pt → Prop) (PostX : Pt → Array Value → Addr → Pt → Prop) : Prop :=
  ∀ (m : MethodId) (meth : Method) (c : Code) (A : Pt) (g : JFrame) (ig : Instr) (mk : MethodId) (a : Array Value),
    Stand p l e R s m sargs below meth c A.U A.locs A.cells A.slots → g.method = m → g.locals.size = c.maxLocals → decode c.code g.pc = .ok (ig, len) →
    2 * g.monitorRoom + (g.stack.map fun v => v.category).sum ≤ W9 → A.U.methodNamed? y = some mk → Pre A a →
    (∃ (v : Option Value) (B : Pt), Stand p l e R s m sargs below meth c B.U B.locs B.cells B.slots ∧ Post A a v B ∧
      Steps p.tables e below (doInvoke e (A.U.setTop g) [] mk a).1 (B.U.setTop { g with pc := g.pc + len, stack := v.toList ++ g.stack })) ∨
    (∃ (q : Addr) (B : Pt), Stand p l e R s m sargs below meth c B.U B.locs B.cells B.slots ∧ PostX A a q B ∧
      Steps p.tables e below (doInvoke e (A.U.setTop g) [] mk a).1 ((B.U.setTop g).pushFrame (.throwing q)))
section Payer
variable {l : Launch} {R : Room} {p : Program} {e : Env} {below : List Frame} {s : State} {sargs : Array Value} {y : MethodName} {len W9 : Nat}
theorem vx_back {ws : List Cond} {rm : Room} {Pc : Array Value → State → Prop} {Qc : Array Value → State → Outcome → State → Prop} {XC : String → State → State → Prop} {mc ms : Nat} {free : Addr → Prop} {bytes : ByteArray} {maxL : Nat} {ret : Option FieldType}
    (hM : vx_Met l y ws rm Pc Qc XC mc ms free) (hblind : FrameBlind Pc) (hrc : rm.cells = mc) (hrs : rm.slots = ms)
    (hframes : rm.frames + 1 ≤ R.frames) (hlocals : W9 + (maxL + 11) + rm.locals ≤ R.locals)
    (hws : ∀ w ∈ ws, ∀ a' U, s.WarmedH U.vm → w.before a' U = true) (hcode : Cond.code y bytes maxL ret ∈ ws) (hinit : ∀ a' U, s.WarmedH U.vm → (Cond.initialized y.cls).before a' U = true) :
    vx_Back l R p e below s sargs y len W9 (PreOf R mc ms Pc) (PostOf Qc mc ms free) (vx_Post XC mc ms free) := by
  intro m meth c A g ig mk a X hg hsize hdg hW hn hp
  have h1 : (headSpec ws rm).pre.before a A.U = true := atoms_intro fun w hw => hws w hw _ _ X.warmed
  have h2 : (Cond.code y bytes maxL ret).before a A.U = true := hws _ hcode _ _ X.warmed
  have h3 : (Cond.initialized y.cls).before a A.U = true := hinit _ _ X.warmed
  have h4 : A.cells + (headSpec ws rm).room.cells ≤ R.cells := by rw [show (headSpec ws rm).room.cells = mc from hrc]; exact hp.1
  have h5 : A.slots + (headSpec ws rm).room.slots ≤ R.slots := by rw [show (headSpec ws rm).room.slots = ms from hrs]; exact hp.2.1
  have hPc : Pc a (A.U.calling g mk a) := hblind _ _ _ _ hp.2.2
  obtain ⟨U, Ls, c0, s0⟩ := A
  dsimp only [Pt.U, Pt.locs, Pt.cells, Pt.slots] at h1 h2 h3 h4 h5 X hn hPc ⊢
  obtain ⟨methY, cY, hmY, hcY, -, hlY, -, -, -, -⟩ := Cond.code_spec hn h2
  obtain ⟨kY, hkY, -⟩ := className_of_methodNamed hn
  have hinitY : kY.init = .initialized := Cond.initialized_spec (findClass_of_methodNamed hn) hkY h3
  have h : At U g.method c below := by rw [hg]; exact X.here
  have hlocals9 : W9 + (maxL + 11) + (headSpec ws rm).room.locals ≤ R.locals := hlocals
  have happ : (headSpec ws rm).appliesLoose y e.platform (U.calling g mk a) = true :=
    Spec.appliesLoose_calling (g := g) h hdg hn hkY hinitY
      (X.room_calling (g := g) (R' := (headSpec ws rm).room) hsize hmY hcY hframes (by rw [hlY]; omega) h4 h5) h1
  obtain ⟨mid, hmid⟩ := h.above
  have hfr : (U.setTop g).frames = (.java g :: mid) ++ below := by rw [State.frames_setTop' g h.top, hmid]; rfl
  obtain ⟨o, s₂, hsteps, -, hend, hq⟩ := Steps.callFree hM p X.admits X.cas X.clock (acts := []) hfr happ hPc trivial
  have hq' : vx_Q Qc XC mc ms free a (U.calling g mk a) o s₂ := hq
  rw [State.frames_setTop' g h.top] at hend
  obtain ⟨g₀, hg0⟩ := Option.isSome_iff_exists.mp h.top
  obtain ⟨r, hr⟩ := State.topJava?_eq_some.mp hg0
  have hr' : (({ U with heap := s₂.heap, slotsUsed := s₂.slotsUsed } : State).setVm s₂.vm).frames = .java g₀ :: r := hr
  rcases hq' with ⟨hqc, L, hfe, hL⟩ | ⟨q, rfl, E, ce, L, hx, hce, hcv, hcl, hW₂, hsm, hL⟩
  · obtain ⟨⟨v, rfl⟩, hW₂, e2, q2, q3, q4, q5, q6⟩ := id hfe
    have e3 : s₂ = ({ (U.calling g mk a).setFrames s₂.frames with heap := s₂.heap, slotsUsed := s₂.slotsUsed } : State).setVm s₂.vm := by
      have : s₂ = ({ s₂ with vm := (U.calling g mk a).vm } : State).setVm s₂.vm := rfl
      rw [e2] at this
      exact this
    obtain ⟨c₂, i₂, len₂, hc₂, hd₂, hf₂⟩ := hend
    have hW' : U.WarmedH s₂.vm := hW₂
    have hcc : c₂ = c := by
      have h1 : s₂.code? g.method = U.code? g.method := by
        rw [State.code?_eq, State.code?_eq, hW'.alike.method?]
      exact Option.some.inj (hc₂.symm.trans (h1.trans h.code))
    subst hcc
    have hlen : len₂ = len := by rw [hdg] at hd₂; cases hd₂; rfl
    subst hlen
    have hs₂ : s₂ = (({ U with heap := s₂.heap, slotsUsed := s₂.slotsUsed } : State).setVm s₂.vm).setTop { g with pc := g.pc + len₂, stack := v.toList ++ g.stack } := by
      refine e3.trans ?_
      rw [hf₂, State.calling_eq h.top, State.setFrames_setFrames, State.setTop_of_frames _ hr', hr]
      rfl
    have hsame : U.sameButNew ({ U with heap := s₂.heap, slotsUsed := s₂.slotsUsed } : State) L mc ms := by
      refine ⟨?_, q2, q3, q4, q5, q6⟩
      obtain ⟨t, ht, -⟩ := State.frames_cons hr
      show ({ U with heap := s₂.heap, slotsUsed := s₂.slotsUsed } : State) = { U.setFrames U.frames with heap := s₂.heap, slotsUsed := s₂.slotsUsed }
      rw [State.setFrames_self ht]
    subst hg
    refine Or.inl ⟨v, ⟨(({ U with heap := s₂.heap, slotsUsed := s₂.slotsUsed } : State).setVm s₂.vm), Ls ++ L, c0 + mc, s0 + ms⟩,
      ⟨X.admits, X.cas, X.clock, X.frames, X.room, X.hears, X.method, X.code, (X.here.setHeapUsed s₂.heap s₂.slotsUsed).setVm hW'.alike, X.tail, State.WarmedH.trans X.warmed hW', X.limits, X.bytes, X.same.trans (hsame.setVm s.vm)⟩,
      ⟨g, mk, s₂, L, rfl, rfl, hqc, rfl, hL, rfl, rfl⟩, ?_⟩
    show Steps p.tables e below _ ((({ U with heap := s₂.heap, slotsUsed := s₂.slotsUsed } : State).setVm s₂.vm).setTop { g with pc := g.pc + len₂, stack := v.toList ++ g.stack })
    rw [← hs₂]
    exact hsteps
  · obtain ⟨e2, q2, q3, q4, q5, q6⟩ := id hsm
    have e3 : s₂ = ({ (U.calling g mk a).setFrames s₂.frames with heap := s₂.heap, slotsUsed := s₂.slotsUsed } : State).setVm s₂.vm := by
      have : s₂ = ({ s₂ with vm := (U.calling g mk a).vm } : State).setVm s₂.vm := rfl
      rw [e2] at this
      exact this
    have hf₂ : s₂.frames = .throwing q :: .java g :: U.frames.tail := hend
    have hW' : U.WarmedH s₂.vm := hW₂
    have hs₂ : s₂ = ((({ U with heap := s₂.heap, slotsUsed := s₂.slotsUsed } : State).setVm s₂.vm).setTop g).pushFrame (.throwing q) := by
      refine e3.trans ?_
      rw [hf₂, State.calling_eq h.top, State.setFrames_setFrames, State.pushFrame, State.frames_setTop _ hr', State.setTop_of_frames _ hr', State.setFrames_setFrames, hr]
      rfl
    have hsame : U.sameButNew ({ U with heap := s₂.heap, slotsUsed := s₂.slotsUsed } : State) L mc ms := by
      refine ⟨?_, q2, q3, q4, q5, q6⟩
      obtain ⟨t, ht, -⟩ := State.frames_cons hr
      show ({ U with heap := s₂.heap, slotsUsed := s₂.slotsUsed } : State) = { U.setFrames U.frames with heap := s₂.heap, slotsUsed := s₂.slotsUsed }
      rw [State.setFrames_self ht]
    subst hg
    refine Or.inr ⟨q, ⟨(({ U with heap := s₂.heap, slotsUsed := s₂.slotsUsed } : State).setVm s₂.vm), Ls ++ L, c0 + mc, s0 + ms⟩,
      ⟨X.admits, X.cas, X.clock, X.frames, X.room, X.hears, X.method, X.code, (X.here.setHeapUsed s₂.heap s₂.slotsUsed).setVm hW'.alike, X.tail, State.WarmedH.trans X.warmed hW', X.limits, X.bytes, X.same.trans (hsame.setVm s.vm)⟩,
      ⟨g, mk, s₂, L, E, ce, rfl, rfl, hx, hce, hcv, hcl, rfl, hL, rfl, rfl⟩, ?_⟩
    show Steps p.tables e below _ (((({ U with heap := s₂.heap, slotsUsed := s₂.slotsUsed } : State).setVm s₂.vm).setTop g).pushFrame (.throwing q))
    rw [← hs₂]
    exact hsteps
end Payer
section Calls
variable {p : Program} {l : Launch} {e : Env} {R : Room} {s : State} {m : MethodId} {args : Array Value} {below : List Frame} {meth : Method} {c : Code} {T : State} {locs : List Loc} {cells slots : Nat}
theorem vx_callV (X : Stand p l e R s m args below meth c T locs cells slots) (hexec : p.tables.exec = Jvm.exec) {own C : String} {index : Nat} {y : MethodName} {bytes : ByteArray} {maxL : Nat} {ret : Option FieldType}
    (hown : s.vm.findClass own = some m.cls) (hlink : (Cond.methodLink own index y).before args s = true) (hinst : (Cond.instanceMethod y).before args s = true) (hsel : (Cond.selects C y y).before args s = true)
    (hcode : (Cond.code y bytes maxL ret).before args s = true) (hy : y.cls ≠ "java/lang/invoke/MethodHandle" ∧ y.cls ≠ "java/lang/invoke/VarHandle")
    {W9 : Nat} {Pre : Pt → Array Value → Prop} {Post : Pt → Array Value → Option Value → Pt → Prop} {PostX : Pt → Array Value → Addr → Pt → Prop} (hK : vx_Back l R p e below s args y 3 W9 Pre Post PostX)
    {b : Addr} {cellB : Cell} (hcell : T.heap[b]? = some cellB) (hobj : cellB.vm.isStatics = false) (hcls : s.vm.findClass C = some cellB.cls)
    {g : JFrame} (hg : g.method = m) (hsize : g.locals.size = c.maxLocals) {argsL rest : List Value} (hlen : ∀ sig, parseMethodDescriptor y.desc = some sig → argsL.length = sig.parameters.length)
    (hstack : g.stack = argsL.reverse ++ .ref b :: rest) (hW : 2 * g.monitorRoom + (rest.map fun v => v.category).sum ≤ W9) (hdg : decode c.code g.pc = .ok (.invokevirtual index, 3))
    (hpre : ∀ vm₁, s.WarmedH vm₁ → Pre ⟨T.setVm vm₁, locs, cells, slots⟩ (Value.ref b :: argsL).toArray) :
    (∃ (v : Option Value) (vm₁ : Vm) (B : Pt), s.WarmedH vm₁ ∧ Stand p l e R s m args below meth c B.U B.locs B.cells B.slots ∧ Post ⟨T.setVm vm₁, locs, cells, slots⟩ (Value.ref b :: argsL).toArray v B ∧
      ∀ target, Steps p.tables e below (B.U.setTop { g with pc := g.pc + 3, stack := v.toList ++ rest }) target → Steps p.tables e below (T.setTop g) target) ∨
    (∃ (q : Addr) (vm₁ : Vm) (B : Pt), s.WarmedH vm₁ ∧ Stand p l e R s m args below meth c B.U B.locs B.cells B.slots ∧ PostX ⟨T.setVm vm₁, locs, cells, slots⟩ (Value.ref b :: argsL).toArray q B ∧
      Steps p.tables e below (T.setTop g) ((B.U.setTop { g with stack := rest }).pushFrame (.throwing q))) := by
  obtain ⟨mk, methM, hnamed, hmethM, hstM, habM⟩ := Cond.instanceMethod_spec hinst
  obtain ⟨methM', cM, hmethM', -, -, -, -, -, -, hsigM⟩ := Cond.code_spec hnamed hcode
  cases hmethM.symm.trans hmethM'
  obtain ⟨c2, r2, m2, q1, q2, q3, q4, kP, hkP, hkPi⟩ := Cond.selects_spec hsel
  cases hcls.symm.trans q1
  cases (State.methodFound?_of_named hnamed hy).symm.trans q2
  cases hnamed.symm.trans q3
  have hselP : selectMethod e.platform s.vm cellB.cls mk = .method mk := by rw [Launch.admits_selectMethod X.admits]; exact q4
  obtain ⟨vm₁, X₁, hstep₁⟩ := X.invokevirtual hexec hown hlink hnamed hmethM hstM hkP hkPi hy (a := b) (cell := cellB) hcell
    (fun z h => by rw [h] at hobj; cases hobj) hselP hmethM habM hkP hkPi (g := g) hg (argsL := argsL) (rest := rest) (hlen _ hsigM) hstack hdg
  rcases hK m meth c ⟨T.setVm vm₁, locs, cells, slots⟩ { g with stack := rest } (.invokevirtual index) mk (Value.ref b :: argsL).toArray X₁ hg hsize hdg hW (X₁.named hnamed) (hpre vm₁ X₁.warmed) with ⟨v, B, X', hpost, hsteps⟩ | ⟨q, B, X', hpost, hsteps⟩
  · exact Or.inl ⟨v, vm₁, B, X₁.warmed, X', hpost, fun target h => hstep₁ _ fun acts => by rw [doInvoke_state]; exact hsteps.trans h⟩
  · exact Or.inr ⟨q, vm₁, B, X₁.warmed, X', hpost, hstep₁ _ fun acts => by rw [doInvoke_state]; exact hsteps⟩
theorem vx_callS (X : Stand p l e R s m args below meth c T locs cells slots) (hexec : p.tables.exec = Jvm.exec) {own : String} {index : Nat} {y : MethodName} {bytes : ByteArray} {maxL : Nat} {ret : Option FieldType}
    (hown : s.vm.findClass own = some m.cls) (hlink : (Cond.methodLink own index y).before args s = true) (hstat : (Cond.static y).before args s = true) (hinit : (Cond.initialized y.cls).before args s = true)
    (hcode : (Cond.code y bytes maxL ret).before args s = true) (hy : y.cls ≠ "java/lang/invoke/MethodHandle" ∧ y.cls ≠ "java/lang/invoke/VarHandle")
    {W9 : Nat} {Pre : Pt → Array Value → Prop} {Post : Pt → Array Value → Option Value → Pt → Prop} {PostX : Pt → Array Value → Addr → Pt → Prop} (hK : vx_Back l R p e below s args y 3 W9 Pre Post PostX)
    {g : JFrame} (hg : g.method = m) (hsize : g.locals.size = c.maxLocals) {argsL rest : List Value} (hlen : ∀ sig, parseMethodDescriptor y.desc = some sig → argsL.length = sig.parameters.length)
    (hstack : g.stack = argsL.reverse ++ rest) (hW : 2 * g.monitorRoom + (rest.map fun v => v.category).sum ≤ W9) (hdg : decode c.code g.pc = .ok (.invokestatic index, 3))
    (hpre : ∀ vm₁, s.WarmedH vm₁ → Pre ⟨T.setVm vm₁, locs, cells, slots⟩ argsL.toArray) :
    (∃ (v : Option Value) (vm₁ : Vm) (B : Pt), s.WarmedH vm₁ ∧ Stand p l e R s m args below meth c B.U B.locs B.cells B.slots ∧ Post ⟨T.setVm vm₁, locs, cells, slots⟩ argsL.toArray v B ∧
      ∀ target, Steps p.tables e below (B.U.setTop { g with pc := g.pc + 3, stack := v.toList ++ rest }) target → Steps p.tables e below (T.setTop g) target) ∨
    (∃ (q : Addr) (vm₁ : Vm) (B : Pt), s.WarmedH vm₁ ∧ Stand p l e R s m args below meth c B.U B.locs B.cells B.slots ∧ PostX ⟨T.setVm vm₁, locs, cells, slots⟩ argsL.toArray q B ∧
      Steps p.tables e below (T.setTop g) ((B.U.setTop { g with stack := rest }).pushFrame (.throwing q))) := by
  obtain ⟨mk, hnamed⟩ := Cond.code_named hcode
  obtain ⟨methM, cM, hmethM, -, -, -, -, -, -, hsigM⟩ := Cond.code_spec hnamed hcode
  have hstatic : methM.isStatic = true := Cond.static_spec hnamed hmethM hstat
  obtain ⟨kP, hkP, -⟩ := className_of_methodNamed hnamed
  have hinitP : kP.init = .initialized := Cond.initialized_spec (findClass_of_methodNamed hnamed) hkP hinit
  obtain ⟨vm₁, X₁, hstep₁⟩ := X.invokestatic hexec hown hlink hnamed hmethM hstatic hkP hinitP hy (g := g) hg (argsL := argsL) (rest := rest) (hlen _ hsigM) hstack hdg
  rcases hK m meth c ⟨T.setVm vm₁, locs, cells, slots⟩ { g with stack := rest } (.invokestatic index) mk argsL.toArray X₁ hg hsize hdg hW (X₁.named hnamed) (hpre vm₁ X₁.warmed) with ⟨v, B, X', hpost, hsteps⟩ | ⟨q, B, X', hpost, hsteps⟩
  · exact Or.inl ⟨v, vm₁, B, X₁.warmed, X', hpost, fun target h => hstep₁ _ fun acts => by rw [doInvoke_state]; exact hsteps.trans h⟩
  · exact Or.inr ⟨q, vm₁, B, X₁.warmed, X', hpost, hstep₁ _ fun acts => by rw [doInvoke_state]; exact hsteps⟩
end Calls
theorem vx_cls {s : State} {T : State} {vm₁ : Vm} {E : String} {k : ClassId} (hW : s.WarmedH vm₁) (h : (T.setVm vm₁).vm.findClass E = some k) : s.vm.findClass E = some k := by
  have h1 : vm₁.findClass E = some k := h
  rw [hW.alike.findClass] at h1
  exact h1
/-- the method's frame g, with q thrown over it -/
def vx_W (p : Program) (l : Launch) (e : Env) (R : Room) (s : State) (m : MethodId) (args : Array Value) (below : List Frame) (meth : Method) (c : Code) (H : Heap) (locs : List Loc) (cells slots : Nat) (Q : State → Prop) (g : JFrame) (q : Addr) : Prop :=
  ∀ T : State, T.heap = H → Stand p l e R s m args below meth c T locs cells slots → ∃ t, Steps p.tables e below ((T.setTop g).pushFrame (.throwing q)) t ∧ Q t
def vx_Run (p : Program) (l : Launch) (e : Env) (R : Room) (s : State) (m : MethodId) (args : Array Value) (below : List Frame) (meth : Method) (c : Code) (H : Heap) (locs : List Loc) (cells slots mc ms : Nat) (g : JFrame) (rest : List Value) (Qa : State → Outcome → State → Prop) (XC : String → State → State → Prop) (free : Addr → Prop) : Prop :=
  ∀ T : State, T.heap = H → Stand p l e R s m args below meth c T locs cells slots →
    (∃ (v : Option Value) (st₀ t T' : State) (L : List Loc), st₀.heap = H ∧ Stand p l e R s m args below meth c T' (locs ++ L) (cells + mc) (slots + ms) ∧ (∀ q ∈ L, free q.base) ∧ T'.heap = t.heap ∧ T'.vm = t.vm ∧ Qa st₀ (.returned v) t ∧
      Goes p e below T g T' { g with pc := g.pc + 3, stack := v.toList ++ rest }) ∨
    (∃ (q : Addr) (st₀ t T' : State) (L : List Loc) (E : String) (ce : Cell), st₀.heap = H ∧ Stand p l e R s m args below meth c T' (locs ++ L) (cells + mc) (slots + ms) ∧ (∀ z ∈ L, free z.base) ∧ T'.heap = t.heap ∧ T'.vm = t.vm ∧ XC E st₀ t ∧ t.heap[q]? = some ce ∧ ce.vm = .none ∧ s.vm.findClass E = some ce.cls ∧
      Steps p.tables e below (T.setTop g) ((T'.setTop { g with stack := rest }).pushFrame (.throwing q)))
def vx_X {S : Type} (px : S → Prop) (B : String → S → State → Prop) (A : Nat → Prop) : String → State → State → Prop := fun E st t => ∃ u : S, px u ∧ B E u t ∧ va_F A st t
section Runs
variable {p : Program} {l : Launch} {e : Env} {R : Room} {s : State} {m : MethodId} {args : Array Value} {below : List Frame} {meth : Method} {c : Code} {H : Heap} {locs : List Loc} {cells slots : Nat}
variable {y : MethodName} {bytes cc : ByteArray} {maxL nL mc ms n index : Nat} {ret : Option FieldType} {ws : List Cond} {rm : Room} {Pc : Array Value → State → Prop} {Qc : Array Value → State → Outcome → State → Prop} {XC : String → State → State → Prop} {free : Addr → Prop} {Ts : List Cond} {own C : String} {b : Addr} {As rest : List Value} {g : JFrame}
theorem vx_callBack (cb : CallB R s args own index y bytes maxL ret ws rm mc ms n) (hM : vx_Met l y ws rm Pc Qc XC mc ms free) (hbl : FrameBlind Pc) : vx_Back l R p e below s args y 3 8 (PreOf R mc ms Pc) (PostOf Qc mc ms free) (vx_Post XC mc ms free) := by
  obtain ⟨hrc, hrs, hfr, hlo, hws, hcw, -, hini, -⟩ := cb
  exact vx_back (bytes := bytes) (maxL := maxL) (ret := ret) hM hbl hrc hrs hfr hlo hws hcw (fun a' U hW => word_at hW (Or.inl (by first | rfl | simp [Cond.onTables, Cond.keeps, Cond.steady])) hini)
theorem vx_runV (S : CallFix p m c cc nL s args Ts own) (hM : vx_Met l y ws rm Pc Qc XC mc ms free) (cw : CallW R s args own C index y bytes maxL ret ws rm mc ms n) (hp : PreV s H C b Pc As)
    (hg : g.method = m) (hn : As.length = n) (hsize : g.locals.size = nL) (hstack : g.stack = As.reverse ++ .ref b :: rest) (hW : 2 * g.monitorRoom + (rest.map fun v => v.category).sum ≤ 8) (hdg : decode cc g.pc = .ok (.invokevirtual index, 3)) (hf : cells + mc ≤ R.cells ∧ slots + ms ≤ R.slots) :
    vx_Run p l e R s m args below meth c H locs cells slots mc ms g rest (Qc (Value.ref b :: As).toArray) XC free := by
  have hK : vx_Back l R p e below s args y 3 8 (PreOf R mc ms Pc) (PostOf Qc mc ms free) (vx_Post XC mc ms free) := vx_callBack cw.1 hM hp.1
  obtain ⟨⟨-, -, -, -, -, -, hcode, -, hy, hlen, hl⟩, hin, hse⟩ := cw
  obtain ⟨hx, hb, hml, ho, -⟩ := S
  obtain ⟨-, ⟨cellB, hcB, hoB, hclB⟩, hPc⟩ := hp
  intro T hT X
  rcases vx_callV X hx (C := C) (bytes := bytes) (maxL := maxL) (ret := ret) ho hl hin hse hcode hy hK (by rw [hT]; exact hcB) hoB hclB hg (hsize.trans hml.symm) (argsL := As) (rest := rest) (fun sig h => hn.trans (hlen sig h)) hstack hW (by rw [hb]; exact hdg)
    (fun vm₁ hW₁ => ⟨hf.1, hf.2, hPc (T.setVm vm₁) hT hW₁⟩) with ⟨v, vm₁, ⟨U', l2, c2, s2⟩, hW₁, X', ⟨g', mk, t, L, e1, e2, hq, h1, hL, h2, h3⟩, st⟩ | ⟨q, vm₁, ⟨U', l2, c2, s2⟩, hW₁, X', ⟨g', mk, t, L, E, ce, e1, e2, hq, hce, hcv, hcl, h1, hL, h2, h3⟩, st⟩
  · dsimp only [Pt.U, Pt.locs, Pt.cells, Pt.slots] at X' e1 e2 h1 h2 h3 st
    subst h1; subst h2; subst h3
    exact Or.inl ⟨v, (T.setVm vm₁).calling g' mk (Value.ref b :: As).toArray, t, U', L, hT, X', hL, e1, e2, hq, st⟩
  · dsimp only [Pt.U, Pt.locs, Pt.cells, Pt.slots] at X' e1 e2 h1 h2 h3 st hcl
    subst h1; subst h2; subst h3
    exact Or.inr ⟨q, (T.setVm vm₁).calling g' mk (Value.ref b :: As).toArray, t, U', L, E, ce, hT, X', hL, e1, e2, hq, hce, hcv, vx_cls hW₁ hcl, st⟩
theorem vx_runS (S : CallFix p m c cc nL s args Ts own) (hM : vx_Met l y ws rm Pc Qc XC mc ms free) (cw : CallB R s args own index y bytes maxL ret ws rm mc ms n ∧ (Cond.static y).before args s = true) (hp : PreS s H Pc As)
    (hg : g.method = m) (hn : As.length = n) (hsize : g.locals.size = nL) (hstack : g.stack = As.reverse ++ rest) (hW : 2 * g.monitorRoom + (rest.map fun v => v.category).sum ≤ 8) (hdg : decode cc g.pc = .ok (.invokestatic index, 3)) (hf : cells + mc ≤ R.cells ∧ slots + ms ≤ R.slots) :
    vx_Run p l e R s m args below meth c H locs cells slots mc ms g rest (Qc As.toArray) XC free := by
  have hK : vx_Back l R p e below s args y 3 8 (PreOf R mc ms Pc) (PostOf Qc mc ms free) (vx_Post XC mc ms free) := vx_callBack cw.1 hM hp.1
  obtain ⟨⟨-, -, -, -, -, -, hcode, hini, hy, hlen, hl⟩, hstt⟩ := cw
  obtain ⟨hx, hb, hml, ho, -⟩ := S
  intro T hT X
  rcases vx_callS X hx (bytes := bytes) (maxL := maxL) (ret := ret) ho hl hstt hini hcode hy hK hg (hsize.trans hml.symm) (argsL := As) (rest := rest) (fun sig h => hn.trans (hlen sig h)) hstack hW (by rw [hb]; exact hdg)
    (fun vm₁ hW₁ => ⟨hf.1, hf.2, hp.2 (T.setVm vm₁) hT hW₁⟩) with ⟨v, vm₁, ⟨U', l2, c2, s2⟩, hW₁, X', ⟨g', mk, t, L, e1, e2, hq, h1, hL, h2, h3⟩, st⟩ | ⟨q, vm₁, ⟨U', l2, c2, s2⟩, hW₁, X', ⟨g', mk, t, L, E, ce, e1, e2, hq, hce, hcv, hcl, h1, hL, h2, h3⟩, st⟩
  · dsimp only [Pt.U, Pt.locs, Pt.cells, Pt.slots] at X' e1 e2 h1 h2 h3 st
    subst h1; subst h2; subst h3
    exact Or.inl ⟨v, (T.setVm vm₁).calling g' mk As.toArray, t, U', L, hT, X', hL, e1, e2, hq, st⟩
  · dsimp only [Pt.U, Pt.locs, Pt.cells, Pt.slots] at X' e1 e2 h1 h2 h3 st hcl
    subst h1; subst h2; subst h3
    exact Or.inr ⟨q, (T.setVm vm₁).calling g' mk As.toArray, t, U', L, E, ce, hT, X', hL, e1, e2, hq, hce, hcv, vx_cls hW₁ hcl, st⟩
end Runs
section Rows
variable {p : Program} {l : Launch} {e : Env} {R : Room} {s : State} {m : MethodId} {args : Array Value} {below : List Frame} {meth : Method} {c : Code} {H : Heap} {locs : List Loc} {cells slots : Nat} {Q : State → Prop}
variable {mc ms : Nat} {free : Addr → Prop} {A0 A1 : Nat → Prop} {H0 : Heap} {a : Array Value} {pc : Nat} {ls : Array Slot} {st0 rest : List Value}
theorem vx_keep {st₀ t T' : State} {L : List Loc} (h0 : st₀.heap = H) (e1 : T'.heap = t.heap) (hS : va_S A0 H0 H locs) (hA : ∀ q, q < H.size → A1 q → A0 q) (hf : ∀ q, free q → A0 q) (hL : ∀ q ∈ L, free q.base) (hF : va_F A1 st₀ t) :
    H.size ≤ T'.heap.size ∧ (∀ q : Nat, q < H.size → ¬ A1 q → T'.heap[q]? = H[q]?) ∧ va_S A0 H0 T'.heap (locs ++ L) := by
  obtain ⟨hz, hk⟩ := hF
  rw [h0] at hz hk
  exact ⟨by rw [e1]; exact hz, fun q h1 h2 => by rw [e1]; exact hk q h1 h2,
    ⟨Nat.le_trans hS.1 (by rw [e1]; exact hz), fun q h1 h2 => by rw [e1, hk q (Nat.lt_of_lt_of_le h1 hS.1) (fun z => h2 (hA q (Nat.lt_of_lt_of_le h1 hS.1) z))]; exact hS.2.1 q h1 h2, fun q hq => by
      rcases List.mem_append.mp hq with h | h
      · exact hS.2.2 q h
      · exact hf _ (hL q h)⟩⟩
theorem vx_calli {S SX : Type} {post : Int32 → S → Prop} {px : SX → Prop} {B : S → State → Prop} {BX : String → SX → State → Prop} {AX : Nat → Prop} (hr : vx_Run p l e R s m args below meth c H locs cells slots mc ms (F0 m pc ls st0) rest (va_Qi post B A1 a) (vx_X px BX AX) free) (hS : va_S A0 H0 H locs) (hA : ∀ q, q < H.size → A1 q → A0 q) (hf : ∀ q, free q → A0 q) (hAX : ∀ q, q < H.size → AX q → A0 q)
    (kx : ∀ (E : String) (ce : Cell) (q9 : Addr) (u : SX) (t : State) (H1 : Heap) (locs1 : List Loc), t.heap = H1 → s.vm.Alike t.vm → px u → BX E u t → H.size ≤ H1.size → (∀ q : Nat, q < H.size → ¬ AX q → H1[q]? = H[q]?) → va_S A0 H0 H1 locs1 → H1[q9]? = some ce → ce.vm = .none → s.vm.findClass E = some ce.cls → vx_W p l e R s m args below meth c H1 locs1 (cells + mc) (slots + ms) Q (F0 m pc ls rest) q9)
    (kk : ∀ (r : Int32) (u : S) (t : State) (H1 : Heap) (locs1 : List Loc), t.heap = H1 → s.vm.Alike t.vm → post r u → B u t → H.size ≤ H1.size → (∀ q : Nat, q < H.size → ¬ A1 q → H1[q]? = H[q]?) → va_S A0 H0 H1 locs1 → W p l e R s m args below meth c H1 locs1 (cells + mc) (slots + ms) Q (F0 m (pc + 3) ls (.int r :: rest))) : W p l e R s m args below meth c H locs cells slots Q (F0 m pc ls st0) := by
  intro T hT X
  rcases hr T hT X with ⟨v, st₀, t, T', L, h0, X', hL, e1, e2, ⟨⟨r, u, hv, hp, hb⟩, hF⟩, st⟩ | ⟨q, st₀, t, T', L, E, ce, h0, X', hL, e1, e2, ⟨u, hp, hb, hF⟩, hce, hcv, hcl, st⟩
  · cases hv
    obtain ⟨k1, k2, k3⟩ := vx_keep h0 e1 hS hA hf hL hF
    obtain ⟨t2, a1, b1⟩ := kk r u t T'.heap (locs ++ L) e1.symm (by rw [← e2]; exact X'.warmed.alike) hp hb k1 k2 k3 T' rfl X'
    exact ⟨t2, st t2 a1, b1⟩
  · obtain ⟨k1, k2, k3⟩ := vx_keep h0 e1 hS hAX hf hL hF
    obtain ⟨t2, a1, b1⟩ := kx E ce q u t T'.heap (locs ++ L) e1.symm (by rw [← e2]; exact X'.warmed.alike) hp hb k1 k2 k3 (by rw [e1]; exact hce) hcv hcl T' rfl X'
    exact ⟨t2, st.trans a1, b1⟩
theorem vx_calll {S SX : Type} {post : Int64 → S → Prop} {px : SX → Prop} {B : S → State → Prop} {BX : String → SX → State → Prop} {AX : Nat → Prop} (hr : vx_Run p l e R s m args below meth c H locs cells slots mc ms (F0 m pc ls st0) rest (va_Ql post B A1 a) (vx_X px BX AX) free) (hS : va_S A0 H0 H locs) (hA : ∀ q, q < H.size → A1 q → A0 q) (hf : ∀ q, free q → A0 q) (hAX : ∀ q, q < H.size → AX q → A0 q)
    (kx : ∀ (E : String) (ce : Cell) (q9 : Addr) (u : SX) (t : State) (H1 : Heap) (locs1 : List Loc), t.heap = H1 → s.vm.Alike t.vm → px u → BX E u t → H.size ≤ H1.size → (∀ q : Nat, q < H.size → ¬ AX q → H1[q]? = H[q]?) → va_S A0 H0 H1 locs1 → H1[q9]? = some ce → ce.vm = .none → s.vm.findClass E = some ce.cls → vx_W p l e R s m args below meth c H1 locs1 (cells + mc) (slots + ms) Q (F0 m pc ls rest) q9)
    (kk : ∀ (r : Int64) (u : S) (t : State) (H1 : Heap) (locs1 : List Loc), t.heap = H1 → s.vm.Alike t.vm → post r u → B u t → H.size ≤ H1.size → (∀ q : Nat, q < H.size → ¬ A1 q → H1[q]? = H[q]?) → va_S A0 H0 H1 locs1 → W p l e R s m args below meth c H1 locs1 (cells + mc) (slots + ms) Q (F0 m (pc + 3) ls (.long r :: rest))) : W p l e R s m args below meth c H locs cells slots Q (F0 m pc ls st0) := by
  intro T hT X
  rcases hr T hT X with ⟨v, st₀, t, T', L, h0, X', hL, e1, e2, ⟨⟨r, u, hv, hp, hb⟩, hF⟩, st⟩ | ⟨q, st₀, t, T', L, E, ce, h0, X', hL, e1, e2, ⟨u, hp, hb, hF⟩, hce, hcv, hcl, st⟩
  · cases hv
    obtain ⟨k1, k2, k3⟩ := vx_keep h0 e1 hS hA hf hL hF
    obtain ⟨t2, a1, b1⟩ := kk r u t T'.heap (locs ++ L) e1.symm (by rw [← e2]; exact X'.warmed.alike) hp hb k1 k2 k3 T' rfl X'
    exact ⟨t2, st t2 a1, b1⟩
  · obtain ⟨k1, k2, k3⟩ := vx_keep h0 e1 hS hAX hf hL hF
    obtain ⟨t2, a1, b1⟩ := kx E ce q u t T'.heap (locs ++ L) e1.symm (by rw [← e2]; exact X'.warmed.alike) hp hb k1 k2 k3 (by rw [e1]; exact hce) hcv hcl T' rfl X'
    exact ⟨t2, st.trans a1, b1⟩
theorem vx_callf {S SX : Type} {post : UInt32 → S → Prop} {px : SX → Prop} {B : S → State → Prop} {BX : String → SX → State → Prop} {AX : Nat → Prop} (hr : vx_Run p l e R s m args below meth c H locs cells slots mc ms (F0 m pc ls st0) rest (va_Qf post B A1 a) (vx_X px BX AX) free) (hS : va_S A0 H0 H locs) (hA : ∀ q, q < H.size → A1 q → A0 q) (hf : ∀ q, free q → A0 q) (hAX : ∀ q, q < H.size → AX q → A0 q)
    (kx : ∀ (E : String) (ce : Cell) (q9 : Addr) (u : SX) (t : State) (H1 : Heap) (locs1 : List Loc), t.heap = H1 → s.vm.Alike t.vm → px u → BX E u t → H.size ≤ H1.size → (∀ q : Nat, q < H.size → ¬ AX q → H1[q]? = H[q]?) → va_S A0 H0 H1 locs1 → H1[q9]? = some ce → ce.vm = .none → s.vm.findClass E = some ce.cls → vx_W p l e R s m args below meth c H1 locs1 (cells + mc) (slots + ms) Q (F0 m pc ls rest) q9)
    (kk : ∀ (r : UInt32) (u : S) (t : State) (H1 : Heap) (locs1 : List Loc), t.heap = H1 → s.vm.Alike t.vm → post r u → B u t → H.size ≤ H1.size → (∀ q : Nat, q < H.size → ¬ A1 q → H1[q]? = H[q]?) → va_S A0 H0 H1 locs1 → W p l e R s m args below meth c H1 locs1 (cells + mc) (slots + ms) Q (F0 m (pc + 3) ls (.float r :: rest))) : W p l e R s m args below meth c H locs cells slots Q (F0 m pc ls st0) := by
  intro T hT X
  rcases hr T hT X with ⟨v, st₀, t, T', L, h0, X', hL, e1, e2, ⟨⟨r, u, hv, hp, hb⟩, hF⟩, st⟩ | ⟨q, st₀, t, T', L, E, ce, h0, X', hL, e1, e2, ⟨u, hp, hb, hF⟩, hce, hcv, hcl, st⟩
  · cases hv
    obtain ⟨k1, k2, k3⟩ := vx_keep h0 e1 hS hA hf hL hF
    obtain ⟨t2, a1, b1⟩ := kk r u t T'.heap (locs ++ L) e1.symm (by rw [← e2]; exact X'.warmed.alike) hp hb k1 k2 k3 T' rfl X'
    exact ⟨t2, st t2 a1, b1⟩
  · obtain ⟨k1, k2, k3⟩ := vx_keep h0 e1 hS hAX hf hL hF
    obtain ⟨t2, a1, b1⟩ := kx E ce q u t T'.heap (locs ++ L) e1.symm (by rw [← e2]; exact X'.warmed.alike) hp hb k1 k2 k3 (by rw [e1]; exact hce) hcv hcl T' rfl X'
    exact ⟨t2, st.trans a1, b1⟩
theorem vx_calld {S SX : Type} {post : UInt64 → S → Prop} {px : SX → Prop} {B : S → State → Prop} {BX : String → SX → State → Prop} {AX : Nat → Prop} (hr : vx_Run p l e R s m args below meth c H locs cells slots mc ms (F0 m pc ls st0) rest (va_Qd post B A1 a) (vx_X px BX AX) free) (hS : va_S A0 H0 H locs) (hA : ∀ q, q < H.size → A1 q → A0 q) (hf : ∀ q, free q → A0 q) (hAX : ∀ q, q < H.size → AX q → A0 q)
    (kx : ∀ (E : String) (ce : Cell) (q9 : Addr) (u : SX) (t : State) (H1 : Heap) (locs1 : List Loc), t.heap = H1 → s.vm.Alike t.vm → px u → BX E u t → H.size ≤ H1.size → (∀ q : Nat, q < H.size → ¬ AX q → H1[q]? = H[q]?) → va_S A0 H0 H1 locs1 → H1[q9]? = some ce → ce.vm = .none → s.vm.findClass E = some ce.cls → vx_W p l e R s m args below meth c H1 locs1 (cells + mc) (slots + ms) Q (F0 m pc ls rest) q9)
    (kk : ∀ (r : UInt64) (u : S) (t : State) (H1 : Heap) (locs1 : List Loc), t.heap = H1 → s.vm.Alike t.vm → post r u → B u t → H.size ≤ H1.size → (∀ q : Nat, q < H.size → ¬ A1 q → H1[q]? = H[q]?) → va_S A0 H0 H1 locs1 → W p l e R s m args below meth c H1 locs1 (cells + mc) (slots + ms) Q (F0 m (pc + 3) ls (.double r :: rest))) : W p l e R s m args below meth c H locs cells slots Q (F0 m pc ls st0) := by
  intro T hT X
  rcases hr T hT X with ⟨v, st₀, t, T', L, h0, X', hL, e1, e2, ⟨⟨r, u, hv, hp, hb⟩, hF⟩, st⟩ | ⟨q, st₀, t, T', L, E, ce, h0, X', hL, e1, e2, ⟨u, hp, hb, hF⟩, hce, hcv, hcl, st⟩
  · cases hv
    obtain ⟨k1, k2, k3⟩ := vx_keep h0 e1 hS hA hf hL hF
    obtain ⟨t2, a1, b1⟩ := kk r u t T'.heap (locs ++ L) e1.symm (by rw [← e2]; exact X'.warmed.alike) hp hb k1 k2 k3 T' rfl X'
    exact ⟨t2, st t2 a1, b1⟩
  · obtain ⟨k1, k2, k3⟩ := vx_keep h0 e1 hS hAX hf hL hF
    obtain ⟨t2, a1, b1⟩ := kx E ce q u t T'.heap (locs ++ L) e1.symm (by rw [← e2]; exact X'.warmed.alike) hp hb k1 k2 k3 (by rw [e1]; exact hce) hcv hcl T' rfl X'
    exact ⟨t2, st.trans a1, b1⟩
theorem vx_callv {S SX : Type} {post : S → Prop} {px : SX → Prop} {B : S → State → Prop} {BX : String → SX → State → Prop} {AX : Nat → Prop} (hr : vx_Run p l e R s m args below meth c H locs cells slots mc ms (F0 m pc ls st0) rest (va_Qv post B A1 a) (vx_X px BX AX) free) (hS : va_S A0 H0 H locs) (hA : ∀ q, q < H.size → A1 q → A0 q) (hf : ∀ q, free q → A0 q) (hAX : ∀ q, q < H.size → AX q → A0 q)
    (kx : ∀ (E : String) (ce : Cell) (q9 : Addr) (u : SX) (t : State) (H1 : Heap) (locs1 : List Loc), t.heap = H1 → s.vm.Alike t.vm → px u → BX E u t → H.size ≤ H1.size → (∀ q : Nat, q < H.size → ¬ AX q → H1[q]? = H[q]?) → va_S A0 H0 H1 locs1 → H1[q9]? = some ce → ce.vm = .none → s.vm.findClass E = some ce.cls → vx_W p l e R s m args below meth c H1 locs1 (cells + mc) (slots + ms) Q (F0 m pc ls rest) q9)
    (kk : ∀ (u : S) (t : State) (H1 : Heap) (locs1 : List Loc), t.heap = H1 → s.vm.Alike t.vm → post u → B u t → H.size ≤ H1.size → (∀ q : Nat, q < H.size → ¬ A1 q → H1[q]? = H[q]?) → va_S A0 H0 H1 locs1 → W p l e R s m args below meth c H1 locs1 (cells + mc) (slots + ms) Q (F0 m (pc + 3) ls (rest))) : W p l e R s m args below meth c H locs cells slots Q (F0 m pc ls st0) := by
  intro T hT X
  rcases hr T hT X with ⟨v, st₀, t, T', L, h0, X', hL, e1, e2, ⟨⟨u, hv, hp, hb⟩, hF⟩, st⟩ | ⟨q, st₀, t, T', L, E, ce, h0, X', hL, e1, e2, ⟨u, hp, hb, hF⟩, hce, hcv, hcl, st⟩
  · cases hv
    obtain ⟨k1, k2, k3⟩ := vx_keep h0 e1 hS hA hf hL hF
    obtain ⟨t2, a1, b1⟩ := kk u t T'.heap (locs ++ L) e1.symm (by rw [← e2]; exact X'.warmed.alike) hp hb k1 k2 k3 T' rfl X'
    exact ⟨t2, st t2 a1, b1⟩
  · obtain ⟨k1, k2, k3⟩ := vx_keep h0 e1 hS hAX hf hL hF
    obtain ⟨t2, a1, b1⟩ := kx E ce q u t T'.heap (locs ++ L) e1.symm (by rw [← e2]; exact X'.warmed.alike) hp hb k1 k2 k3 (by rw [e1]; exact hce) hcv hcl T' rfl X'
    exact ⟨t2, st.trans a1, b1⟩
/-- caught by the row x of this method's table; the rows ahead don't take it -/
theorem vx_catch {own name : String} {E : String} {ce : Cell} {q : Addr} (hown : s.vm.findClass own = some m.cls) (pre : List ExceptionTableEntry) (x : ExceptionTableEntry) (suf : List ExceptionTableEntry) (hsplit : c.exceptionTable.toList = pre ++ x :: suf)
    (hpass : ∀ z ∈ pre, covers z pc = false ∨ (z.catchType ≠ 0 ∧ ∃ nm : String, (Cond.classLink own z.catchType nm).before args s = true ∧ va_Nc E nm s)) (hx : covers x pc = true) (h0 : x.catchType ≠ 0)
    (hlink : (Cond.classLink own x.catchType name).before args s = true) (hcast : (Cond.castable E name).before args s = true) (hcell : H[q]? = some ce) (hv : ce.vm = .none) (hcl : s.vm.findClass E = some ce.cls)
    (kk : W p l e R s m args below meth c H locs cells slots Q (F0 m x.handlerPc ls [.ref q])) : vx_W p l e R s m args below meth c H locs cells slots Q (F0 m pc ls rest) q := by
  intro T hT X
  have hpl : e.platform.magicAccessors = ({} : Platform).magicAccessors := by rw [X.admits.platform]
  obtain ⟨c3, c4, hc3, hc4, hasg⟩ := Cond.castable_spec hcast
  cases Option.some.inj (hc3.symm.trans hcl)
  obtain ⟨c5, hc5, hcl5⟩ := Cond.classLink_spec hown hlink e.platform hpl
  cases Option.some.inj (hc4.symm.trans hc5)
  obtain ⟨vm', X', st⟩ := Jvm.Stand.thenCaughtThrough X q (g := F0 m pc ls rest) rfl (Steps.refl _) (by rw [hT]; exact hcell) (by rw [hv]; rfl) (by obtain ⟨k9, h9, -⟩ := Vm.findClass_spec hcl; exact ⟨k9, h9⟩) pre x suf hsplit
    (fun z hz => by
      rcases hpass z hz with h | ⟨hz0, nm, hl1, hn1⟩
      · exact Or.inl h
      · obtain ⟨c6, hc6, hcl6⟩ := Cond.classLink_spec hown hl1 e.platform hpl
        obtain ⟨a8, b8, h1, h2, h3⟩ := hn1
        cases Option.some.inj (h1.symm.trans hcl)
        cases Option.some.inj (h2.symm.trans hc6)
        exact Or.inr ⟨hz0, _, hcl6, h3⟩) hx (Or.inr ⟨h0, c4, hcl5, hasg⟩)
  obtain ⟨t, a1, b1⟩ := kk (T.setVm vm') hT X'
  exact ⟨t, st.trans a1, b1⟩
end Rows
section Ends
variable {p : Program} {l : Launch} {e : Env} {R : Room} {s : State} {m : MethodId} {args : Array Value} {below : List Frame} {meth : Method} {c : Code} {H : Heap} {locs : List Loc} {cells slots : Nat} {Q : State → Prop}
variable {mc ms : Nat} {free : Addr → Prop} {A0 A1 : Nat → Prop} {H0 : Heap} {a : Array Value} {ls : Array Slot} {st0 rest : List Value}
variable {Qc : Array Value → State → Outcome → State → Prop} {XC : String → State → State → Prop}
/-- what a body that may throw owes at its end -/
def vx_MQ (below : List Frame) (Qc : Array Value → State → Outcome → State → Prop) (XC : String → State → State → Prop) (a : Array Value) (s : State) (mc ms : Nat) (free : Addr → Prop) : State → Prop := fun t =>
  ∃ o, t.status = .running ∧ Ended t below o ∧ vx_Q Qc XC mc ms free a s o t
theorem vx_ret {g : JFrame} {mc ms : Nat} (k : W p l e R s m args below meth c H locs cells slots (MQ below Qc args s mc ms free) g) : W p l e R s m args below meth c H locs cells slots (vx_MQ below Qc XC args s mc ms free) g := by
  intro T hT X
  obtain ⟨t, a1, o, b1, b2, b3, b4⟩ := k T hT X
  exact ⟨t, a1, o, b1, b2, Or.inl ⟨b3, b4⟩⟩
/-- not caught here: it goes on to the caller -/
theorem vx_widen {g : JFrame} {q : Addr} {k n : Nat} (h1 : cells ≤ k) (h2 : slots ≤ n) (kk : vx_W p l e R s m args below meth c H locs k n Q g q) : vx_W p l e R s m args below meth c H locs cells slots Q g q := fun T hT X => kk T hT (stand_widen X h1 h2)
theorem vx_out {pc : Nat} {E : String} {ce : Cell} {q : Addr} {mc ms : Nat} (hout : ∀ x ∈ c.exceptionTable.toList, covers x pc = false) (hlocks : meth.locks = false) (hcell : H[q]? = some ce) (hv : ce.vm = .none) (hcl : s.vm.findClass E = some ce.cls)
    (hx : ∀ t : State, t.heap = H → s.vm.Alike t.vm → XC E s t) (hf : ∀ z ∈ locs, free z.base) (hc : cells ≤ mc) (hs : slots ≤ ms) :
    vx_W p l e R s m args below meth c H locs cells slots (vx_MQ below Qc XC args s mc ms free) (F0 m pc ls rest) q := by
  intro T hT X
  obtain ⟨st1, hrun, hend, hW, hsm⟩ := X.leaveThrown q (g := F0 m pc ls rest) rfl rfl rfl hout hlocks
  have hcell9 : (T.setFrames (.throwing q :: below)).heap[q]? = some ce := by
    show T.heap[q]? = some ce
    rw [hT]; exact hcell
  exact ⟨_, st1, .threw q, hrun, hend, Or.inr ⟨q, rfl, E, ce, locs, hx _ hT hW.alike, hcell9, hv, hcl, hW, hsm.mono hc hs, hf⟩⟩
theorem vx_frame {U : State} {k n : Nat} (h : s.sameButNew ({ U with vm := s.vm } : State) locs k n) : s.heap.size ≤ U.heap.size ∧ ∀ q : Nat, q < s.heap.size → (∀ z ∈ locs, z.base ≠ q) → U.heap[q]? = s.heap[q]? := by
  obtain ⟨-, h2, -, -, -, h6⟩ := h
  refine ⟨h2, fun q hq hz => ?_⟩
  obtain ⟨c9, e1, e2, e3, e4⟩ := h6 q _ (Array.getElem?_eq_getElem hq)
  have hs : c9.slots = (s.heap[q]).slots := Array.ext_getElem? fun i => e4 i fun hm => hz _ hm rfl
  have h9 : c9 = s.heap[q] := by
    rw [hs] at e2
    exact e2
  have e5 : U.heap[q]? = some c9 := e1
  rw [e5, h9, Array.getElem?_eq_getElem hq]
/-- the words of a throw but the four that speak of the heap -/
def vx_no (w : Cond) : Bool := decide (w ≠ .isRef (.static Bundle.tN "UNASSIGNED_STACK" Bundle.steD)) && decide (w ≠ .isRef (.static Bundle.tN "SUPPRESSED_SENTINEL" Bundle.listD)) && decide (w ≠ .laysStatic Bundle.tN "UNASSIGNED_STACK" Bundle.steD) && decide (w ≠ .laysStatic Bundle.tN "SUPPRESSED_SENTINEL" Bundle.listD)
def vx_at0 (own : String) (ic : Nat) (X : String) (names : List String) : List Cond := (Bundle.ownAtoms0 own ic X names).filter vx_no
def vx_atS (own : String) (ic : Nat) (X : String) (names : List String) : List Cond := (Bundle.ownAtoms own ic X names).filter vx_no
/-- a word that the tables alone decide, or a good one -/
def vx_ot (w : Cond) : Bool := w.onTables || goodWord w
theorem vx_ot_at {args a' : Array Value} {s U : State} {w : Cond} (hW : s.WarmedH U.vm) (hvm : s.vm = U.vm) (hg : vx_ot w = true) (h : w.before args s = true) : w.before a' U = true := by
  simp only [vx_ot, Bool.or_eq_true] at hg
  rcases hg with hg | hg
  · exact va_tabs hg hvm h
  · exact word_at hW (good_of_word hg) h
/-- a list's words: the good ones out of the method's own list, the others by premises of their own -/
theorem vx_hat {args : Array Value} {s : State} {L B : List Cond} (h1 : ∀ w ∈ L.filter goodWord, w.before args s = true) (h2 : ∀ w ∈ L.filter (fun w => !goodWord w), w ∈ B) (h3 : ∀ w ∈ B, w.before args s = true) : ∀ w ∈ L, w.before args s = true := by
  intro w hw
  by_cases g : goodWord w = true
  · exact h1 w (List.mem_filter.mpr ⟨hw, g⟩)
  · refine h3 w (h2 w (List.mem_filter.mpr ⟨hw, ?_⟩))
    show (!goodWord w) = true
    cases hgw : goodWord w
    · rfl
    · exact absurd hgw g
theorem vx_c {args : Array Value} {s : State} {w : Cond} {B : List Cond} (h : w.before args s = true) (t : ∀ w ∈ B, w.before args s = true) : ∀ w' ∈ w :: B, w'.before args s = true := fun w' h' => (List.mem_cons.mp h').elim (fun e => by rw [e]; exact h) (t w')
theorem vx_n {args : Array Value} {s : State} : ∀ w ∈ ([] : List Cond), w.before args s = true := fun _ h => nomatch h
theorem vx_own {args : Array Value} {s : State} {L : List Cond} (h1 : ∀ w ∈ L.filter vx_no, w.before args s = true)
    (hU : (Cond.isRef (.static Bundle.tN "UNASSIGNED_STACK" Bundle.steD)).before args s = true) (hN : (Cond.isRef (.static Bundle.tN "SUPPRESSED_SENTINEL" Bundle.listD)).before args s = true)
    (lU : (Cond.laysStatic Bundle.tN "UNASSIGNED_STACK" Bundle.steD).before args s = true) (lN : (Cond.laysStatic Bundle.tN "SUPPRESSED_SENTINEL" Bundle.listD).before args s = true) : ∀ w ∈ L, w.before args s = true := by
  intro w hw
  by_cases e1 : w = .isRef (.static Bundle.tN "UNASSIGNED_STACK" Bundle.steD)
  · rw [e1]; exact hU
  · by_cases e2 : w = .isRef (.static Bundle.tN "SUPPRESSED_SENTINEL" Bundle.listD)
    · rw [e2]; exact hN
    · by_cases e3 : w = .laysStatic Bundle.tN "UNASSIGNED_STACK" Bundle.steD
      · rw [e3]; exact lU
      · by_cases e4 : w = .laysStatic Bundle.tN "SUPPRESSED_SENTINEL" Bundle.listD
        · rw [e4]; exact lN
        · exact h1 w (List.mem_filter.mpr ⟨hw, by unfold vx_no; rw [decide_eq_true e1, decide_eq_true e2, decide_eq_true e3, decide_eq_true e4]; rfl⟩)
/-- where a static field lies, its class's statics cell in H -/
def vx_L (C n d : String) (A : Nat → Prop) (U : State) (H : Heap) : Prop := ∃ (c : ClassId) (k : Class) (i : Nat) (f : Field) (a : Nat) (cell : Cell), U.vm.findClass C = some c ∧ U.fieldFound? C n d = some (c, k, i, f) ∧ f.isStatic = true ∧ k.statics = some a ∧ H[a]? = some cell ∧ cell.vm.isStatics = true ∧ cell.cls = c ∧ f.slot < cell.slots.size ∧ k.staticTypes[f.slot]? = some f.type ∧ ¬ A a
theorem vx_L.moved {C n d : String} {A : Nat → Prop} {u U : State} {H : Heap} (hvm : u.vm.Alike U.vm) (h : vx_L C n d A u H) : vx_L C n d A U H := by
  obtain ⟨c, k, i, f, a, cell, h1, h2, h3, h4, h5, h6, h7, h8, h9, h10⟩ := h
  obtain ⟨k', hi', he⟩ := State.fieldFound?_setVm hvm h2
  exact ⟨c, k', i, f, a, cell, by rw [hvm.findClass]; exact h1, hi', h3, by rw [he]; exact h4, h5, h6, h7, h8, by rw [he]; exact h9, h10⟩
theorem vx_L.kept {C n d : String} {A : Nat → Prop} {U : State} {H H1 : Heap} (h : vx_L C n d A U H) (hq : ∀ a : Nat, a < H.size → ¬ A a → H1[a]? = H[a]?) : vx_L C n d A U H1 := by
  obtain ⟨c, k, i, f, a, cell, h1, h2, h3, h4, h5, h6, h7, h8, h9, h10⟩ := h
  exact ⟨c, k, i, f, a, cell, h1, h2, h3, h4, by rw [hq a (Array.getElem?_eq_some_iff.mp h5).1 h10]; exact h5, h6, h7, h8, h9, h10⟩
theorem vx_L.narrow {C n d : String} {A B : Nat → Prop} {U : State} {H : Heap} (h : vx_L C n d A U H) (hAB : ∀ q, B q → A q) : vx_L C n d B U H := by
  obtain ⟨c, k, i, f, a, cell, h1, h2, h3, h4, h5, h6, h7, h8, h9, h10⟩ := h
  exact ⟨c, k, i, f, a, cell, h1, h2, h3, h4, h5, h6, h7, h8, h9, fun z => h10 (hAB _ z)⟩
theorem vx_L.word {C n d : String} {A : Nat → Prop} {s : State} {args : Array Value} (h : vx_L C n d A s s.heap) : (Cond.laysStatic C n d).before args s = true := by
  obtain ⟨c, k, i, f, a, cell, h1, h2, h3, h4, h5, h6, h7, h8, h9, -⟩ := h
  show (Cond.laysStatic C n d).holds args s none s [] = true
  exact Cond.laysStatic_of h1 h2 h3 h4 h5 h6 h7 h8 h9
/-- .. and what it holds: null or some reference -/
def vx_Zq (C n d : String) (A : Nat → Prop) (U : State) (H : Heap) : Prop := va_Zq C n d A U H ∧ vx_L C n d A U H
theorem vx_Zq.moved {C n d : String} {A : Nat → Prop} {u U : State} {H : Heap} (hvm : u.vm.Alike U.vm) (h : vx_Zq C n d A u H) : vx_Zq C n d A U H := ⟨va_Zq.moved hvm h.1, vx_L.moved hvm h.2⟩
theorem vx_Zq.kept {C n d : String} {A : Nat → Prop} {U : State} {H H1 : Heap} (h : vx_Zq C n d A U H) (hq : ∀ a : Nat, a < H.size → ¬ A a → H1[a]? = H[a]?) : vx_Zq C n d A U H1 := ⟨va_Zq.kept h.1 hq, vx_L.kept h.2 hq⟩
theorem vx_Zq.narrow {C n d : String} {A B : Nat → Prop} {U : State} {H : Heap} (h : vx_Zq C n d A U H) (hAB : ∀ q, B q → A q) : vx_Zq C n d B U H := ⟨va_Zq.narrow h.1 hAB, vx_L.narrow h.2 hAB⟩
theorem vx_Zqof {args : Array Value} {s : State} {C n d : String} {A : Nat → Prop} (hl : (Cond.laysStatic C n d).before args s = true) (hini : (Cond.initialized C).before args s = true) (h : (Cond.isRef (.static C n d)).before args s = true) (hA : ∀ a : Nat, a < s.heap.size → ¬ A a) : vx_Zq C n d A s s.heap := by
  refine ⟨va_Zqof hl hini h hA, ?_⟩
  obtain ⟨c, k, i, f, a, cell, h1, h2, h3, h4, h5, h6, h7, h8, h9⟩ := Cond.laysStatic_spec hl
  exact ⟨c, k, i, f, a, cell, h1, h2, h3, h4, h5, h6, h7, h8, h9, hA a (Array.getElem?_eq_some_iff.mp h5).1⟩
theorem vx_isRef {C n d : String} {v : Value} {A : Nat → Prop} {s : State} {args : Array Value} (h : va_Z C n d v A s s.heap) (hv : v.isRef = true) : (Cond.isRef (.static C n d)).before args s = true := by
  obtain ⟨cf, kf, fi, f, a, cell, h1, h2, h3, h4, h5, h6, h7, -⟩ := h
  have he : (Term.static C n d).eval args s none [] s = some v := by
    simp [Term.eval, State.fieldNamed?, h1, h2, h4, h5, h6, h7]
  simp only [Cond.before, Cond.holds, Cond.value, he]
  cases v <;> simp_all [Value.isRef]
theorem vx_isRefq {C n d : String} {A : Nat → Prop} {s : State} {args : Array Value} (h : va_Zq C n d A s s.heap) : (Cond.isRef (.static C n d)).before args s = true := by
  rcases h with h | ⟨t, h⟩
  · exact vx_isRef h rfl
  · exact vx_isRef h rfl
/-- the same frame, seen from here: as if the method were called anew in this heap -/
theorem vx_rebase {T : State} (X : Stand p l e R s m args below meth c T locs cells slots) {R' : Room} (hf : R'.frames ≤ R.frames) (hl : R'.locals ≤ R.locals) (hc : cells + R'.cells ≤ R.cells) (hs : slots + R'.slots ≤ R.slots) :
    Stand p l e R' ((T.setVm s.vm).setFrames (.invoking m args :: below)) m args below meth c T [] 0 0 := by
  have htop : (T.setVm s.vm).topJava?.isSome := X.here.top
  have hF : ((T.setVm s.vm).setFrames (.invoking m args :: below)).frames = .invoking m args :: below := State.frames_setFrames _ (State.cur_lt_of_top htop)
  obtain ⟨g₀, hg0⟩ := Option.isSome_iff_exists.mp htop
  obtain ⟨r, hr⟩ := State.topJava?_eq_some.mp hg0
  have hl9 : e.platform.stackLimits (T.setVm s.vm).me = e.platform.stackLimits s.me := X.limits
  have hb9 : (T.setVm s.vm).me.stackBytes = s.me.stackBytes := X.bytes
  refine ⟨X.admits, X.cas, X.clock, hF, ?_, X.hears, X.method, X.code, X.here, X.tail, X.warmed, ?_, ?_, ?_⟩
  · have h := X.room
    have hU : ((T.setVm s.vm).setFrames (.invoking m args :: below)).localsInUse = s.localsInUse := by
      rw [State.localsInUse_invoking hF (meth := meth) (c := c) X.method X.code, State.localsInUse_invoking X.frames X.method X.code]
    simp only [State.hasRoom, Bool.and_eq_true, decide_eq_true_eq] at h ⊢
    obtain ⟨⟨⟨⟨h1, h2, h3, h4, h5, h6⟩, h7⟩, h8⟩, h9⟩ := h
    rw [X.frames, List.length_cons] at h2 h3
    have q1 := X.heapSize
    have q2 := X.used
    simp only [hF, hU, List.length_cons, State.stackLimits_setFrames, State.stackBytes_setFrames, hl9, hb9]
    refine ⟨⟨⟨⟨by omega, by omega, by omega, by omega, by omega, h6⟩, ?_⟩, ?_⟩, X.book⟩
    · show T.heap.size + R'.cells ≤ e.platform.maxCells
      omega
    · show T.slotsUsed + R'.slots ≤ e.platform.maxSlots
      omega
  · rw [State.stackLimits_setFrames]; rfl
  · rw [State.stackBytes_setFrames]; rfl
  · refine ⟨?_, Nat.le_refl _, Nat.le_refl _, ?_, ?_, fun a c9 h9 => ⟨c9, h9, rfl, rfl, fun _ _ => rfl⟩⟩
    · obtain ⟨t, ht, -⟩ := State.frames_cons hr
      show T.setVm s.vm = { ((T.setVm s.vm).setFrames (.invoking m args :: below)).setFrames (T.setVm s.vm).frames with heap := T.heap, slotsUsed := T.slotsUsed }
      rw [State.setFrames_setFrames, State.setFrames_self ht]
      rfl
    · show T.slotsUsed = T.slotsUsed + ((T.heap.toList.drop T.heap.size).map (·.slots.size)).sum
      rw [List.drop_eq_nil_of_le (Nat.le_of_eq Array.length_toList)]
      rfl
    · show ((T.heap.toList.drop T.heap.size).map (·.slots.size)).sum ≤ 0
      rw [List.drop_eq_nil_of_le (Nat.le_of_eq Array.length_toList)]
      exact Nat.le_refl _
/-- 'throw new E()': new; dup; invokespecial; athrow -/
theorem vx_throw0 {cc : ByteArray} {pc : Nat} (hexec : p.tables.exec = Jvm.exec) (hb : c.code = cc) (hl : l.stackTraces = false) {own cls : String} {names : List String} {ik ic mc ms : Nat} {A : Nat → Prop}
    (hown : s.vm.findClass own = some m.cls) (hcls : Bundle.fit cls = true) (hnames : ∀ n ∈ names, Bundle.fit n = true)
    (hk : (Cond.classLink own ik cls).before args s = true) (hini : (Cond.initialized cls).before args s = true) (hat : ∀ w ∈ vx_at0 own ic cls names, w.before args s = true)
    (hgood : ∀ w ∈ Cond.classLink own ik cls :: Cond.initialized cls :: vx_at0 own ic cls names, vx_ot w = true)
    (hU : vx_Zq Bundle.tN "UNASSIGNED_STACK" Bundle.steD A s s.heap) (hN : vx_Zq Bundle.tN "SUPPRESSED_SENTINEL" Bundle.listD A s s.heap) (hS : va_S A s.heap H locs) (hsize : ls.size = c.maxLocals)
    (d0 : decode cc pc = .ok (.new ik, 3)) (d3 : decode cc (pc + 3) = .ok (.dup, 1)) (d4 : decode cc (pc + 4) = .ok (.invokespecial ic, 3)) (d7 : decode cc (pc + 7) = .ok (.athrow, 1))
    (hout : ∀ x ∈ c.exceptionTable.toList, covers x (pc + 7) = false)
    (hRframes : names.length + 3 < R.frames) (hRlocals : (rest.map fun v => v.category).sum + (13 * (names.length + 1) + 42) ≤ R.locals) (hRcells : cells + 1 ≤ R.cells) (hRslots : slots + 6 ≤ R.slots) (hlocks : meth.locks = false)
    (hx : ∀ t : State, s.vm.Alike t.vm → H.size ≤ t.heap.size → (∀ q : Nat, q < H.size → t.heap[q]? = H[q]?) → XC cls s t)
    (hf : ∀ z ∈ locs, free z.base) (hc : cells + 1 ≤ mc) (hs : slots + 6 ≤ ms) :
    W p l e R s m args below meth c H locs cells slots (vx_MQ below Qc XC args s mc ms free) (F0 m pc ls rest) := by
  intro T hT X
  have htr : e.platform.stackTraces = false := (show e.platform.stackTraces = l.stackTraces by rw [X.admits.platform]).trans hl
  have Y := vx_rebase X (R' := { frames := R.frames, locals := R.locals, cells := 1, slots := 6 }) (Nat.le_refl _) (Nat.le_refl _) hRcells hRslots
  obtain ⟨s', hA⟩ : ∃ z, z = (T.setVm s.vm).setFrames (.invoking m args :: below) := ⟨_, rfl⟩
  rw [← hA] at Y
  have hvm : s'.vm = s.vm := by rw [hA]; rfl
  have hhp : s'.heap = H := by rw [hA]; exact hT
  have hW0 : s.WarmedH s'.vm := by rw [hvm]; exact State.WarmedH.refl s
  have hat' : ∀ w ∈ vx_at0 own ic cls names, w.before args s' = true := fun w hw => vx_ot_at hW0 hvm.symm (hgood w (List.mem_cons_of_mem _ (List.mem_cons_of_mem _ hw))) (hat w hw)
  have hk' : (Cond.classLink own ik cls).before args s' = true := vx_ot_at hW0 hvm.symm (hgood _ List.mem_cons_self) hk
  have hini' : (Cond.initialized cls).before args s' = true := vx_ot_at hW0 hvm.symm (hgood _ (List.mem_cons_of_mem _ List.mem_cons_self)) hini
  have hU' : vx_Zq Bundle.tN "UNASSIGNED_STACK" Bundle.steD A s' s'.heap := by rw [hhp]; exact vx_Zq.moved hW0.alike (hU.kept hS.2.1)
  have hN' : vx_Zq Bundle.tN "SUPPRESSED_SENTINEL" Bundle.listD A s' s'.heap := by rw [hhp]; exact vx_Zq.moved hW0.alike (hN.kept hS.2.1)
  have h : ∀ w ∈ Bundle.ownAtoms0 own ic cls names, w.before args s' = true := vx_own hat' (vx_isRefq hU'.1) (vx_isRefq hN'.1) hU'.2.word hN'.2.word
  have hown' : s'.vm.findClass own = some m.cls := by rw [hvm]; exact hown
  have hins : (Cond.instantiable cls 6).before args s' = true := h _ (by simp [Bundle.ownAtoms0])
  obtain ⟨vm₁, cX, kX, hfX, hkX, -, -, X₁, st1⟩ := Y.newCold hexec (own := own) (C := cls) (index := ik) (n := 6) hown' hk' hins hini'
    (g := F0 m pc ls rest) rfl (by rw [hb]; exact d0) (Nat.le_refl _) (Nat.le_refl _)
  generalize hT1 : (T.setVm vm₁).pushCell { cls := cX, slots := kX.instanceTypes.map defaultValue, vm := .none } = T1 at X₁ st1
  have hcat : (Value.ref T.heap.size).category = 1 := rfl
  have hcellA : T1.heap[T.heap.size]? = some (freshCell cX kX) := by rw [← hT1]; exact State.heap_pushCell_size _ _
  have d3' : decode c.code (pc + 3) = .ok (.dup, 1) := by rw [hb]; exact d3
  obtain ⟨U, hsteps, hrun, hend, hW, hsame, ce, hce, hO⟩ := X₁.ctorThrow0 hexec htr (own := own) (cls := cls) (names := names) (ic := ic) hown' hcls hnames h (fun x hx => nomatch hx) hfX hkX hcellA (by rw [hhp, hT]; exact Nat.le_refl _)
    (g := { method := m, pc := pc + 4, locals := ls, stack := .ref T.heap.size :: .ref T.heap.size :: rest, locked := none }) rfl hsize rfl rfl (rest := rest) rfl
    (by rw [hb]; exact d4) (by rw [hb]; exact d7) hout hRframes (by simp only [List.map_cons, List.sum_cons, hcat]; omega) hlocks
  obtain ⟨f1, f2⟩ := vx_frame hsame
  rw [hhp] at f1 f2
  have hWs : s.WarmedH U.vm := State.WarmedH.trans hW0 hW
  have hcl : s.vm.findClass cls = some ce.cls := by
    have h9 := hO.cls
    rw [hvm] at h9
    exact h9
  have hall : s.sameButNew ({ U with vm := s.vm } : State) locs mc ms := by
    subst hA
    obtain ⟨e1, e2⟩ := hsame
    rw [State.setFrames_setFrames] at e1
    have h2 : (T.setVm s.vm).sameButNew ({ U with vm := s.vm } : State) [] (0 + 1) (0 + 6) := ⟨e1, e2⟩
    have h3 := X.same.trans h2
    rw [List.append_nil] at h3
    exact h3.mono hc hs
  refine ⟨U, ?_, .threw T.heap.size, hrun, hend, Or.inr ⟨T.heap.size, rfl, cls, ce, locs, hx U hWs.alike f1 (fun q hq => f2 q hq (fun z hz => nomatch hz)), hce, hO.vm, hcl, hWs, hall, hf⟩⟩
  refine st1 _ ?_
  show Steps p.tables e below (T1.setTop { method := m, pc := pc + 3, locals := ls, stack := .ref T.heap.size :: rest, locked := none }) _
  jvm_step X₁.here [X₁.here.top, hexec, d3', Value.category]
  exact hsteps
/-- 'throw new E("text")': new; dup; ldc; invokespecial; athrow -/
theorem vx_throwS {cc : ByteArray} {pc : Nat} (hexec : p.tables.exec = Jvm.exec) (hb : c.code = cc) (hl : l.stackTraces = false) {own cls text : String} {names : List String} {ik is ic mc ms sa : Nat} {A : Nat → Prop}
    (hown : s.vm.findClass own = some m.cls) (hcls : Bundle.fit cls = true) (hnames : ∀ n ∈ names, Bundle.fit n = true)
    (hk : (Cond.classLink own ik cls).before args s = true) (hini : (Cond.initialized cls).before args s = true) (hstr : vk_R own is text sa s) (hat : ∀ w ∈ vx_atS own ic cls names, w.before args s = true)
    (hgood : ∀ w ∈ Cond.classLink own ik cls :: Cond.initialized cls :: vx_atS own ic cls names, vx_ot w = true)
    (hU : vx_Zq Bundle.tN "UNASSIGNED_STACK" Bundle.steD A s s.heap) (hN : vx_Zq Bundle.tN "SUPPRESSED_SENTINEL" Bundle.listD A s s.heap) (hS : va_S A s.heap H locs) (hsize : ls.size = c.maxLocals)
    (d0 : decode cc pc = .ok (.new ik, 3)) (d3 : decode cc (pc + 3) = .ok (.dup, 1)) (d4 : decode cc (pc + 4) = .ok (.ldc is, 2)) (d6 : decode cc (pc + 6) = .ok (.invokespecial ic, 3)) (d9 : decode cc (pc + 9) = .ok (.athrow, 1))
    (hout : ∀ x ∈ c.exceptionTable.toList, covers x (pc + 9) = false)
    (hRframes : names.length + 3 < R.frames) (hRlocals : (rest.map fun v => v.category).sum + (13 * (names.length + 1) + 43) ≤ R.locals) (hRcells : cells + 1 ≤ R.cells) (hRslots : slots + 6 ≤ R.slots) (hlocks : meth.locks = false)
    (hx : ∀ t : State, s.vm.Alike t.vm → H.size ≤ t.heap.size → (∀ q : Nat, q < H.size → t.heap[q]? = H[q]?) → XC cls s t)
    (hf : ∀ z ∈ locs, free z.base) (hc : cells + 1 ≤ mc) (hs : slots + 6 ≤ ms) :
    W p l e R s m args below meth c H locs cells slots (vx_MQ below Qc XC args s mc ms free) (F0 m pc ls rest) := by
  intro T hT X
  have htr : e.platform.stackTraces = false := (show e.platform.stackTraces = l.stackTraces by rw [X.admits.platform]).trans hl
  have Y := vx_rebase X (R' := { frames := R.frames, locals := R.locals, cells := 1, slots := 6 }) (Nat.le_refl _) (Nat.le_refl _) hRcells hRslots
  obtain ⟨s', hA⟩ : ∃ z, z = (T.setVm s.vm).setFrames (.invoking m args :: below) := ⟨_, rfl⟩
  rw [← hA] at Y
  have hvm : s'.vm = s.vm := by rw [hA]; rfl
  have hhp : s'.heap = H := by rw [hA]; exact hT
  have hW0 : s.WarmedH s'.vm := by rw [hvm]; exact State.WarmedH.refl s
  have hat' : ∀ w ∈ vx_atS own ic cls names, w.before args s' = true := fun w hw => vx_ot_at hW0 hvm.symm (hgood w (List.mem_cons_of_mem _ (List.mem_cons_of_mem _ hw))) (hat w hw)
  have hk' : (Cond.classLink own ik cls).before args s' = true := vx_ot_at hW0 hvm.symm (hgood _ List.mem_cons_self) hk
  have hini' : (Cond.initialized cls).before args s' = true := vx_ot_at hW0 hvm.symm (hgood _ (List.mem_cons_of_mem _ List.mem_cons_self)) hini
  have hU' : vx_Zq Bundle.tN "UNASSIGNED_STACK" Bundle.steD A s' s'.heap := by rw [hhp]; exact vx_Zq.moved hW0.alike (hU.kept hS.2.1)
  have hN' : vx_Zq Bundle.tN "SUPPRESSED_SENTINEL" Bundle.listD A s' s'.heap := by rw [hhp]; exact vx_Zq.moved hW0.alike (hN.kept hS.2.1)
  have h : ∀ w ∈ Bundle.ownAtoms own ic cls names, w.before args s' = true := vx_own hat' (vx_isRefq hU'.1) (vx_isRefq hN'.1) hU'.2.word hN'.2.word
  have hown' : s'.vm.findClass own = some m.cls := by rw [hvm]; exact hown
  have hins : (Cond.instantiable cls 6).before args s' = true := h _ (by simp [Bundle.ownAtoms])
  obtain ⟨vm₁, cX, kX, hfX, hkX, -, -, X₁, st1⟩ := Y.newCold hexec (own := own) (C := cls) (index := ik) (n := 6) hown' hk' hins hini'
    (g := F0 m pc ls rest) rfl (by rw [hb]; exact d0) (Nat.le_refl _) (Nat.le_refl _)
  generalize hT1 : (T.setVm vm₁).pushCell { cls := cX, slots := kX.instanceTypes.map defaultValue, vm := .none } = T1 at X₁ st1
  have hcat : (Value.ref T.heap.size).category = 1 := rfl
  have hcellA : T1.heap[T.heap.size]? = some (freshCell cX kX) := by rw [← hT1]; exact State.heap_pushCell_size _ _
  have d3' : decode c.code (pc + 3) = .ok (.dup, 1) := by rw [hb]; exact d3
  have d4' : decode c.code (pc + 4) = .ok (.ldc is, 2) := by rw [hb]; exact d4
  have hstr' : vk_R own is text sa s' := vk_R.warm hW0 hstr
  obtain ⟨U, hsteps, hrun, hend, hW, hsame, ce, hce, hO⟩ := X₁.ctorThrowS hexec htr (own := own) (cls := cls) (names := names) (ic := ic) hown' hcls hnames h (fun x hx => nomatch hx) hfX hkX hcellA (by rw [hhp, hT]; exact Nat.le_refl _) (msg := .ref sa) rfl
    (g := { method := m, pc := pc + 6, locals := ls, stack := .ref sa :: .ref T.heap.size :: .ref T.heap.size :: rest, locked := none }) rfl hsize rfl rfl (rest := rest) rfl
    (by rw [hb]; exact d6) (by rw [hb]; exact d9) hout hRframes (by simp only [List.map_cons, List.sum_cons, hcat]; omega) hlocks
  obtain ⟨f1, f2⟩ := vx_frame hsame
  rw [hhp] at f1 f2
  have hWs : s.WarmedH U.vm := State.WarmedH.trans hW0 hW
  have hcl : s.vm.findClass cls = some ce.cls := by
    have h9 := hO.cls
    rw [hvm] at h9
    exact h9
  have hall : s.sameButNew ({ U with vm := s.vm } : State) locs mc ms := by
    subst hA
    obtain ⟨e1, e2⟩ := hsame
    rw [State.setFrames_setFrames] at e1
    have h2 : (T.setVm s.vm).sameButNew ({ U with vm := s.vm } : State) [] (0 + 1) (0 + 6) := ⟨e1, e2⟩
    have h3 := X.same.trans h2
    rw [List.append_nil] at h3
    exact h3.mono hc hs
  refine ⟨U, ?_, .threw T.heap.size, hrun, hend, Or.inr ⟨T.heap.size, rfl, cls, ce, locs, hx U hWs.alike f1 (fun q hq => f2 q hq (fun z hz => nomatch hz)), hce, hO.vm, hcl, hWs, hall, hf⟩⟩
  refine st1 _ ?_
  show Steps p.tables e below (T1.setTop { method := m, pc := pc + 3, locals := ls, stack := .ref T.heap.size :: rest, locked := none }) _
  jvm_step X₁.here [X₁.here.top, hexec, d3', Value.category]
  exact X₁.ldcString hexec (own := own) (text := text) (index := is) (a := sa) hown' hstr'.1 hstr'.2
    (g := { method := m, pc := pc + 4, locals := ls, stack := .ref T.heap.size :: .ref T.heap.size :: rest, locked := none }) rfl d4' _ hsteps
/-- 'throw new E("text")', the text by a wide index -/
theorem vx_throwSW {cc : ByteArray} {pc : Nat} (hexec : p.tables.exec = Jvm.exec) (hb : c.code = cc) (hl : l.stackTraces = false) {own cls text : String} {names : List String} {ik is ic mc ms sa : Nat} {A : Nat → Prop}
    (hown : s.vm.findClass own = some m.cls) (hcls : Bundle.fit cls = true) (hnames : ∀ n ∈ names, Bundle.fit n = true)
    (hk : (Cond.classLink own ik cls).before args s = true) (hini : (Cond.initialized cls).before args s = true) (hstr : vk_R own is text sa s) (hat : ∀ w ∈ vx_atS own ic cls names, w.before args s = true)
    (hgood : ∀ w ∈ Cond.classLink own ik cls :: Cond.initialized cls :: vx_atS own ic cls names, vx_ot w = true)
    (hU : vx_Zq Bundle.tN "UNASSIGNED_STACK" Bundle.steD A s s.heap) (hN : vx_Zq Bundle.tN "SUPPRESSED_SENTINEL" Bundle.listD A s s.heap) (hS : va_S A s.heap H locs) (hsize : ls.size = c.maxLocals)
    (d0 : decode cc pc = .ok (.new ik, 3)) (d3 : decode cc (pc + 3) = .ok (.dup, 1)) (d4 : decode cc (pc + 4) = .ok (.ldc_w is, 3)) (d7 : decode cc (pc + 7) = .ok (.invokespecial ic, 3)) (d10 : decode cc (pc + 10) = .ok (.athrow, 1))
    (hout : ∀ x ∈ c.exceptionTable.toList, covers x (pc + 10) = false)
    (hRframes : names.length + 3 < R.frames) (hRlocals : (rest.map fun v => v.category).sum + (13 * (names.length + 1) + 43) ≤ R.locals) (hRcells : cells + 1 ≤ R.cells) (hRslots : slots + 6 ≤ R.slots) (hlocks : meth.locks = false)
    (hx : ∀ t : State, s.vm.Alike t.vm → H.size ≤ t.heap.size → (∀ q : Nat, q < H.size → t.heap[q]? = H[q]?) → XC cls s t)
    (hf : ∀ z ∈ locs, free z.base) (hc : cells + 1 ≤ mc) (hs : slots + 6 ≤ ms) :
    W p l e R s m args below meth c H locs cells slots (vx_MQ below Qc XC args s mc ms free) (F0 m pc ls rest) := by
  intro T hT X
  have htr : e.platform.stackTraces = false := (show e.platform.stackTraces = l.stackTraces by rw [X.admits.platform]).trans hl
  have Y := vx_rebase X (R' := { frames := R.frames, locals := R.locals, cells := 1, slots := 6 }) (Nat.le_refl _) (Nat.le_refl _) hRcells hRslots
  obtain ⟨s', hA⟩ : ∃ z, z = (T.setVm s.vm).setFrames (.invoking m args :: below) := ⟨_, rfl⟩
  rw [← hA] at Y
  have hvm : s'.vm = s.vm := by rw [hA]; rfl
  have hhp : s'.heap = H := by rw [hA]; exact hT
  have hW0 : s.WarmedH s'.vm := by rw [hvm]; exact State.WarmedH.refl s
  have hat' : ∀ w ∈ vx_atS own ic cls names, w.before args s' = true := fun w hw => vx_ot_at hW0 hvm.symm (hgood w (List.mem_cons_of_mem _ (List.mem_cons_of_mem _ hw))) (hat w hw)
  have hk' : (Cond.classLink own ik cls).before args s' = true := vx_ot_at hW0 hvm.symm (hgood _ List.mem_cons_self) hk
  have hini' : (Cond.initialized cls).before args s' = true := vx_ot_at hW0 hvm.symm (hgood _ (List.mem_cons_of_mem _ List.mem_cons_self)) hini
  have hU' : vx_Zq Bundle.tN "UNASSIGNED_STACK" Bundle.steD A s' s'.heap := by rw [hhp]; exact vx_Zq.moved hW0.alike (hU.kept hS.2.1)
  have hN' : vx_Zq Bundle.tN "SUPPRESSED_SENTINEL" Bundle.listD A s' s'.heap := by rw [hhp]; exact vx_Zq.moved hW0.alike (hN.kept hS.2.1)
  have h : ∀ w ∈ Bundle.ownAtoms own ic cls names, w.before args s' = true := vx_own hat' (vx_isRefq hU'.1) (vx_isRefq hN'.1) hU'.2.word hN'.2.word
  have hown' : s'.vm.findClass own = some m.cls := by rw [hvm]; exact hown
  have hins : (Cond.instantiable cls 6).before args s' = true := h _ (by simp [Bundle.ownAtoms])
  obtain ⟨vm₁, cX, kX, hfX, hkX, -, -, X₁, st1⟩ := Y.newCold hexec (own := own) (C := cls) (index := ik) (n := 6) hown' hk' hins hini'
    (g := F0 m pc ls rest) rfl (by rw [hb]; exact d0) (Nat.le_refl _) (Nat.le_refl _)
  generalize hT1 : (T.setVm vm₁).pushCell { cls := cX, slots := kX.instanceTypes.map defaultValue, vm := .none } = T1 at X₁ st1
  have hcat : (Value.ref T.heap.size).category = 1 := rfl
  have hcellA : T1.heap[T.heap.size]? = some (freshCell cX kX) := by rw [← hT1]; exact State.heap_pushCell_size _ _
  have d3' : decode c.code (pc + 3) = .ok (.dup, 1) := by rw [hb]; exact d3
  have d4' : decode c.code (pc + 4) = .ok (.ldc_w is, 3) := by rw [hb]; exact d4
  have hstr' : vk_R own is text sa s' := vk_R.warm hW0 hstr
  obtain ⟨U, hsteps, hrun, hend, hW, hsame, ce, hce, hO⟩ := X₁.ctorThrowS hexec htr (own := own) (cls := cls) (names := names) (ic := ic) hown' hcls hnames h (fun x hx => nomatch hx) hfX hkX hcellA (by rw [hhp, hT]; exact Nat.le_refl _) (msg := .ref sa) rfl
    (g := { method := m, pc := pc + 7, locals := ls, stack := .ref sa :: .ref T.heap.size :: .ref T.heap.size :: rest, locked := none }) rfl hsize rfl rfl (rest := rest) rfl
    (by rw [hb]; exact d7) (by rw [hb]; exact d10) hout hRframes (by simp only [List.map_cons, List.sum_cons, hcat]; omega) hlocks
  obtain ⟨f1, f2⟩ := vx_frame hsame
  rw [hhp] at f1 f2
  have hWs : s.WarmedH U.vm := State.WarmedH.trans hW0 hW
  have hcl : s.vm.findClass cls = some ce.cls := by
    have h9 := hO.cls
    rw [hvm] at h9
    exact h9
  have hall : s.sameButNew ({ U with vm := s.vm } : State) locs mc ms := by
    subst hA
    obtain ⟨e1, e2⟩ := hsame
    rw [State.setFrames_setFrames] at e1
    have h2 : (T.setVm s.vm).sameButNew ({ U with vm := s.vm } : State) [] (0 + 1) (0 + 6) := ⟨e1, e2⟩
    have h3 := X.same.trans h2
    rw [List.append_nil] at h3
    exact h3.mono hc hs
  refine ⟨U, ?_, .threw T.heap.size, hrun, hend, Or.inr ⟨T.heap.size, rfl, cls, ce, locs, hx U hWs.alike f1 (fun q hq => f2 q hq (fun z hz => nomatch hz)), hce, hO.vm, hcl, hWs, hall, hf⟩⟩
  refine st1 _ ?_
  show Steps p.tables e below (T1.setTop { method := m, pc := pc + 3, locals := ls, stack := .ref T.heap.size :: rest, locked := none }) _
  jvm_step X₁.here [X₁.here.top, hexec, d3', Value.category]
  exact X₁.ldcStringW hexec (own := own) (text := text) (index := is) (a := sa) hown' hstr'.1 hstr'.2
    (g := { method := m, pc := pc + 4, locals := ls, stack := .ref T.heap.size :: .ref T.heap.size :: rest, locked := none }) rfl d4' _ hsteps
end Ends
section Bodies
variable {l : Launch}
theorem vx_ofW {y : MethodName} {ws ws' : List Cond} {rm : Room} {Pc : Array Value → State → Prop} {Qc : Array Value → State → Outcome → State → Prop} {XC : String → State → State → Prop} {mc ms : Nat} {free : Addr → Prop} {cc : ByteArray} {maxL : Nat} {ret : Option FieldType}
    (hy : plainName y.cls = true) (hw : ws = Cond.code y cc maxL ret :: ws')
    (body : ∀ p e s m args below meth c s₁, BodyLoose p l y (headSpec ws rm) cc maxL ret e s m args below meth c s₁ → c.maxLocals = maxL → (∀ x ∈ c.exceptionTable.toList, False) → Pc args s →
      W p l e (headSpec ws rm).room s m args below meth c s.heap [] 0 0 (vx_MQ below Qc XC args s mc ms free) (entryFrame m args maxL)) : vx_Met l y ws rm Pc Qc XC mc ms free := by
  refine MetFree.of_bodyS (code := cc) (maxLocals := maxL) (ret := ret) hy ?_ ?_
  · intro args s m h hn
    obtain ⟨meth, c, h1, h2, h3, h4, h5, h6, -, -⟩ := Cond.code_spec hn (atoms_spec (ws := ws) h _ (by rw [hw]; exact List.mem_cons_self))
    exact ⟨meth, c, h1, h2, h3, h4, h5, h6⟩
  · intro p e s m args below meth c s₁ B hml hP _
    have hh0 : s₁.heap = s.heap := by rw [B.state]; rfl
    have ht : ∀ x ∈ c.exceptionTable.toList, False := by
      obtain ⟨meth9, c9, h1, h2, -, -, -, -, h7, -⟩ := Cond.code_spec B.named (atoms_spec (ws := ws) B.pre _ (by rw [hw]; exact List.mem_cons_self))
      cases Option.some.inj (h1.symm.trans B.method)
      cases Option.some.inj (h2.symm.trans (Stand.of_body B).code)
      intro x hx
      rw [Array.isEmpty_iff.mp h7] at hx
      cases hx
    obtain ⟨t, a1, o, b1, b2, b3⟩ := body p e s m args below meth c s₁ B hml ht hP s₁ hh0 (Stand.of_body B)
    exact ⟨t, o, a1, b1, b2, b3⟩
/-- the table of a body with handlers -/
theorem vx_table {p : Program} {x y : MethodName} {S : Spec} {cc bytes : ByteArray} {maxL maxL' : Nat} {ret ret' : Option FieldType} {e : Env} {s s₁ : State} {m : MethodId} {args : Array Value} {below : List Frame} {meth : Method} {c : Code} {hh : List (Nat × Nat × Nat × Nat)}
    (B : BodyLoose p l y S cc maxL ret e s m args below meth c s₁) (h : (Cond.codeWith y bytes maxL' ret' hh).before args s = true) : c.exceptionTable.toList = tableOf hh := by
  obtain ⟨m9, meth9, c9, hn9, h1, h2, -, -, h6, -⟩ := Cond.codeWith_spec h
  cases Option.some.inj (hn9.symm.trans B.named)
  cases Option.some.inj (h1.symm.trans B.method)
  cases Option.some.inj (h2.symm.trans (Stand.of_body B).code)
  rw [← h6, table_eq]
end Bodies
end VXA
/-! ===== END ===== -/
/-! ===== BEGIN a static call of a method with an exception table ===== -/
section VXS
variable {p : Program} {l : Launch} {e : Env} {R : Room} {s : State} {m : MethodId} {args : Array Value} {below : List Frame} {meth : Method} {c : Code} {T : State} {H : Heap} {locs : List Loc} {cells slots : Nat}
abbrev vx_CSW (R : Room) (s : State) (args : Array Value) (own : String) (index : Nat) (y : MethodName) (bytes : ByteArray) (maxL : Nat) (ret : Option FieldType) (hh : List (Nat × Nat × Nat × Nat)) (ws : List Cond) (rm : Room) (mc ms n : Nat) : Prop :=
  (rm.cells = mc ∧ rm.slots = ms ∧ rm.frames + 1 ≤ R.frames ∧ 8 + (maxL + 11) + rm.locals ≤ R.locals ∧ (∀ w ∈ ws, ∀ (a' : Array Value) (U : State), s.WarmedH U.vm → w.before a' U = true) ∧ Cond.codeWith y bytes maxL ret hh ∈ ws) ∧
  (Cond.codeWith y bytes maxL ret hh).before args s = true ∧ (Cond.initialized y.cls).before args s = true ∧ (y.cls ≠ "java/lang/invoke/MethodHandle" ∧ y.cls ≠ "java/lang/invoke/VarHandle") ∧
  (∀ sig, parseMethodDescriptor y.desc = some sig → n = sig.parameters.length) ∧ (Cond.methodLink own index y).before args s = true ∧ (Cond.static y).before args s = true
theorem vx_cwSW {own : String} {index maxL mc ms : Nat} {y : MethodName} {bytes : ByteArray} {ret : Option FieldType} {hh : List (Nat × Nat × Nat × Nat)} {Ts ws ws' : List Cond} {rm : Room} (n : Nat) (ht : ∀ w ∈ Ts, w.before args s = true) (hT : GoodIn Ts (va_wsS own index y ws)) (hw : ws = Cond.codeWith y bytes maxL ret hh :: ws') (hrc : rm.cells = mc) (hrs : rm.slots = ms)
    (hd : y.cls ≠ "java/lang/invoke/MethodHandle" ∧ y.cls ≠ "java/lang/invoke/VarHandle" ∧ (parseMethodDescriptor y.desc).map (fun d => d.parameters.length) = some n) (hR : rm.frames + 1 ≤ R.frames ∧ 8 + (maxL + 11) + rm.locals ≤ R.locals) :
    vx_CSW R s args own index y bytes maxL ret hh ws rm mc ms n := by
  have ok : ∀ w ∈ va_wsS own index y ws, w.before args s = true := fun w h => ht w (hT w h).1
  have hG : GoodIn Ts ws := fun w h => hT w (by unfold va_wsS; exact List.mem_append_right _ h)
  have hc : Cond.codeWith y bytes maxL ret hh ∈ ws := by rw [hw]; exact List.mem_cons_self
  refine ⟨⟨hrc, hrs, hR.1, hR.2, pay_in ht hG, hc⟩, ht _ (hG _ hc).1, ok _ (by simp [va_wsS]), ⟨hd.1, hd.2.1⟩, fun sig h => ?_, ok _ (by simp [va_wsS]), ok _ (by simp [va_wsS])⟩
  have h2 := hd.2.2
  rw [h] at h2
  exact (Option.some.inj h2).symm
theorem vx_callSW (X : Stand p l e R s m args below meth c T locs cells slots) (hexec : p.tables.exec = Jvm.exec) {own : String} {index : Nat} {y : MethodName} {bytes : ByteArray} {maxL : Nat} {ret : Option FieldType} {hh : List (Nat × Nat × Nat × Nat)}
    (hown : s.vm.findClass own = some m.cls) (hlink : (Cond.methodLink own index y).before args s = true) (hstat : (Cond.static y).before args s = true) (hinit : (Cond.initialized y.cls).before args s = true)
    (hcode : (Cond.codeWith y bytes maxL ret hh).before args s = true) (hy : y.cls ≠ "java/lang/invoke/MethodHandle" ∧ y.cls ≠ "java/lang/invoke/VarHandle")
    {W9 : Nat} {Pre : Pt → Array Value → Prop} {Post : Pt → Array Value → Option Value → Pt → Prop} (hK : Back l R p e below s args y 3 W9 Pre Post)
    {g : JFrame} (hg : g.method = m) (hsize : g.locals.size = c.maxLocals) {argsL rest : List Value} (hlen : ∀ sig, parseMethodDescriptor y.desc = some sig → argsL.length = sig.parameters.length)
    (hstack : g.stack = argsL.reverse ++ rest) (hW : 2 * g.monitorRoom + (rest.map fun v => v.category).sum ≤ W9) (hdg : decode c.code g.pc = .ok (.invokestatic index, 3))
    (hpre : ∀ vm₁, s.WarmedH vm₁ → Pre ⟨T.setVm vm₁, locs, cells, slots⟩ argsL.toArray) :
    ∃ (v : Option Value) (vm₁ : Vm) (B : Pt), s.WarmedH vm₁ ∧ Stand p l e R s m args below meth c B.U B.locs B.cells B.slots ∧ Post ⟨T.setVm vm₁, locs, cells, slots⟩ argsL.toArray v B ∧
      ∀ target, Steps p.tables e below (B.U.setTop { g with pc := g.pc + 3, stack := v.toList ++ rest }) target → Steps p.tables e below (T.setTop g) target := by
  obtain ⟨mk, methM, cM, hnamed, hmethM, -, -, -, -, -, -, hsigM⟩ := Cond.codeWith_spec hcode
  have hstatic : methM.isStatic = true := Cond.static_spec hnamed hmethM hstat
  obtain ⟨kP, hkP, -⟩ := className_of_methodNamed hnamed
  have hinitP : kP.init = .initialized := Cond.initialized_spec (findClass_of_methodNamed hnamed) hkP hinit
  obtain ⟨vm₁, X₁, hstep₁⟩ := X.invokestatic hexec hown hlink hnamed hmethM hstatic hkP hinitP hy (g := g) hg (argsL := argsL) (rest := rest) (hlen _ hsigM) hstack hdg
  obtain ⟨v, B, X', hpost, hsteps⟩ := hK m meth c ⟨T.setVm vm₁, locs, cells, slots⟩ { g with stack := rest } (.invokestatic index) mk argsL.toArray X₁ hg hsize hdg hW (X₁.named hnamed) (hpre vm₁ X₁.warmed)
  exact ⟨v, vm₁, B, X₁.warmed, X', hpost, fun target h => hstep₁ _ fun acts => by rw [doInvoke_state]; exact hsteps.trans h⟩
theorem vx_runSW {y : MethodName} {bytes cc : ByteArray} {maxL nL mc ms n index : Nat} {ret : Option FieldType} {hh : List (Nat × Nat × Nat × Nat)} {ws : List Cond} {rm : Room} {Pc : Array Value → State → Prop} {Qc : Array Value → State → Outcome → State → Prop} {free : Addr → Prop} {Ts : List Cond} {own : String} {As rest : List Value} {g : JFrame}
    (S : CallFix p m c cc nL s args Ts own) (hM : Met l y ws rm Pc Qc mc ms free) (cw : vx_CSW R s args own index y bytes maxL ret hh ws rm mc ms n) (hp : PreS s H Pc As)
    (hg : g.method = m) (hn : As.length = n) (hsize : g.locals.size = nL) (hstack : g.stack = As.reverse ++ rest) (hW : 2 * g.monitorRoom + (rest.map fun v => v.category).sum ≤ 8) (hdg : decode cc g.pc = .ok (.invokestatic index, 3)) (hf : cells + mc ≤ R.cells ∧ slots + ms ≤ R.slots) :
    va_Run p l e R s m args below meth c H locs cells slots mc ms g rest (Qc As.toArray) (free) := by
  obtain ⟨⟨hrc, hrs, hfr, hlo, hws, hcw⟩, hcode, hini, hy, hlen, hl, hstt⟩ := cw
  have hK : Back l R p e below s args y 3 8 (PreOf R mc ms Pc) (PostOf Qc mc ms free) := va_backW (hh := hh) (bytes := bytes) (maxL := maxL) (ret := ret) hM hp.1 hrc hrs hfr hlo hws hcw (fun a' U hW => word_at hW (Or.inl (by first | rfl | simp [Cond.onTables, Cond.keeps, Cond.steady])) hini)
  obtain ⟨hx, hb, hml, ho, -⟩ := S
  intro T hT X
  obtain ⟨v, vm₁, ⟨U', l2, c2, s2⟩, hW₁, X', ⟨g', mk, t, L, e1, e2, hq, h1, hL, h2, h3⟩, st⟩ := vx_callSW X hx (hh := hh) (bytes := bytes) (maxL := maxL) (ret := ret) ho hl hstt hini hcode hy hK hg (hsize.trans hml.symm) (argsL := As) (rest := rest) (fun sig h => hn.trans (hlen sig h)) hstack hW (by rw [hb]; exact hdg)
    (fun vm₁ hW₁ => ⟨hf.1, hf.2, hp.2 (T.setVm vm₁) hT hW₁⟩)
  dsimp only [Pt.U, Pt.locs, Pt.cells, Pt.slots] at X' e1 e2 h1 h2 h3 st
  subst h1; subst h2; subst h3
  exact ⟨v, (T.setVm vm₁).calling g' mk As.toArray, t, U', L, hT, X', hL, e1, e2, hq, st⟩
/-- not caught here, past rows that name other classes: it goes on to the caller -/
theorem vx_outP {p : Program} {l : Launch} {e : Env} {R : Room} {s : State} {m : MethodId} {args : Array Value} {below : List Frame} {meth : Method} {c : Code} {H : Heap} {locs : List Loc} {cells slots : Nat} {free : Addr → Prop} {ls : Array Slot} {rest : List Value} {Qc : Array Value → State → Outcome → State → Prop} {XC : String → State → State → Prop}
    {pc : Nat} {own E : String} {ce : Cell} {q : Addr} {mc ms : Nat} (hown : s.vm.findClass own = some m.cls) (hlocks : meth.locks = false)
    (hpass : ∀ z ∈ c.exceptionTable.toList, covers z pc = false ∨ (z.catchType ≠ 0 ∧ ∃ nm : String, (Cond.classLink own z.catchType nm).before args s = true ∧ va_Nc E nm s)) (hcell : H[q]? = some ce) (hv : ce.vm = .none) (hcl : s.vm.findClass E = some ce.cls)
    (hx : ∀ t : State, t.heap = H → s.vm.Alike t.vm → XC E s t) (hf : ∀ z ∈ locs, free z.base) (hc : cells ≤ mc) (hs : slots ≤ ms) :
    vx_W p l e R s m args below meth c H locs cells slots (vx_MQ below Qc XC args s mc ms free) (F0 m pc ls rest) q := by
  intro T hT X
  have hpl : e.platform.magicAccessors = ({} : Platform).magicAccessors := by rw [X.admits.platform]
  obtain ⟨vm', hW', X', st⟩ := Jvm.Stand.outThrough X hlocks q (g := F0 m pc ls rest) rfl rfl rfl (cell := ce) (by rw [hT]; exact hcell) (by rw [hv]; rfl)
    (by obtain ⟨k9, h9, -⟩ := Vm.findClass_spec hcl; exact ⟨k9, h9⟩) (fun z hz => by
      rcases hpass z hz with h | ⟨hz0, nm, hl1, hn1⟩
      · exact Or.inl h
      · obtain ⟨c6, hc6, hcl6⟩ := Cond.classLink_spec hown hl1 e.platform hpl
        obtain ⟨a8, b8, h1, h2, h3⟩ := hn1
        cases Option.some.inj (h1.symm.trans hcl)
        cases Option.some.inj (h2.symm.trans hc6)
        exact Or.inr ⟨hz0, _, hcl6, h3⟩)
  obtain ⟨g₀, hfr⟩ := X'.frames_eq
  have hcell9 : ((T.setVm vm').setFrames (.throwing q :: below)).heap[q]? = some ce := by
    show T.heap[q]? = some ce
    rw [hT]; exact hcell
  have hend : Ended ((T.setVm vm').setFrames (.throwing q :: below)) below (.threw q) := State.frames_setFrames _ (State.cur_lt_of_frames hfr)
  refine ⟨(T.setVm vm').setFrames (.throwing q :: below), ?_, .threw q, X'.here.running, hend, Or.inr ⟨q, rfl, E, ce, locs, hx _ hT (X'.ends _).1.alike, hcell9, hv, hcl, (X'.ends _).1, (X'.ends _).2.mono hc hs, hf⟩⟩
  rw [X.pushThrowing_eq]
  exact st
/-- a thing of a world lies in the heap -/
theorem vx_lt {D : va_G} {cl : List vw_C} {ws : va_W} {H1 : Heap} (h : va_P D cl ws H1) {k : Nat} {q : Nat × va_E} (hk : ws[k]? = some q) : q.1 < H1.size := (h k q hk).lt
end VXS
/-! ===== END ===== -/
/-! ===== BEGIN methods with a table of their own: called by a name, returning or throwing ===== -/
section VXH
/-! vx_backW, vx_callVX, vx_callSX, vx_callVW, vx_runVW, vx_runVX, vx_runSX, vx_ofWH follow the same proofs as their sisters above (Free/Laws.lean, Shelf42/LK1.lean); vx_outP calls Shelf42/NT130.lean (outThrough). -/
section
variable {l : Launch} {R : Room} {p : Program} {e : Env} {below : List Frame} {s : State} {sargs : Array Value} {y : MethodName} {len W9 : Nat}
theorem vx_backW {ws : List Cond} {rm : Room} {Pc : Array Value → State → Prop} {Qc : Array Value → State → Outcome → State → Prop} {XC : String → State → State → Prop} {mc ms : Nat} {free : Addr → Prop} {bytes : ByteArray} {maxL : Nat} {ret : Option FieldType} {hh : List (Nat × Nat × Nat × Nat)}
    (hM : vx_Met l y ws rm Pc Qc XC mc ms free) (hblind : FrameBlind Pc) (hrc : rm.cells = mc) (hrs : rm.slots = ms)
    (hframes : rm.frames + 1 ≤ R.frames) (hlocals : W9 + (maxL + 11) + rm.locals ≤ R.locals)
    (hws : ∀ w ∈ ws, ∀ a' U, s.WarmedH U.vm → w.before a' U = true) (hcode : Cond.codeWith y bytes maxL ret hh ∈ ws) (hinit : ∀ a' U, s.WarmedH U.vm → (Cond.initialized y.cls).before a' U = true) :
    vx_Back l R p e below s sargs y len W9 (PreOf R mc ms Pc) (PostOf Qc mc ms free) (vx_Post XC mc ms free) := by
  intro m meth c A g ig mk a X hg hsize hdg hW hn hp
  have h1 : (headSpec ws rm).pre.before a A.U = true := atoms_intro fun w hw => hws w hw _ _ X.warmed
  have h2 : (Cond.codeWith y bytes maxL ret hh).before a A.U = true := hws _ hcode _ _ X.warmed
  have h3 : (Cond.initialized y.cls).before a A.U = true := hinit _ _ X.warmed
  have h4 : A.cells + (headSpec ws rm).room.cells ≤ R.cells := by rw [show (headSpec ws rm).room.cells = mc from hrc]; exact hp.1
  have h5 : A.slots + (headSpec ws rm).room.slots ≤ R.slots := by rw [show (headSpec ws rm).room.slots = ms from hrs]; exact hp.2.1
  have hPc : Pc a (A.U.calling g mk a) := hblind _ _ _ _ hp.2.2
  obtain ⟨U, Ls, c0, s0⟩ := A
  dsimp only [Pt.U, Pt.locs, Pt.cells, Pt.slots] at h1 h2 h3 h4 h5 X hn hPc ⊢
  obtain ⟨m9, methY, cY, hn9, hmY, hcY, -, hlY, -⟩ := Cond.codeWith_spec h2
  cases Option.some.inj (hn9.symm.trans hn)
  obtain ⟨kY, hkY, -⟩ := className_of_methodNamed hn
  have hinitY : kY.init = .initialized := Cond.initialized_spec (findClass_of_methodNamed hn) hkY h3
  have h : At U g.method c below := by rw [hg]; exact X.here
  have hlocals9 : W9 + (maxL + 11) + (headSpec ws rm).room.locals ≤ R.locals := hlocals
  have happ : (headSpec ws rm).appliesLoose y e.platform (U.calling g mk a) = true :=
    Spec.appliesLoose_calling (g := g) h hdg hn hkY hinitY
      (X.room_calling (g := g) (R' := (headSpec ws rm).room) hsize hmY hcY hframes (by rw [hlY]; omega) h4 h5) h1
  obtain ⟨mid, hmid⟩ := h.above
  have hfr : (U.setTop g).frames = (.java g :: mid) ++ below := by rw [State.frames_setTop' g h.top, hmid]; rfl
  obtain ⟨o, s₂, hsteps, -, hend, hq⟩ := Steps.callFree hM p X.admits X.cas X.clock (acts := []) hfr happ hPc trivial
  have hq' : vx_Q Qc XC mc ms free a (U.calling g mk a) o s₂ := hq
  rw [State.frames_setTop' g h.top] at hend
  obtain ⟨g₀, hg0⟩ := Option.isSome_iff_exists.mp h.top
  obtain ⟨r, hr⟩ := State.topJava?_eq_some.mp hg0
  have hr' : (({ U with heap := s₂.heap, slotsUsed := s₂.slotsUsed } : State).setVm s₂.vm).frames = .java g₀ :: r := hr
  rcases hq' with ⟨hqc, L, hfe, hL⟩ | ⟨q, rfl, E, ce, L, hx, hce, hcv, hcl, hW₂, hsm, hL⟩
  · obtain ⟨⟨v, rfl⟩, hW₂, e2, q2, q3, q4, q5, q6⟩ := id hfe
    have e3 : s₂ = ({ (U.calling g mk a).setFrames s₂.frames with heap := s₂.heap, slotsUsed := s₂.slotsUsed } : State).setVm s₂.vm := by
      have : s₂ = ({ s₂ with vm := (U.calling g mk a).vm } : State).setVm s₂.vm := rfl
      rw [e2] at this
      exact this
    obtain ⟨c₂, i₂, len₂, hc₂, hd₂, hf₂⟩ := hend
    have hW' : U.WarmedH s₂.vm := hW₂
    have hcc : c₂ = c := by
      have h1 : s₂.code? g.method = U.code? g.method := by
        rw [State.code?_eq, State.code?_eq, hW'.alike.method?]
      exact Option.some.inj (hc₂.symm.trans (h1.trans h.code))
    subst hcc
    have hlen : len₂ = len := by rw [hdg] at hd₂; cases hd₂; rfl
    subst hlen
    have hs₂ : s₂ = (({ U with heap := s₂.heap, slotsUsed := s₂.slotsUsed } : State).setVm s₂.vm).setTop { g with pc := g.pc + len₂, stack := v.toList ++ g.stack } := by
      refine e3.trans ?_
      rw [hf₂, State.calling_eq h.top, State.setFrames_setFrames, State.setTop_of_frames _ hr', hr]
      rfl
    have hsame : U.sameButNew ({ U with heap := s₂.heap, slotsUsed := s₂.slotsUsed } : State) L mc ms := by
      refine ⟨?_, q2, q3, q4, q5, q6⟩
      obtain ⟨t, ht, -⟩ := State.frames_cons hr
      show ({ U with heap := s₂.heap, slotsUsed := s₂.slotsUsed } : State) = { U.setFrames U.frames with heap := s₂.heap, slotsUsed := s₂.slotsUsed }
      rw [State.setFrames_self ht]
    subst hg
    refine Or.inl ⟨v, ⟨(({ U with heap := s₂.heap, slotsUsed := s₂.slotsUsed } : State).setVm s₂.vm), Ls ++ L, c0 + mc, s0 + ms⟩,
      ⟨X.admits, X.cas, X.clock, X.frames, X.room, X.hears, X.method, X.code, (X.here.setHeapUsed s₂.heap s₂.slotsUsed).setVm hW'.alike, X.tail, State.WarmedH.trans X.warmed hW', X.limits, X.bytes, X.same.trans (hsame.setVm s.vm)⟩,
      ⟨g, mk, s₂, L, rfl, rfl, hqc, rfl, hL, rfl, rfl⟩, ?_⟩
    show Steps p.tables e below _ ((({ U with heap := s₂.heap, slotsUsed := s₂.slotsUsed } : State).setVm s₂.vm).setTop { g with pc := g.pc + len₂, stack := v.toList ++ g.stack })
    rw [← hs₂]
    exact hsteps
  · obtain ⟨e2, q2, q3, q4, q5, q6⟩ := id hsm
    have e3 : s₂ = ({ (U.calling g mk a).setFrames s₂.frames with heap := s₂.heap, slotsUsed := s₂.slotsUsed } : State).setVm s₂.vm := by
      have : s₂ = ({ s₂ with vm := (U.calling g mk a).vm } : State).setVm s₂.vm := rfl
      rw [e2] at this
      exact this
    have hf₂ : s₂.frames = .throwing q :: .java g :: U.frames.tail := hend
    have hW' : U.WarmedH s₂.vm := hW₂
    have hs₂ : s₂ = ((({ U with heap := s₂.heap, slotsUsed := s₂.slotsUsed } : State).setVm s₂.vm).setTop g).pushFrame (.throwing q) := by
      refine e3.trans ?_
      rw [hf₂, State.calling_eq h.top, State.setFrames_setFrames, State.pushFrame, State.frames_setTop _ hr', State.setTop_of_frames _ hr', State.setFrames_setFrames, hr]
      rfl
    have hsame : U.sameButNew ({ U with heap := s₂.heap, slotsUsed := s₂.slotsUsed } : State) L mc ms := by
      refine ⟨?_, q2, q3, q4, q5, q6⟩
      obtain ⟨t, ht, -⟩ := State.frames_cons hr
      show ({ U with heap := s₂.heap, slotsUsed := s₂.slotsUsed } : State) = { U.setFrames U.frames with heap := s₂.heap, slotsUsed := s₂.slotsUsed }
      rw [State.setFrames_self ht]
    subst hg
    refine Or.inr ⟨q, ⟨(({ U with heap := s₂.heap, slotsUsed := s₂.slotsUsed } : State).setVm s₂.vm), Ls ++ L, c0 + mc, s0 + ms⟩,
      ⟨X.admits, X.cas, X.clock, X.frames, X.room, X.hears, X.method, X.code, (X.here.setHeapUsed s₂.heap s₂.slotsUsed).setVm hW'.alike, X.tail, State.WarmedH.trans X.warmed hW', X.limits, X.bytes, X.same.trans (hsame.setVm s.vm)⟩,
      ⟨g, mk, s₂, L, E, ce, rfl, rfl, hx, hce, hcv, hcl, rfl, hL, rfl, rfl⟩, ?_⟩
    show Steps p.tables e below _ (((({ U with heap := s₂.heap, slotsUsed := s₂.slotsUsed } : State).setVm s₂.vm).setTop g).pushFrame (.throwing q))
    rw [← hs₂]
    exact hsteps
end
variable {p : Program} {l : Launch} {e : Env} {R : Room} {s : State} {m : MethodId} {args : Array Value} {below : List Frame} {meth : Method} {c : Code} {T : State} {H : Heap} {locs : List Loc} {cells slots : Nat}
theorem vx_callVX (X : Stand p l e R s m args below meth c T locs cells slots) (hexec : p.tables.exec = Jvm.exec) {own C : String} {index : Nat} {y : MethodName} {bytes : ByteArray} {maxL : Nat} {ret : Option FieldType} {hh : List (Nat × Nat × Nat × Nat)}
    (hown : s.vm.findClass own = some m.cls) (hlink : (Cond.methodLink own index y).before args s = true) (hinst : (Cond.instanceMethod y).before args s = true) (hsel : (Cond.selects C y y).before args s = true)
    (hcode : (Cond.codeWith y bytes maxL ret hh).before args s = true) (hy : y.cls ≠ "java/lang/invoke/MethodHandle" ∧ y.cls ≠ "java/lang/invoke/VarHandle")
    {W9 : Nat} {Pre : Pt → Array Value → Prop} {Post : Pt → Array Value → Option Value → Pt → Prop} {PostX : Pt → Array Value → Addr → Pt → Prop} (hK : vx_Back l R p e below s args y 3 W9 Pre Post PostX)
    {b : Addr} {cellB : Cell} (hcell : T.heap[b]? = some cellB) (hobj : cellB.vm.isStatics = false) (hcls : s.vm.findClass C = some cellB.cls)
    {g : JFrame} (hg : g.method = m) (hsize : g.locals.size = c.maxLocals) {argsL rest : List Value} (hlen : ∀ sig, parseMethodDescriptor y.desc = some sig → argsL.length = sig.parameters.length)
    (hstack : g.stack = argsL.reverse ++ .ref b :: rest) (hW : 2 * g.monitorRoom + (rest.map fun v => v.category).sum ≤ W9) (hdg : decode c.code g.pc = .ok (.invokevirtual index, 3))
    (hpre : ∀ vm₁, s.WarmedH vm₁ → Pre ⟨T.setVm vm₁, locs, cells, slots⟩ (Value.ref b :: argsL).toArray) :
    (∃ (v : Option Value) (vm₁ : Vm) (B : Pt), s.WarmedH vm₁ ∧ Stand p l e R s m args below meth c B.U B.locs B.cells B.slots ∧ Post ⟨T.setVm vm₁, locs, cells, slots⟩ (Value.ref b :: argsL).toArray v B ∧
      ∀ target, Steps p.tables e below (B.U.setTop { g with pc := g.pc + 3, stack := v.toList ++ rest }) target → Steps p.tables e below (T.setTop g) target) ∨
    (∃ (q : Addr) (vm₁ : Vm) (B : Pt), s.WarmedH vm₁ ∧ Stand p l e R s m args below meth c B.U B.locs B.cells B.slots ∧ PostX ⟨T.setVm vm₁, locs, cells, slots⟩ (Value.ref b :: argsL).toArray q B ∧
      Steps p.tables e below (T.setTop g) ((B.U.setTop { g with stack := rest }).pushFrame (.throwing q))) := by
  obtain ⟨mk, methM, hnamed, hmethM, hstM, habM⟩ := Cond.instanceMethod_spec hinst
  obtain ⟨m8, methM', cM, hn8, hmethM', -, -, -, -, -, -, hsigM⟩ := Cond.codeWith_spec hcode
  cases Option.some.inj (hn8.symm.trans hnamed)
  cases hmethM.symm.trans hmethM'
  obtain ⟨c2, r2, m2, q1, q2, q3, q4, kP, hkP, hkPi⟩ := Cond.selects_spec hsel
  cases hcls.symm.trans q1
  cases (State.methodFound?_of_named hnamed hy).symm.trans q2
  cases hnamed.symm.trans q3
  have hselP : selectMethod e.platform s.vm cellB.cls mk = .method mk := by rw [Launch.admits_selectMethod X.admits]; exact q4
  obtain ⟨vm₁, X₁, hstep₁⟩ := X.invokevirtual hexec hown hlink hnamed hmethM hstM hkP hkPi hy (a := b) (cell := cellB) hcell
    (fun z h => by rw [h] at hobj; cases hobj) hselP hmethM habM hkP hkPi (g := g) hg (argsL := argsL) (rest := rest) (hlen _ hsigM) hstack hdg
  rcases hK m meth c ⟨T.setVm vm₁, locs, cells, slots⟩ { g with stack := rest } (.invokevirtual index) mk (Value.ref b :: argsL).toArray X₁ hg hsize hdg hW (X₁.named hnamed) (hpre vm₁ X₁.warmed) with ⟨v, B, X', hpost, hsteps⟩ | ⟨q, B, X', hpost, hsteps⟩
  · exact Or.inl ⟨v, vm₁, B, X₁.warmed, X', hpost, fun target h => hstep₁ _ fun acts => by rw [doInvoke_state]; exact hsteps.trans h⟩
  · exact Or.inr ⟨q, vm₁, B, X₁.warmed, X', hpost, hstep₁ _ fun acts => by rw [doInvoke_state]; exact hsteps⟩
theorem vx_callSX (X : Stand p l e R s m args below meth c T locs cells slots) (hexec : p.tables.exec = Jvm.exec) {own : String} {index : Nat} {y : MethodName} {bytes : ByteArray} {maxL : Nat} {ret : Option FieldType} {hh : List (Nat × Nat × Nat × Nat)}
    (hown : s.vm.findClass own = some m.cls) (hlink : (Cond.methodLink own index y).before args s = true) (hstat : (Cond.static y).before args s = true) (hinit : (Cond.initialized y.cls).before args s = true)
    (hcode : (Cond.codeWith y bytes maxL ret hh).before args s = true) (hy : y.cls ≠ "java/lang/invoke/MethodHandle" ∧ y.cls ≠ "java/lang/invoke/VarHandle")
    {W9 : Nat} {Pre : Pt → Array Value → Prop} {Post : Pt → Array Value → Option Value → Pt → Prop} {PostX : Pt → Array Value → Addr → Pt → Prop} (hK : vx_Back l R p e below s args y 3 W9 Pre Post PostX)
    {g : JFrame} (hg : g.method = m) (hsize : g.locals.size = c.maxLocals) {argsL rest : List Value} (hlen : ∀ sig, parseMethodDescriptor y.desc = some sig → argsL.length = sig.parameters.length)
    (hstack : g.stack = argsL.reverse ++ rest) (hW : 2 * g.monitorRoom + (rest.map fun v => v.category).sum ≤ W9) (hdg : decode c.code g.pc = .ok (.invokestatic index, 3))
    (hpre : ∀ vm₁, s.WarmedH vm₁ → Pre ⟨T.setVm vm₁, locs, cells, slots⟩ argsL.toArray) :
    (∃ (v : Option Value) (vm₁ : Vm) (B : Pt), s.WarmedH vm₁ ∧ Stand p l e R s m args below meth c B.U B.locs B.cells B.slots ∧ Post ⟨T.setVm vm₁, locs, cells, slots⟩ argsL.toArray v B ∧
      ∀ target, Steps p.tables e below (B.U.setTop { g with pc := g.pc + 3, stack := v.toList ++ rest }) target → Steps p.tables e below (T.setTop g) target) ∨
    (∃ (q : Addr) (vm₁ : Vm) (B : Pt), s.WarmedH vm₁ ∧ Stand p l e R s m args below meth c B.U B.locs B.cells B.slots ∧ PostX ⟨T.setVm vm₁, locs, cells, slots⟩ argsL.toArray q B ∧
      Steps p.tables e below (T.setTop g) ((B.U.setTop { g with stack := rest }).pushFrame (.throwing q))) := by
  obtain ⟨mk, methM, cM, hnamed, hmethM, -, -, -, -, -, -, hsigM⟩ := Cond.codeWith_spec hcode
  have hstatic : methM.isStatic = true := Cond.static_spec hnamed hmethM hstat
  obtain ⟨kP, hkP, -⟩ := className_of_methodNamed hnamed
  have hinitP : kP.init = .initialized := Cond.initialized_spec (findClass_of_methodNamed hnamed) hkP hinit
  obtain ⟨vm₁, X₁, hstep₁⟩ := X.invokestatic hexec hown hlink hnamed hmethM hstatic hkP hinitP hy (g := g) hg (argsL := argsL) (rest := rest) (hlen _ hsigM) hstack hdg
  rcases hK m meth c ⟨T.setVm vm₁, locs, cells, slots⟩ { g with stack := rest } (.invokestatic index) mk argsL.toArray X₁ hg hsize hdg hW (X₁.named hnamed) (hpre vm₁ X₁.warmed) with ⟨v, B, X', hpost, hsteps⟩ | ⟨q, B, X', hpost, hsteps⟩
  · exact Or.inl ⟨v, vm₁, B, X₁.warmed, X', hpost, fun target h => hstep₁ _ fun acts => by rw [doInvoke_state]; exact hsteps.trans h⟩
  · exact Or.inr ⟨q, vm₁, B, X₁.warmed, X', hpost, hstep₁ _ fun acts => by rw [doInvoke_state]; exact hsteps⟩
theorem vx_callVW (X : Stand p l e R s m args below meth c T locs cells slots) (hexec : p.tables.exec = Jvm.exec) {own C : String} {index : Nat} {y : MethodName} {bytes : ByteArray} {maxL : Nat} {ret : Option FieldType} {hh : List (Nat × Nat × Nat × Nat)}
    (hown : s.vm.findClass own = some m.cls) (hlink : (Cond.methodLink own index y).before args s = true) (hinst : (Cond.instanceMethod y).before args s = true) (hsel : (Cond.selects C y y).before args s = true)
    (hcode : (Cond.codeWith y bytes maxL ret hh).before args s = true) (hy : y.cls ≠ "java/lang/invoke/MethodHandle" ∧ y.cls ≠ "java/lang/invoke/VarHandle")
    {W9 : Nat} {Pre : Pt → Array Value → Prop} {Post : Pt → Array Value → Option Value → Pt → Prop} (hK : Back l R p e below s args y 3 W9 Pre Post)
    {b : Addr} {cellB : Cell} (hcell : T.heap[b]? = some cellB) (hobj : cellB.vm.isStatics = false) (hcls : s.vm.findClass C = some cellB.cls)
    {g : JFrame} (hg : g.method = m) (hsize : g.locals.size = c.maxLocals) {argsL rest : List Value} (hlen : ∀ sig, parseMethodDescriptor y.desc = some sig → argsL.length = sig.parameters.length)
    (hstack : g.stack = argsL.reverse ++ .ref b :: rest) (hW : 2 * g.monitorRoom + (rest.map fun v => v.category).sum ≤ W9) (hdg : decode c.code g.pc = .ok (.invokevirtual index, 3))
    (hpre : ∀ vm₁, s.WarmedH vm₁ → Pre ⟨T.setVm vm₁, locs, cells, slots⟩ (Value.ref b :: argsL).toArray) :
    ∃ (v : Option Value) (vm₁ : Vm) (B : Pt), s.WarmedH vm₁ ∧ Stand p l e R s m args below meth c B.U B.locs B.cells B.slots ∧ Post ⟨T.setVm vm₁, locs, cells, slots⟩ (Value.ref b :: argsL).toArray v B ∧
      ∀ target, Steps p.tables e below (B.U.setTop { g with pc := g.pc + 3, stack := v.toList ++ rest }) target → Steps p.tables e below (T.setTop g) target := by
  obtain ⟨mk, methM, hnamed, hmethM, hstM, habM⟩ := Cond.instanceMethod_spec hinst
  obtain ⟨m8, methM', cM, hn8, hmethM', -, -, -, -, -, -, hsigM⟩ := Cond.codeWith_spec hcode
  cases Option.some.inj (hn8.symm.trans hnamed)
  cases hmethM.symm.trans hmethM'
  obtain ⟨c2, r2, m2, q1, q2, q3, q4, kP, hkP, hkPi⟩ := Cond.selects_spec hsel
  cases hcls.symm.trans q1
  cases (State.methodFound?_of_named hnamed hy).symm.trans q2
  cases hnamed.symm.trans q3
  have hselP : selectMethod e.platform s.vm cellB.cls mk = .method mk := by rw [Launch.admits_selectMethod X.admits]; exact q4
  obtain ⟨vm₁, X₁, hstep₁⟩ := X.invokevirtual hexec hown hlink hnamed hmethM hstM hkP hkPi hy (a := b) (cell := cellB) hcell
    (fun z h => by rw [h] at hobj; cases hobj) hselP hmethM habM hkP hkPi (g := g) hg (argsL := argsL) (rest := rest) (hlen _ hsigM) hstack hdg
  obtain ⟨v, B, X', hpost, hsteps⟩ := hK m meth c ⟨T.setVm vm₁, locs, cells, slots⟩ { g with stack := rest } (.invokevirtual index) mk (Value.ref b :: argsL).toArray X₁ hg hsize hdg hW (X₁.named hnamed) (hpre vm₁ X₁.warmed)
  exact ⟨v, vm₁, B, X₁.warmed, X', hpost, fun target h => hstep₁ _ fun acts => by rw [doInvoke_state]; exact hsteps.trans h⟩
abbrev vx_CVW (R : Room) (s : State) (args : Array Value) (own C : String) (index : Nat) (y : MethodName) (bytes : ByteArray) (maxL : Nat) (ret : Option FieldType) (hh : List (Nat × Nat × Nat × Nat)) (ws : List Cond) (rm : Room) (mc ms n : Nat) : Prop :=
  (rm.cells = mc ∧ rm.slots = ms ∧ rm.frames + 1 ≤ R.frames ∧ 8 + (maxL + 11) + rm.locals ≤ R.locals ∧ (∀ w ∈ ws, ∀ (a' : Array Value) (U : State), s.WarmedH U.vm → w.before a' U = true) ∧ Cond.codeWith y bytes maxL ret hh ∈ ws) ∧
  (Cond.codeWith y bytes maxL ret hh).before args s = true ∧ (Cond.initialized y.cls).before args s = true ∧ (y.cls ≠ "java/lang/invoke/MethodHandle" ∧ y.cls ≠ "java/lang/invoke/VarHandle") ∧
  (∀ sig, parseMethodDescriptor y.desc = some sig → n = sig.parameters.length) ∧ (Cond.methodLink own index y).before args s = true ∧ (Cond.instanceMethod y).before args s = true ∧ (Cond.selects C y y).before args s = true
theorem vx_cwVW {own C : String} {index maxL mc ms : Nat} {y : MethodName} {bytes : ByteArray} {ret : Option FieldType} {hh : List (Nat × Nat × Nat × Nat)} {Ts ws ws' : List Cond} {rm : Room} (n : Nat) (ht : ∀ w ∈ Ts, w.before args s = true) (hT : GoodIn Ts (wsV own index C y ws)) (hw : ws = Cond.codeWith y bytes maxL ret hh :: ws') (hrc : rm.cells = mc) (hrs : rm.slots = ms)
    (hd : y.cls = C ∧ y.cls ≠ "java/lang/invoke/MethodHandle" ∧ y.cls ≠ "java/lang/invoke/VarHandle" ∧ (parseMethodDescriptor y.desc).map (fun d => d.parameters.length) = some n) (hR : rm.frames + 1 ≤ R.frames ∧ 8 + (maxL + 11) + rm.locals ≤ R.locals) :
    vx_CVW R s args own C index y bytes maxL ret hh ws rm mc ms n := by
  obtain ⟨hC, hd⟩ := hd
  subst hC
  have ok : ∀ w ∈ wsV own index y.cls y ws, w.before args s = true := fun w h => ht w (hT w h).1
  have hG : GoodIn Ts ws := fun w h => hT w (by unfold wsV; exact List.mem_append_right _ h)
  have hc : Cond.codeWith y bytes maxL ret hh ∈ ws := by rw [hw]; exact List.mem_cons_self
  refine ⟨⟨hrc, hrs, hR.1, hR.2, pay_in ht hG, hc⟩, ht _ (hG _ hc).1, ok _ (by simp [wsV]), ⟨hd.1, hd.2.1⟩, fun sig h => ?_, ok _ (by simp [wsV]), ok _ (by simp [wsV]), ok _ (by simp [wsV])⟩
  have h2 := hd.2.2
  rw [h] at h2
  exact (Option.some.inj h2).symm
theorem vx_runVW {y : MethodName} {bytes cc : ByteArray} {maxL nL mc ms n index : Nat} {ret : Option FieldType} {hh : List (Nat × Nat × Nat × Nat)} {ws : List Cond} {rm : Room} {Pc : Array Value → State → Prop} {Qc : Array Value → State → Outcome → State → Prop} {free : Addr → Prop} {Ts : List Cond} {own C : String} {b : Addr} {As rest : List Value} {g : JFrame}
    (S : CallFix p m c cc nL s args Ts own) (hM : Met l y ws rm Pc Qc mc ms free) (cw : vx_CVW R s args own C index y bytes maxL ret hh ws rm mc ms n) (hp : PreV s H C b Pc As)
    (hg : g.method = m) (hn : As.length = n) (hsize : g.locals.size = nL) (hstack : g.stack = As.reverse ++ .ref b :: rest) (hW : 2 * g.monitorRoom + (rest.map fun v => v.category).sum ≤ 8) (hdg : decode cc g.pc = .ok (.invokevirtual index, 3)) (hf : cells + mc ≤ R.cells ∧ slots + ms ≤ R.slots) :
    va_Run p l e R s m args below meth c H locs cells slots mc ms g rest (Qc (Value.ref b :: As).toArray) free := by
  obtain ⟨⟨hrc, hrs, hfr, hlo, hws, hcw⟩, hcode, hini, hy, hlen, hl, hin, hse⟩ := cw
  have hK : Back l R p e below s args y 3 8 (PreOf R mc ms Pc) (PostOf Qc mc ms free) := va_backW (hh := hh) (bytes := bytes) (maxL := maxL) (ret := ret) hM hp.1 hrc hrs hfr hlo hws hcw (fun a' U hW => word_at hW (Or.inl (by first | rfl | simp [Cond.onTables, Cond.keeps, Cond.steady])) hini)
  obtain ⟨hx, hb, hml, ho, -⟩ := S
  obtain ⟨-, ⟨cellB, hcB, hoB, hclB⟩, hPc⟩ := hp
  intro T hT X
  obtain ⟨v, vm₁, ⟨U', l2, c2, s2⟩, hW₁, X', ⟨g', mk, t, L, e1, e2, hq, h1, hL, h2, h3⟩, st⟩ := vx_callVW X hx (C := C) (hh := hh) (bytes := bytes) (maxL := maxL) (ret := ret) ho hl hin hse hcode hy hK (by rw [hT]; exact hcB) hoB hclB hg (hsize.trans hml.symm) (argsL := As) (rest := rest) (fun sig h => hn.trans (hlen sig h)) hstack hW (by rw [hb]; exact hdg)
    (fun vm₁ hW₁ => ⟨hf.1, hf.2, hPc (T.setVm vm₁) hT hW₁⟩)
  dsimp only [Pt.U, Pt.locs, Pt.cells, Pt.slots] at X' e1 e2 h1 h2 h3 st
  subst h1; subst h2; subst h3
  exact ⟨v, (T.setVm vm₁).calling g' mk (Value.ref b :: As).toArray, t, U', L, hT, X', hL, e1, e2, hq, st⟩
section
variable {y : MethodName} {bytes cc : ByteArray} {maxL nL mc ms n index : Nat} {ret : Option FieldType} {ws : List Cond} {rm : Room} {Pc : Array Value → State → Prop} {Qc : Array Value → State → Outcome → State → Prop} {XC : String → State → State → Prop} {free : Addr → Prop} {Ts : List Cond} {own C : String} {b : Addr} {As rest : List Value} {g : JFrame}
theorem vx_runVX {hh : List (Nat × Nat × Nat × Nat)} (S : CallFix p m c cc nL s args Ts own) (hM : vx_Met l y ws rm Pc Qc XC mc ms free) (cw : vx_CVW R s args own C index y bytes maxL ret hh ws rm mc ms n) (hp : PreV s H C b Pc As)
    (hg : g.method = m) (hn : As.length = n) (hsize : g.locals.size = nL) (hstack : g.stack = As.reverse ++ .ref b :: rest) (hW : 2 * g.monitorRoom + (rest.map fun v => v.category).sum ≤ 8) (hdg : decode cc g.pc = .ok (.invokevirtual index, 3)) (hf : cells + mc ≤ R.cells ∧ slots + ms ≤ R.slots) :
    vx_Run p l e R s m args below meth c H locs cells slots mc ms g rest (Qc (Value.ref b :: As).toArray) XC free := by
  obtain ⟨⟨hrc, hrs, hfr, hlo, hws, hcw⟩, hcode, hini, hy, hlen, hl, hin, hse⟩ := cw
  have hK : vx_Back l R p e below s args y 3 8 (PreOf R mc ms Pc) (PostOf Qc mc ms free) (vx_Post XC mc ms free) := vx_backW (hh := hh) (bytes := bytes) (maxL := maxL) (ret := ret) hM hp.1 hrc hrs hfr hlo hws hcw (fun a' U hW => word_at hW (Or.inl (by first | rfl | simp [Cond.onTables, Cond.keeps, Cond.steady])) hini)
  obtain ⟨hx, hb, hml, ho, -⟩ := S
  obtain ⟨-, ⟨cellB, hcB, hoB, hclB⟩, hPc⟩ := hp
  intro T hT X
  rcases vx_callVX X hx (C := C) (hh := hh) (bytes := bytes) (maxL := maxL) (ret := ret) ho hl hin hse hcode hy hK (by rw [hT]; exact hcB) hoB hclB hg (hsize.trans hml.symm) (argsL := As) (rest := rest) (fun sig h => hn.trans (hlen sig h)) hstack hW (by rw [hb]; exact hdg)
    (fun vm₁ hW₁ => ⟨hf.1, hf.2, hPc (T.setVm vm₁) hT hW₁⟩) with ⟨v, vm₁, ⟨U', l2, c2, s2⟩, hW₁, X', ⟨g', mk, t, L, e1, e2, hq, h1, hL, h2, h3⟩, st⟩ | ⟨q, vm₁, ⟨U', l2, c2, s2⟩, hW₁, X', ⟨g', mk, t, L, E, ce, e1, e2, hq, hce, hcv, hcl, h1, hL, h2, h3⟩, st⟩
  · dsimp only [Pt.U, Pt.locs, Pt.cells, Pt.slots] at X' e1 e2 h1 h2 h3 st
    subst h1; subst h2; subst h3
    exact Or.inl ⟨v, (T.setVm vm₁).calling g' mk (Value.ref b :: As).toArray, t, U', L, hT, X', hL, e1, e2, hq, st⟩
  · dsimp only [Pt.U, Pt.locs, Pt.cells, Pt.slots] at X' e1 e2 h1 h2 h3 st hcl
    subst h1; subst h2; subst h3
    exact Or.inr ⟨q, (T.setVm vm₁).calling g' mk (Value.ref b :: As).toArray, t, U', L, E, ce, hT, X', hL, e1, e2, hq, hce, hcv, vx_cls hW₁ hcl, st⟩
theorem vx_runSX {hh : List (Nat × Nat × Nat × Nat)} (S : CallFix p m c cc nL s args Ts own) (hM : vx_Met l y ws rm Pc Qc XC mc ms free) (cw : vx_CSW R s args own index y bytes maxL ret hh ws rm mc ms n) (hp : PreS s H Pc As)
    (hg : g.method = m) (hn : As.length = n) (hsize : g.locals.size = nL) (hstack : g.stack = As.reverse ++ rest) (hW : 2 * g.monitorRoom + (rest.map fun v => v.category).sum ≤ 8) (hdg : decode cc g.pc = .ok (.invokestatic index, 3)) (hf : cells + mc ≤ R.cells ∧ slots + ms ≤ R.slots) :
    vx_Run p l e R s m args below meth c H locs cells slots mc ms g rest (Qc As.toArray) XC free := by
  obtain ⟨⟨hrc, hrs, hfr, hlo, hws, hcw⟩, hcode, hini, hy, hlen, hl, hstt⟩ := cw
  have hK : vx_Back l R p e below s args y 3 8 (PreOf R mc ms Pc) (PostOf Qc mc ms free) (vx_Post XC mc ms free) := vx_backW (hh := hh) (bytes := bytes) (maxL := maxL) (ret := ret) hM hp.1 hrc hrs hfr hlo hws hcw (fun a' U hW => word_at hW (Or.inl (by first | rfl | simp [Cond.onTables, Cond.keeps, Cond.steady])) hini)
  obtain ⟨hx, hb, hml, ho, -⟩ := S
  intro T hT X
  rcases vx_callSX X hx (hh := hh) (bytes := bytes) (maxL := maxL) (ret := ret) ho hl hstt hini hcode hy hK hg (hsize.trans hml.symm) (argsL := As) (rest := rest) (fun sig h => hn.trans (hlen sig h)) hstack hW (by rw [hb]; exact hdg)
    (fun vm₁ hW₁ => ⟨hf.1, hf.2, hp.2 (T.setVm vm₁) hT hW₁⟩) with ⟨v, vm₁, ⟨U', l2, c2, s2⟩, hW₁, X', ⟨g', mk, t, L, e1, e2, hq, h1, hL, h2, h3⟩, st⟩ | ⟨q, vm₁, ⟨U', l2, c2, s2⟩, hW₁, X', ⟨g', mk, t, L, E, ce, e1, e2, hq, hce, hcv, hcl, h1, hL, h2, h3⟩, st⟩
  · dsimp only [Pt.U, Pt.locs, Pt.cells, Pt.slots] at X' e1 e2 h1 h2 h3 st
    subst h1; subst h2; subst h3
    exact Or.inl ⟨v, (T.setVm vm₁).calling g' mk As.toArray, t, U', L, hT, X', hL, e1, e2, hq, st⟩
  · dsimp only [Pt.U, Pt.locs, Pt.cells, Pt.slots] at X' e1 e2 h1 h2 h3 st hcl
    subst h1; subst h2; subst h3
    exact Or.inr ⟨q, (T.setVm vm₁).calling g' mk As.toArray, t, U', L, E, ce, hT, X', hL, e1, e2, hq, hce, hcv, vx_cls hW₁ hcl, st⟩
end
end VXH
theorem vx_ofWH {l : Launch} {y : MethodName} {ws ws' : List Cond} {rm : Room} {Pc : Array Value → State → Prop} {Qc : Array Value → State → Outcome → State → Prop} {XC : String → State → State → Prop} {mc ms : Nat} {free : Addr → Prop} {cc : ByteArray} {maxL : Nat} {ret : Option FieldType} {hh : List (Nat × Nat × Nat × Nat)}
    (hy : plainName y.cls = true) (hw : ws = Cond.codeWith y cc maxL ret hh :: ws')
    (body : ∀ p e s m args below meth c s₁, BodyLoose p l y (headSpec ws rm) cc maxL ret e s m args below meth c s₁ → c.maxLocals = maxL → Pc args s →
      W p l e (headSpec ws rm).room s m args below meth c s.heap [] 0 0 (vx_MQ below Qc XC args s mc ms free) (entryFrame m args maxL)) : vx_Met l y ws rm Pc Qc XC mc ms free := by
  refine MetFree.of_bodyS (code := cc) (maxLocals := maxL) (ret := ret) hy ?_ ?_
  · intro args s m h hn
    obtain ⟨m9, meth, c, hn9, h1, h2, h3, h4, -, h5, h6, -⟩ := Cond.codeWith_spec (atoms_spec (ws := ws) h _ (by rw [hw]; exact List.mem_cons_self))
    cases hn.symm.trans hn9
    exact ⟨meth, c, h1, h2, h3, h4, h5, h6⟩
  · intro p e s m args below meth c s₁ B hml hP _
    have hh0 : s₁.heap = s.heap := by rw [B.state]; rfl
    obtain ⟨t, a1, o, b1, b2, b3⟩ := body p e s m args below meth c s₁ B hml hP s₁ hh0 (Stand.of_body B)
    exact ⟨t, o, a1, b1, b2, b3⟩
/-! ===== END ===== -/
end
section
/-! ===== BEGIN printed: names, fields, word lists, decode rows ===== -/
def RX0 : String := "JoinBlocks$Ranking"
def TX0 : u_T := fun k => match k with
  | 0 => ("JoinBlocks$Ranking", "numbers", "[I", true)
  | 1 => ("JoinBlocks$Ranking", "merged", "[I", true)
  | _ => ("JoinBlocks$Ranking", "size", "I", false)
def tyX0 : Nat → FieldType := fun k => match k with
  | 0 => .array .int
  | 1 => .array .int
  | _ => .int
abbrev wsX00 : List Cond := u_ws RX0 TX0 3
theorem nmX0 : ∀ a, a < 3 → ∀ b, b < 3 → a ≠ b → (TX0 a).2.1 ≠ (TX0 b).2.1 := by decide +kernel
theorem tyX0_ok : ∀ k, k < 3 → parseFieldDescriptor (TX0 k).2.2.1 = some (tyX0 k) := by decide +kernel
abbrev cX0_init : ByteArray := prog_2_method_1_code
def yX0_init : MethodName := ⟨RX0, "<init>", "()V"⟩
abbrev cX0_rank : ByteArray := prog_2_method_2_code
def yX0_rank : MethodName := ⟨RX0, "rank", "(LJoinBlocks$ScoredSet;II)V"⟩
abbrev cX0_mergeRuns : ByteArray := prog_2_method_3_code
def yX0_mergeRuns : MethodName := ⟨RX0, "mergeRuns", "(LJoinBlocks$ScoredSet;I)V"⟩
abbrev cX0_mergeTwo : ByteArray := prog_2_method_4_code
def yX0_mergeTwo : MethodName := ⟨RX0, "mergeTwo", "(LJoinBlocks$ScoredSet;III)V"⟩
def RX1 : String := "JoinBlocks$Row"
def TX1 : u_T := fun k => match k with
  | 0 => ("JoinBlocks$Row", "levels", "[I", true)
  | 1 => ("JoinBlocks$Row", "values", "[I", true)
  | 2 => ("JoinBlocks$Row", "tags", "[I", true)
  | 3 => ("JoinBlocks$Row", "links", "[I", true)
  | 4 => ("JoinBlocks$Row", "keys", "[I", true)
  | 5 => ("JoinBlocks$Row", "living", "[Z", true)
  | _ => ("JoinBlocks$Row", "size", "I", false)
def tyX1 : Nat → FieldType := fun k => match k with
  | 0 => .array .int
  | 1 => .array .int
  | 2 => .array .int
  | 3 => .array .int
  | 4 => .array .int
  | 5 => .array .boolean
  | _ => .int
abbrev wsX10 : List Cond := u_ws RX1 TX1 7
theorem nmX1 : ∀ a, a < 7 → ∀ b, b < 7 → a ≠ b → (TX1 a).2.1 ≠ (TX1 b).2.1 := by decide +kernel
theorem tyX1_ok : ∀ k, k < 7 → parseFieldDescriptor (TX1 k).2.2.1 = some (tyX1 k) := by decide +kernel
abbrev cX1_init : ByteArray := prog_3_method_1_code
def yX1_init : MethodName := ⟨RX1, "<init>", "(I)V"⟩
abbrev cX1_holds : ByteArray := prog_3_method_2_code
def yX1_holds : MethodName := ⟨RX1, "holds", "(I)Z"⟩
abbrev cX1_isRoot : ByteArray := prog_3_method_3_code
def yX1_isRoot : MethodName := ⟨RX1, "isRoot", "(I)Z"⟩
abbrev cX1_append : ByteArray := prog_3_method_4_code
def yX1_append : MethodName := ⟨RX1, "append", "(IIIII)V"⟩
abbrev cX1_appendFrom : ByteArray := prog_3_method_5_code
def yX1_appendFrom : MethodName := ⟨RX1, "appendFrom", "(LJoinBlocks$Row;I)V"⟩
abbrev cX1_appendAll : ByteArray := prog_3_method_6_code
def yX1_appendAll : MethodName := ⟨RX1, "appendAll", "(LJoinBlocks$Row;)V"⟩
abbrev cX1_keepLiving : ByteArray := prog_3_method_7_code
def yX1_keepLiving : MethodName := ⟨RX1, "keepLiving", "()V"⟩
abbrev cX1_livingRoot : ByteArray := prog_3_method_8_code
def yX1_livingRoot : MethodName := ⟨RX1, "livingRoot", "(I)I"⟩
abbrev cX1_killBlock : ByteArray := prog_3_method_9_code
def yX1_killBlock : MethodName := ⟨RX1, "killBlock", "(I)I"⟩
abbrev cX1_countLiving : ByteArray := prog_3_method_10_code
def yX1_countLiving : MethodName := ⟨RX1, "countLiving", "(I)I"⟩
abbrev cX1_parentOf : ByteArray := prog_3_method_11_code
def yX1_parentOf : MethodName := ⟨RX1, "parentOf", "(I)I"⟩
abbrev cX1_firstBelow : ByteArray := prog_3_method_12_code
def yX1_firstBelow : MethodName := ⟨RX1, "firstBelow", "(I)I"⟩
def RX2 : String := "JoinBlocks$ScoredSet"
def TX2 : u_T := fun k => match k with
  | 0 => ("JoinBlocks$ScoredSet", "members", "[Z", true)
  | 1 => ("JoinBlocks$ScoredSet", "scores", "[J", true)
  | _ => ("JoinBlocks$ScoredSet", "size", "I", false)
def tyX2 : Nat → FieldType := fun k => match k with
  | 0 => .array .boolean
  | 1 => .array .long
  | _ => .int
abbrev wsX20 : List Cond := u_ws RX2 TX2 3
theorem nmX2 : ∀ a, a < 3 → ∀ b, b < 3 → a ≠ b → (TX2 a).2.1 ≠ (TX2 b).2.1 := by decide +kernel
theorem tyX2_ok : ∀ k, k < 3 → parseFieldDescriptor (TX2 k).2.2.1 = some (tyX2 k) := by decide +kernel
abbrev cX2_init : ByteArray := prog_4_method_1_code
def yX2_init : MethodName := ⟨RX2, "<init>", "()V"⟩
abbrev cX2_has : ByteArray := prog_4_method_2_code
def yX2_has : MethodName := ⟨RX2, "has", "(I)Z"⟩
abbrev cX2_clear : ByteArray := prog_4_method_3_code
def yX2_clear : MethodName := ⟨RX2, "clear", "()V"⟩
abbrev cX2_put : ByteArray := prog_4_method_4_code
def yX2_put : MethodName := ⟨RX2, "put", "(IJ)V"⟩
abbrev cX2_add : ByteArray := prog_4_method_5_code
def yX2_add : MethodName := ⟨RX2, "add", "(IJ)V"⟩
abbrev cX2_remove : ByteArray := prog_4_method_6_code
def yX2_remove : MethodName := ⟨RX2, "remove", "(I)V"⟩
abbrev cX2_addAll : ByteArray := prog_4_method_7_code
def yX2_addAll : MethodName := ⟨RX2, "addAll", "(LJoinBlocks$ScoredSet;)V"⟩
abbrev cX2_removeAll : ByteArray := prog_4_method_8_code
def yX2_removeAll : MethodName := ⟨RX2, "removeAll", "(LJoinBlocks$ScoredSet;)V"⟩
abbrev cX2_keepCommon : ByteArray := prog_4_method_9_code
def yX2_keepCommon : MethodName := ⟨RX2, "keepCommon", "(LJoinBlocks$ScoredSet;)V"⟩
abbrev cX2_moveTo : ByteArray := prog_4_method_10_code
def yX2_moveTo : MethodName := ⟨RX2, "moveTo", "(LJoinBlocks$ScoredSet;)V"⟩
def RX3 : String := "JoinBlocks"
def TX3 : u_T := fun k => match k with
  | 0 => ("JoinBlocks", "open", "LJoinBlocks$Row;", true)
  | 1 => ("JoinBlocks", "row", "LJoinBlocks$Row;", true)
  | 2 => ("JoinBlocks", "stack", "[LJoinBlocks$ScoredSet;", true)
  | 3 => ("JoinBlocks", "taken", "LJoinBlocks$ScoredSet;", true)
  | 4 => ("JoinBlocks", "kin", "LJoinBlocks$ScoredSet;", true)
  | 5 => ("JoinBlocks", "ranking", "LJoinBlocks$Ranking;", true)
  | 6 => ("JoinBlocks", "depth", "I", false)
  | _ => ("JoinBlocks", "wentUp", "Z", false)
def tyX3 : Nat → FieldType := fun k => match k with
  | 0 => .object "JoinBlocks$Row"
  | 1 => .object "JoinBlocks$Row"
  | 2 => .array (.object "JoinBlocks$ScoredSet")
  | 3 => .object "JoinBlocks$ScoredSet"
  | 4 => .object "JoinBlocks$ScoredSet"
  | 5 => .object "JoinBlocks$Ranking"
  | 6 => .int
  | _ => .boolean
abbrev wsX30 : List Cond := u_ws RX3 TX3 8
theorem nmX3 : ∀ a, a < 8 → ∀ b, b < 8 → a ≠ b → (TX3 a).2.1 ≠ (TX3 b).2.1 := by decide +kernel
theorem tyX3_ok : ∀ k, k < 8 → parseFieldDescriptor (TX3 k).2.2.1 = some (tyX3 k) := by decide +kernel
abbrev cX3_init : ByteArray := prog_1_method_1_code
def yX3_init : MethodName := ⟨RX3, "<init>", "()V"⟩
abbrev cX3_child : ByteArray := prog_1_method_2_code
def yX3_child : MethodName := ⟨RX3, "child", "(IIII)I"⟩
abbrev cX3_close : ByteArray := prog_1_method_3_code
def yX3_close : MethodName := ⟨RX3, "close", "(IIII)I"⟩
abbrev cX3_drop : ByteArray := prog_1_method_4_code
def yX3_drop : MethodName := ⟨RX3, "drop", "()I"⟩
abbrev cX3_kill : ByteArray := prog_1_method_5_code
def yX3_kill : MethodName := ⟨RX3, "kill", "(I)I"⟩
abbrev cX3_merge : ByteArray := prog_1_method_6_code
def yX3_merge : MethodName := ⟨RX3, "merge", "()I"⟩
abbrev cX3_object : ByteArray := prog_1_method_7_code
def yX3_object : MethodName := ⟨RX3, "object", "(II)I"⟩
abbrev cX3_count : ByteArray := prog_1_method_8_code
def yX3_count : MethodName := ⟨RX3, "count", "(I)I"⟩
abbrev cX3_root : ByteArray := prog_1_method_9_code
def yX3_root : MethodName := ⟨RX3, "root", "(I)I"⟩
abbrev cX3_find : ByteArray := prog_1_method_10_code
def yX3_find : MethodName := ⟨RX3, "find", "(III)I"⟩
abbrev cX3_join : ByteArray := prog_1_method_11_code
def yX3_join : MethodName := ⟨RX3, "join", "(I)I"⟩
abbrev cX3_up : ByteArray := prog_1_method_12_code
def yX3_up : MethodName := ⟨RX3, "up", "(II)I"⟩
abbrev cX3_down : ByteArray := prog_1_method_13_code
def yX3_down : MethodName := ⟨RX3, "down", "(I)I"⟩
abbrev cX3_over : ByteArray := prog_1_method_14_code
def yX3_over : MethodName := ⟨RX3, "over", "()I"⟩
abbrev cX3_again : ByteArray := prog_1_method_15_code
def yX3_again : MethodName := ⟨RX3, "again", "()I"⟩
abbrev cX3_pop : ByteArray := prog_1_method_16_code
def yX3_pop : MethodName := ⟨RX3, "pop", "()I"⟩
abbrev cX3_hit : ByteArray := prog_1_method_17_code
def yX3_hit : MethodName := ⟨RX3, "hit", "(I)I"⟩
abbrev cX3_score : ByteArray := prog_1_method_18_code
def yX3_score : MethodName := ⟨RX3, "score", "(I)J"⟩
abbrev cX3_family : ByteArray := prog_1_method_19_code
def yX3_family : MethodName := ⟨RX3, "family", "(II)I"⟩
abbrev cX3_share : ByteArray := prog_1_method_20_code
def yX3_share : MethodName := ⟨RX3, "share", "()J"⟩
abbrev cX3_isWithin : ByteArray := prog_1_method_21_code
def yX3_isWithin : MethodName := ⟨RX3, "isWithin", "(III)Z"⟩
abbrev cX3_isKey : ByteArray := prog_1_method_22_code
def yX3_isKey : MethodName := ⟨RX3, "isKey", "(I)Z"⟩
abbrev cX3_isValue : ByteArray := prog_1_method_23_code
def yX3_isValue : MethodName := ⟨RX3, "isValue", "(I)Z"⟩
abbrev cX3_areTold : ByteArray := prog_1_method_24_code
def yX3_areTold : MethodName := ⟨RX3, "areTold", "(III)Z"⟩
abbrev cX3_forgetSets : ByteArray := prog_1_method_25_code
def yX3_forgetSets : MethodName := ⟨RX3, "forgetSets", "()V"⟩
abbrev cX3_canBeFound : ByteArray := prog_1_method_26_code
def yX3_canBeFound : MethodName := ⟨RX3, "canBeFound", "(III)Z"⟩
abbrev cX3_isFound : ByteArray := prog_1_method_27_code
def yX3_isFound : MethodName := ⟨RX3, "isFound", "(IIII)Z"⟩
abbrev cX3_scoreFound : ByteArray := prog_1_method_28_code
def yX3_scoreFound : MethodName := ⟨RX3, "scoreFound", "(III)J"⟩
abbrev cX3_gatherBelow : ByteArray := prog_1_method_29_code
def yX3_gatherBelow : MethodName := ⟨RX3, "gatherBelow", "(IILJoinBlocks$ScoredSet;)V"⟩
abbrev cX3_combine : ByteArray := prog_1_method_30_code
def yX3_combine : MethodName := ⟨RX3, "combine", "(IJJ)J"⟩
abbrev cX3_spreadBelow : ByteArray := prog_1_method_31_code
def yX3_spreadBelow : MethodName := ⟨RX3, "spreadBelow", "(IILJoinBlocks$ScoredSet;)V"⟩
abbrev cX3_spreadToLinked : ByteArray := prog_1_method_32_code
def yX3_spreadToLinked : MethodName := ⟨RX3, "spreadToLinked", "(ILJoinBlocks$ScoredSet;)V"⟩
abbrev cX3_answerRanked : ByteArray := prog_1_method_33_code
def yX3_answerRanked : MethodName := ⟨RX3, "answerRanked", "(I)I"⟩
def RX4 : String := "JoinBlocksModel"
def TX4 : u_T := fun k => match k with
  | 0 => ("JoinBlocksModel", "thrown", "I", false)
  | 1 => ("JoinBlocksModel", "objects", "I", false)
  | 2 => ("JoinBlocksModel", "level", "[I", true)
  | 3 => ("JoinBlocksModel", "value", "[I", true)
  | 4 => ("JoinBlocksModel", "tags", "[I", true)
  | 5 => ("JoinBlocksModel", "link", "[I", true)
  | 6 => ("JoinBlocksModel", "key", "[I", true)
  | 7 => ("JoinBlocksModel", "lives", "[Z", true)
  | 8 => ("JoinBlocksModel", "opened", "I", false)
  | 9 => ("JoinBlocksModel", "open", "[I", true)
  | 10 => ("JoinBlocksModel", "sets", "I", false)
  | 11 => ("JoinBlocksModel", "in", "[Z", true)
  | 12 => ("JoinBlocksModel", "scores", "[J", true)
  | 13 => ("JoinBlocksModel", "hasFamily", "Z", false)
  | 14 => ("JoinBlocksModel", "was", "[Z", true)
  | _ => ("JoinBlocksModel", "had", "[J", true)
def tyX4 : Nat → FieldType := fun k => match k with
  | 0 => .int
  | 1 => .int
  | 2 => .array .int
  | 3 => .array .int
  | 4 => .array .int
  | 5 => .array .int
  | 6 => .array .int
  | 7 => .array .boolean
  | 8 => .int
  | 9 => .array .int
  | 10 => .int
  | 11 => .array .boolean
  | 12 => .array .long
  | 13 => .boolean
  | 14 => .array .boolean
  | _ => .array .long
abbrev wsX40 : List Cond := u_ws RX4 TX4 16
theorem nmX4 : ∀ a, a < 16 → ∀ b, b < 16 → a ≠ b → (TX4 a).2.1 ≠ (TX4 b).2.1 := by decide +kernel
theorem tyX4_ok : ∀ k, k < 16 → parseFieldDescriptor (TX4 k).2.2.1 = some (tyX4 k) := by decide +kernel
abbrev cX4_init : ByteArray := prog_6_method_1_code
def yX4_init : MethodName := ⟨RX4, "<init>", "()V"⟩
abbrev cX4_thrown : ByteArray := prog_6_method_2_code
def yX4_thrown : MethodName := ⟨RX4, "thrown", "()I"⟩
abbrev cX4_isIn : ByteArray := prog_6_method_3_code
def yX4_isIn : MethodName := ⟨RX4, "isIn", "(III)Z"⟩
abbrev cX4_isObject : ByteArray := prog_6_method_4_code
def yX4_isObject : MethodName := ⟨RX4, "isObject", "(I)Z"⟩
abbrev cX4_child : ByteArray := prog_6_method_5_code
def yX4_child : MethodName := ⟨RX4, "child", "(IIII)I"⟩
abbrev cX4_stand : ByteArray := prog_6_method_6_code
def yX4_stand : MethodName := ⟨RX4, "stand", "(IIIII)V"⟩
abbrev cX4_rootOf : ByteArray := prog_6_method_7_code
def yX4_rootOf : MethodName := ⟨RX4, "rootOf", "(I)I"⟩
abbrev cX4_empty : ByteArray := prog_6_method_8_code
def yX4_empty : MethodName := ⟨RX4, "empty", "()V"⟩
abbrev cX4_die : ByteArray := prog_6_method_9_code
def yX4_die : MethodName := ⟨RX4, "die", "(I)I"⟩
abbrev cX4_close : ByteArray := prog_6_method_10_code
def yX4_close : MethodName := ⟨RX4, "close", "(IIII)I"⟩
abbrev cX4_drop : ByteArray := prog_6_method_11_code
def yX4_drop : MethodName := ⟨RX4, "drop", "()I"⟩
abbrev cX4_kill : ByteArray := prog_6_method_12_code
def yX4_kill : MethodName := ⟨RX4, "kill", "(I)I"⟩
abbrev cX4_merge : ByteArray := prog_6_method_13_code
def yX4_merge : MethodName := ⟨RX4, "merge", "()I"⟩
abbrev cX4_parent : ByteArray := prog_6_method_14_code
def yX4_parent : MethodName := ⟨RX4, "parent", "(I)I"⟩
abbrev cX4_isAbove : ByteArray := prog_6_method_15_code
def yX4_isAbove : MethodName := ⟨RX4, "isAbove", "(II)Z"⟩
abbrev cX4_belowOf : ByteArray := prog_6_method_16_code
def yX4_belowOf : MethodName := ⟨RX4, "belowOf", "(I)I"⟩
abbrev cX4_object : ByteArray := prog_6_method_17_code
def yX4_object : MethodName := ⟨RX4, "object", "(II)I"⟩
abbrev cX4_count : ByteArray := prog_6_method_18_code
def yX4_count : MethodName := ⟨RX4, "count", "(I)I"⟩
abbrev cX4_root : ByteArray := prog_6_method_19_code
def yX4_root : MethodName := ⟨RX4, "root", "(I)I"⟩
abbrev cX4_sizeOf : ByteArray := prog_6_method_20_code
def yX4_sizeOf : MethodName := ⟨RX4, "sizeOf", "(I)I"⟩
abbrev cX4_bits : ByteArray := prog_6_method_21_code
def yX4_bits : MethodName := ⟨RX4, "bits", "(I)I"⟩
abbrev cX4_mayBeFound : ByteArray := prog_6_method_22_code
def yX4_mayBeFound : MethodName := ⟨RX4, "mayBeFound", "(III)Z"⟩
abbrev cX4_isFound : ByteArray := prog_6_method_23_code
def yX4_isFound : MethodName := ⟨RX4, "isFound", "(IIII)Z"⟩
abbrev cX4_find : ByteArray := prog_6_method_24_code
def yX4_find : MethodName := ⟨RX4, "find", "(III)I"⟩
abbrev cX4_join : ByteArray := prog_6_method_25_code
def yX4_join : MethodName := ⟨RX4, "join", "(I)I"⟩
abbrev cX4_takeLast : ByteArray := prog_6_method_26_code
def yX4_takeLast : MethodName := ⟨RX4, "takeLast", "()V"⟩
abbrev cX4_up : ByteArray := prog_6_method_27_code
def yX4_up : MethodName := ⟨RX4, "up", "(II)I"⟩
abbrev cX4_down : ByteArray := prog_6_method_28_code
def yX4_down : MethodName := ⟨RX4, "down", "(I)I"⟩
abbrev cX4_over : ByteArray := prog_6_method_29_code
def yX4_over : MethodName := ⟨RX4, "over", "()I"⟩
abbrev cX4_again : ByteArray := prog_6_method_30_code
def yX4_again : MethodName := ⟨RX4, "again", "()I"⟩
abbrev cX4_pop : ByteArray := prog_6_method_31_code
def yX4_pop : MethodName := ⟨RX4, "pop", "()I"⟩
abbrev cX4_kth : ByteArray := prog_6_method_32_code
def yX4_kth : MethodName := ⟨RX4, "kth", "(III)I"⟩
abbrev cX4_hit : ByteArray := prog_6_method_33_code
def yX4_hit : MethodName := ⟨RX4, "hit", "(I)I"⟩
abbrev cX4_score : ByteArray := prog_6_method_34_code
def yX4_score : MethodName := ⟨RX4, "score", "(I)J"⟩
abbrev cX4_family : ByteArray := prog_6_method_35_code
def yX4_family : MethodName := ⟨RX4, "family", "(II)I"⟩
abbrev cX4_share : ByteArray := prog_6_method_36_code
def yX4_share : MethodName := ⟨RX4, "share", "()J"⟩
def RJ6 : String := "java/lang/Integer"
def TJ6 : u_T := fun k => match k with
  | _ => ("", "", "", false)
def tyJ6 : Nat → FieldType := fun k => match k with
  | _ => .int
abbrev wsJ60 : List Cond := u_ws RJ6 TJ6 0
theorem nmJ6 : ∀ a, a < 0 → ∀ b, b < 0 → a ≠ b → (TJ6 a).2.1 ≠ (TJ6 b).2.1 := by decide +kernel
theorem tyJ6_ok : ∀ k, k < 0 → parseFieldDescriptor (TJ6 k).2.2.1 = some (tyJ6 k) := by decide +kernel
abbrev cJ6_bitCount_0f7a4 : ByteArray := prog_9_method_49_code
def yJ6_bitCount_0f7a4 : MethodName := ⟨RJ6, "bitCount", "(I)I"⟩
def RJ9 : String := "java/lang/Math"
def TJ9 : u_T := fun k => match k with
  | _ => ("", "", "", false)
def tyJ9 : Nat → FieldType := fun k => match k with
  | _ => .int
abbrev wsJ90 : List Cond := u_ws RJ9 TJ9 0
theorem nmJ9 : ∀ a, a < 0 → ∀ b, b < 0 → a ≠ b → (TJ9 a).2.1 ≠ (TJ9 b).2.1 := by decide +kernel
theorem tyJ9_ok : ∀ k, k < 0 → parseFieldDescriptor (TJ9 k).2.2.1 = some (tyJ9 k) := by decide +kernel
abbrev cJ9_max_f86c9 : ByteArray := prog_10_method_66_code
def yJ9_max_f86c9 : MethodName := ⟨RJ9, "max", "(JJ)J"⟩
abbrev cJ9_min_7cf53 : ByteArray := prog_10_method_69_code
def yJ9_min_7cf53 : MethodName := ⟨RJ9, "min", "(II)I"⟩
abbrev cJ9_min_f86c9 : ByteArray := prog_10_method_70_code
def yJ9_min_f86c9 : MethodName := ⟨RJ9, "min", "(JJ)J"⟩
def RJ0 : String := "java/lang/String"
def TJ0 : u_T := fun k => match k with
  | _ => ("", "", "", false)
def tyJ0 : Nat → FieldType := fun k => match k with
  | _ => .int
abbrev wsJ00 : List Cond := u_ws RJ0 TJ0 0
theorem nmJ0 : ∀ a, a < 0 → ∀ b, b < 0 → a ≠ b → (TJ0 a).2.1 ≠ (TJ0 b).2.1 := by decide +kernel
theorem tyJ0_ok : ∀ k, k < 0 → parseFieldDescriptor (TJ0 k).2.2.1 = some (tyJ0 k) := by decide +kernel
def RJ10 : String := "java/lang/System"
def TJ10 : u_T := fun k => match k with
  | _ => ("", "", "", false)
def tyJ10 : Nat → FieldType := fun k => match k with
  | _ => .int
abbrev wsJ100 : List Cond := u_ws RJ10 TJ10 0
theorem nmJ10 : ∀ a, a < 0 → ∀ b, b < 0 → a ≠ b → (TJ10 a).2.1 ≠ (TJ10 b).2.1 := by decide +kernel
theorem tyJ10_ok : ∀ k, k < 0 → parseFieldDescriptor (TJ10 k).2.2.1 = some (tyJ10 k) := by decide +kernel
def RL : String := "JoinBlocksLaw"
abbrev cL_share : ByteArray := method_3_code
def yL_share : MethodName := ⟨RL, "share", "(LJoinBlocks;[J)I"⟩
abbrev cL_law : ByteArray := code
def yL_law : MethodName := ⟨RL, "law", "([I)Z"⟩
def wsX0_init : List Cond := .code yX0_init cX0_init 1 none :: ([.methodLink RX0 3 objectInit, .instanceMethod objectInit, .code objectInit ⟨#[0xb1]⟩ 1 none, .arrayClass .int, .fieldLink RX0 9 "JoinBlocks$Ranking" "numbers" "[I", .fieldLink RX0 15 "JoinBlocks$Ranking" "merged" "[I", .fieldLink RX0 18 "JoinBlocks$Ranking" "size" "I"] ++ wsX00)
def wsX2_has : List Cond := .code yX2_has cX2_has 2 (some .boolean) :: ([.fieldLink RX2 9 "JoinBlocks$ScoredSet" "members" "[Z"] ++ wsX20)
def wsX0_mergeTwo : List Cond := .code yX0_mergeTwo cX0_mergeTwo 9 none :: ([.fieldLink RX0 48 "JoinBlocks$ScoredSet" "scores" "[J", .fieldLink RX0 9 "JoinBlocks$Ranking" "numbers" "[I", .fieldLink RX0 15 "JoinBlocks$Ranking" "merged" "[I"] ++ wsX20 ++ wsX00)
def wsX0_mergeRuns : List Cond := .code yX0_mergeRuns cX0_mergeRuns 6 none :: ([.fieldLink RX0 18 "JoinBlocks$Ranking" "size" "I", .methodLink RX0 32 Lib.Math.min.name, .static Lib.Math.min.name, .initialized "java/lang/Math", .code Lib.Math.min.name Lib.Math.min.code 2 (some .int), .fieldLink RX0 15 "JoinBlocks$Ranking" "merged" "[I", .fieldLink RX0 9 "JoinBlocks$Ranking" "numbers" "[I", .methodLink RX0 42 arraycopyName, .native arraycopyName, .static arraycopyName, .initialized "java/lang/System", .methodLink RX0 38 yX0_mergeTwo, .instanceMethod yX0_mergeTwo, .selects RX0 yX0_mergeTwo yX0_mergeTwo, .initialized RX0, .code yX0_mergeTwo cX0_mergeTwo 9 none, .fieldLink RX0 48 "JoinBlocks$ScoredSet" "scores" "[J"] ++ wsX00 ++ wsX20)
def wsX0_rank_r1 : List Cond := [Cond.fieldLink RX0 18 "JoinBlocks$Ranking" "size" "I", Cond.fieldLink RX0 9 "JoinBlocks$Ranking" "numbers" "[I", Cond.methodLink RX0 22 yX2_has, Cond.instanceMethod yX2_has, Cond.selects RX2 yX2_has yX2_has, Cond.initialized RX2, Cond.code yX2_has cX2_has 2 (some .boolean), Cond.fieldLink RX2 9 "JoinBlocks$ScoredSet" "members" "[Z", Cond.methodLink RX0 28 yX0_mergeRuns, Cond.instanceMethod yX0_mergeRuns, Cond.selects RX0 yX0_mergeRuns yX0_mergeRuns, Cond.initialized RX0, Cond.code yX0_mergeRuns cX0_mergeRuns 6 none, Cond.methodLink RX0 32 Lib.Math.min.name, Cond.static Lib.Math.min.name, Cond.initialized "java/lang/Math", Cond.code Lib.Math.min.name Lib.Math.min.code 2 (some .int), Cond.fieldLink RX0 15 "JoinBlocks$Ranking" "merged" "[I", Cond.methodLink RX0 42 arraycopyName, Cond.native arraycopyName, Cond.static arraycopyName, Cond.initialized "java/lang/System", Cond.methodLink RX0 38 yX0_mergeTwo, Cond.instanceMethod yX0_mergeTwo]
def wsX0_rank_r2 : List Cond := [Cond.selects RX0 yX0_mergeTwo yX0_mergeTwo, Cond.code yX0_mergeTwo cX0_mergeTwo 9 none, Cond.fieldLink RX0 48 "JoinBlocks$ScoredSet" "scores" "[J"]
def wsX0_rank : List Cond := .code yX0_rank cX0_rank 5 none :: ((wsX0_rank_r1 ++ wsX0_rank_r2) ++ wsX00 ++ wsX20)
def wsX1_init : List Cond := .code yX1_init cX1_init 2 none :: ([.methodLink RX1 3 objectInit, .instanceMethod objectInit, .code objectInit ⟨#[0xb1]⟩ 1 none, .arrayClass .int, .fieldLink RX1 9 "JoinBlocks$Row" "levels" "[I", .fieldLink RX1 15 "JoinBlocks$Row" "values" "[I", .fieldLink RX1 18 "JoinBlocks$Row" "tags" "[I", .fieldLink RX1 21 "JoinBlocks$Row" "links" "[I", .fieldLink RX1 24 "JoinBlocks$Row" "keys" "[I", .arrayClass .boolean, .fieldLink RX1 27 "JoinBlocks$Row" "living" "[Z", .fieldLink RX1 31 "JoinBlocks$Row" "size" "I"] ++ wsX10)
def wsX1_holds : List Cond := .code yX1_holds cX1_holds 2 (some .boolean) :: ([.fieldLink RX1 31 "JoinBlocks$Row" "size" "I"] ++ wsX10)
def wsX1_isRoot : List Cond := .code yX1_isRoot cX1_isRoot 2 (some .boolean) :: ([.fieldLink RX1 9 "JoinBlocks$Row" "levels" "[I"] ++ wsX10)
def wsX1_append : List Cond := .code yX1_append cX1_append 6 none :: ([.fieldLink RX1 9 "JoinBlocks$Row" "levels" "[I", .fieldLink RX1 31 "JoinBlocks$Row" "size" "I", .fieldLink RX1 15 "JoinBlocks$Row" "values" "[I", .fieldLink RX1 18 "JoinBlocks$Row" "tags" "[I", .fieldLink RX1 21 "JoinBlocks$Row" "links" "[I", .fieldLink RX1 24 "JoinBlocks$Row" "keys" "[I", .fieldLink RX1 27 "JoinBlocks$Row" "living" "[Z"] ++ wsX10)
def wsX1_appendFrom : List Cond := .code yX1_appendFrom cX1_appendFrom 3 none :: ([.fieldLink RX1 9 "JoinBlocks$Row" "levels" "[I", .fieldLink RX1 15 "JoinBlocks$Row" "values" "[I", .fieldLink RX1 18 "JoinBlocks$Row" "tags" "[I", .fieldLink RX1 21 "JoinBlocks$Row" "links" "[I", .fieldLink RX1 24 "JoinBlocks$Row" "keys" "[I", .methodLink RX1 35 yX1_append, .instanceMethod yX1_append, .selects RX1 yX1_append yX1_append, .initialized RX1, .code yX1_append cX1_append 6 none, .fieldLink RX1 31 "JoinBlocks$Row" "size" "I", .fieldLink RX1 27 "JoinBlocks$Row" "living" "[Z"] ++ wsX10)
def wsX1_appendAll : List Cond := .code yX1_appendAll cX1_appendAll 3 none :: ([.fieldLink RX1 31 "JoinBlocks$Row" "size" "I", .methodLink RX1 39 yX1_appendFrom, .instanceMethod yX1_appendFrom, .selects RX1 yX1_appendFrom yX1_appendFrom, .initialized RX1, .code yX1_appendFrom cX1_appendFrom 3 none, .fieldLink RX1 9 "JoinBlocks$Row" "levels" "[I", .fieldLink RX1 15 "JoinBlocks$Row" "values" "[I", .fieldLink RX1 18 "JoinBlocks$Row" "tags" "[I", .fieldLink RX1 21 "JoinBlocks$Row" "links" "[I", .fieldLink RX1 24 "JoinBlocks$Row" "keys" "[I", .methodLink RX1 35 yX1_append, .instanceMethod yX1_append, .selects RX1 yX1_append yX1_append, .code yX1_append cX1_append 6 none, .fieldLink RX1 27 "JoinBlocks$Row" "living" "[Z"] ++ wsX10)
def wsX1_keepLiving : List Cond := .code yX1_keepLiving cX1_keepLiving 3 none :: ([.fieldLink RX1 31 "JoinBlocks$Row" "size" "I", .fieldLink RX1 27 "JoinBlocks$Row" "living" "[Z", .methodLink RX1 39 yX1_appendFrom, .instanceMethod yX1_appendFrom, .selects RX1 yX1_appendFrom yX1_appendFrom, .initialized RX1, .code yX1_appendFrom cX1_appendFrom 3 none, .fieldLink RX1 9 "JoinBlocks$Row" "levels" "[I", .fieldLink RX1 15 "JoinBlocks$Row" "values" "[I", .fieldLink RX1 18 "JoinBlocks$Row" "tags" "[I", .fieldLink RX1 21 "JoinBlocks$Row" "links" "[I", .fieldLink RX1 24 "JoinBlocks$Row" "keys" "[I", .methodLink RX1 35 yX1_append, .instanceMethod yX1_append, .selects RX1 yX1_append yX1_append, .code yX1_append cX1_append 6 none] ++ wsX10)
def wsX1_livingRoot : List Cond := .code yX1_livingRoot cX1_livingRoot 3 (some .int) :: ([.fieldLink RX1 31 "JoinBlocks$Row" "size" "I", .fieldLink RX1 27 "JoinBlocks$Row" "living" "[Z", .fieldLink RX1 24 "JoinBlocks$Row" "keys" "[I", .methodLink RX1 43 yX1_isRoot, .instanceMethod yX1_isRoot, .selects RX1 yX1_isRoot yX1_isRoot, .initialized RX1, .code yX1_isRoot cX1_isRoot 2 (some .boolean), .fieldLink RX1 9 "JoinBlocks$Row" "levels" "[I"] ++ wsX10)
def wsX1_firstBelow : List Cond := .code yX1_firstBelow cX1_firstBelow 3 (some .int) :: ([.fieldLink RX1 9 "JoinBlocks$Row" "levels" "[I"] ++ wsX10)
def wsX1_killBlock : List Cond := .code yX1_killBlock cX1_killBlock 4 (some .int) :: ([.fieldLink RX1 27 "JoinBlocks$Row" "living" "[Z", .methodLink RX1 47 yX1_firstBelow, .instanceMethod yX1_firstBelow, .selects RX1 yX1_firstBelow yX1_firstBelow, .initialized RX1, .code yX1_firstBelow cX1_firstBelow 3 (some .int), .fieldLink RX1 9 "JoinBlocks$Row" "levels" "[I"] ++ wsX10)
def wsX1_countLiving : List Cond := .code yX1_countLiving cX1_countLiving 4 (some .int) :: ([.fieldLink RX1 31 "JoinBlocks$Row" "size" "I", .fieldLink RX1 27 "JoinBlocks$Row" "living" "[Z", .fieldLink RX1 9 "JoinBlocks$Row" "levels" "[I"] ++ wsX10)
def wsX1_parentOf : List Cond := .code yX1_parentOf cX1_parentOf 3 (some .int) :: ([.fieldLink RX1 31 "JoinBlocks$Row" "size" "I", .fieldLink RX1 9 "JoinBlocks$Row" "levels" "[I"] ++ wsX10)
def wsX2_init : List Cond := .code yX2_init cX2_init 1 none :: ([.methodLink RX2 3 objectInit, .instanceMethod objectInit, .code objectInit ⟨#[0xb1]⟩ 1 none, .arrayClass .boolean, .fieldLink RX2 9 "JoinBlocks$ScoredSet" "members" "[Z", .arrayClass .long, .fieldLink RX2 15 "JoinBlocks$ScoredSet" "scores" "[J", .fieldLink RX2 19 "JoinBlocks$ScoredSet" "size" "I"] ++ wsX20)
def wsX2_clear : List Cond := .code yX2_clear cX2_clear 2 none :: ([.fieldLink RX2 9 "JoinBlocks$ScoredSet" "members" "[Z", .fieldLink RX2 19 "JoinBlocks$ScoredSet" "size" "I"] ++ wsX20)
def wsX2_put : List Cond := .code yX2_put cX2_put 4 none :: ([.fieldLink RX2 9 "JoinBlocks$ScoredSet" "members" "[Z", .fieldLink RX2 19 "JoinBlocks$ScoredSet" "size" "I", .fieldLink RX2 15 "JoinBlocks$ScoredSet" "scores" "[J"] ++ wsX20)
def wsX2_add : List Cond := .code yX2_add cX2_add 4 none :: ([.fieldLink RX2 9 "JoinBlocks$ScoredSet" "members" "[Z", .fieldLink RX2 15 "JoinBlocks$ScoredSet" "scores" "[J", .methodLink RX2 23 yX2_put, .instanceMethod yX2_put, .selects RX2 yX2_put yX2_put, .initialized RX2, .code yX2_put cX2_put 4 none, .fieldLink RX2 19 "JoinBlocks$ScoredSet" "size" "I"] ++ wsX20)
def wsX2_remove : List Cond := .code yX2_remove cX2_remove 2 none :: ([.fieldLink RX2 9 "JoinBlocks$ScoredSet" "members" "[Z", .fieldLink RX2 19 "JoinBlocks$ScoredSet" "size" "I"] ++ wsX20)
def wsX2_addAll : List Cond := .code yX2_addAll cX2_addAll 3 none :: ([.fieldLink RX2 9 "JoinBlocks$ScoredSet" "members" "[Z", .fieldLink RX2 15 "JoinBlocks$ScoredSet" "scores" "[J", .methodLink RX2 27 yX2_add, .instanceMethod yX2_add, .selects RX2 yX2_add yX2_add, .initialized RX2, .code yX2_add cX2_add 4 none, .methodLink RX2 23 yX2_put, .instanceMethod yX2_put, .selects RX2 yX2_put yX2_put, .code yX2_put cX2_put 4 none, .fieldLink RX2 19 "JoinBlocks$ScoredSet" "size" "I"] ++ wsX20)
def wsX2_removeAll : List Cond := .code yX2_removeAll cX2_removeAll 3 none :: ([.fieldLink RX2 9 "JoinBlocks$ScoredSet" "members" "[Z", .methodLink RX2 30 yX2_remove, .instanceMethod yX2_remove, .selects RX2 yX2_remove yX2_remove, .initialized RX2, .code yX2_remove cX2_remove 2 none, .fieldLink RX2 19 "JoinBlocks$ScoredSet" "size" "I"] ++ wsX20)
def wsX2_keepCommon : List Cond := .code yX2_keepCommon cX2_keepCommon 3 none :: ([.fieldLink RX2 9 "JoinBlocks$ScoredSet" "members" "[Z", .fieldLink RX2 15 "JoinBlocks$ScoredSet" "scores" "[J", .methodLink RX2 30 yX2_remove, .instanceMethod yX2_remove, .selects RX2 yX2_remove yX2_remove, .initialized RX2, .code yX2_remove cX2_remove 2 none, .fieldLink RX2 19 "JoinBlocks$ScoredSet" "size" "I", .methodLink RX2 27 yX2_add, .instanceMethod yX2_add, .selects RX2 yX2_add yX2_add, .code yX2_add cX2_add 4 none, .methodLink RX2 23 yX2_put, .instanceMethod yX2_put, .selects RX2 yX2_put yX2_put, .code yX2_put cX2_put 4 none] ++ wsX20)
def wsX2_moveTo : List Cond := .code yX2_moveTo cX2_moveTo 2 none :: ([.methodLink RX2 34 yX2_clear, .instanceMethod yX2_clear, .selects RX2 yX2_clear yX2_clear, .initialized RX2, .code yX2_clear cX2_clear 2 none, .fieldLink RX2 9 "JoinBlocks$ScoredSet" "members" "[Z", .fieldLink RX2 19 "JoinBlocks$ScoredSet" "size" "I", .methodLink RX2 37 yX2_addAll, .instanceMethod yX2_addAll, .selects RX2 yX2_addAll yX2_addAll, .code yX2_addAll cX2_addAll 3 none, .fieldLink RX2 15 "JoinBlocks$ScoredSet" "scores" "[J", .methodLink RX2 27 yX2_add, .instanceMethod yX2_add, .selects RX2 yX2_add yX2_add, .code yX2_add cX2_add 4 none, .methodLink RX2 23 yX2_put, .instanceMethod yX2_put, .selects RX2 yX2_put yX2_put, .code yX2_put cX2_put 4 none] ++ wsX20)
def wsX3_init_r1 : List Cond := [Cond.methodLink RX3 3 objectInit, Cond.instanceMethod objectInit, Cond.code objectInit ⟨#[0xb1]⟩ 1 none, Cond.classLink RX3 9 RX1, Cond.instantiable RX1 7, Cond.initialized RX1, Cond.fieldLink RX3 16 "JoinBlocks" "open" "LJoinBlocks$Row;", Cond.fieldLink RX3 20 "JoinBlocks" "row" "LJoinBlocks$Row;", Cond.classLink RX3 23 RX2, Cond.fieldLink RX3 25 "JoinBlocks" "stack" "[LJoinBlocks$ScoredSet;", Cond.instantiable RX2 3, Cond.initialized RX2, Cond.fieldLink RX3 30 "JoinBlocks" "taken" "LJoinBlocks$ScoredSet;", Cond.fieldLink RX3 34 "JoinBlocks" "kin" "LJoinBlocks$ScoredSet;", Cond.classLink RX3 37 RX0, Cond.instantiable RX0 3, Cond.initialized RX0, Cond.fieldLink RX3 40 "JoinBlocks" "ranking" "LJoinBlocks$Ranking;", Cond.fieldLink RX3 44 "JoinBlocks" "depth" "I", Cond.fieldLink RX3 48 "JoinBlocks" "wentUp" "Z", Cond.methodLink RX3 13 yX1_init, Cond.instanceMethod yX1_init, Cond.code yX1_init cX1_init 2 none, Cond.methodLink RX1 3 objectInit]
def wsX3_init_r2 : List Cond := [Cond.arrayClass .int, Cond.fieldLink RX1 9 "JoinBlocks$Row" "levels" "[I", Cond.fieldLink RX1 15 "JoinBlocks$Row" "values" "[I", Cond.fieldLink RX1 18 "JoinBlocks$Row" "tags" "[I", Cond.fieldLink RX1 21 "JoinBlocks$Row" "links" "[I", Cond.fieldLink RX1 24 "JoinBlocks$Row" "keys" "[I", Cond.arrayClass .boolean, Cond.fieldLink RX1 27 "JoinBlocks$Row" "living" "[Z", Cond.fieldLink RX1 31 "JoinBlocks$Row" "size" "I", Cond.methodLink RX3 29 yX2_init, Cond.instanceMethod yX2_init, Cond.code yX2_init cX2_init 1 none, Cond.methodLink RX2 3 objectInit, Cond.fieldLink RX2 9 "JoinBlocks$ScoredSet" "members" "[Z", Cond.arrayClass .long, Cond.fieldLink RX2 15 "JoinBlocks$ScoredSet" "scores" "[J", Cond.fieldLink RX2 19 "JoinBlocks$ScoredSet" "size" "I", Cond.methodLink RX3 39 yX0_init, Cond.instanceMethod yX0_init, Cond.code yX0_init cX0_init 1 none, Cond.methodLink RX0 3 objectInit, Cond.fieldLink RX0 9 "JoinBlocks$Ranking" "numbers" "[I", Cond.fieldLink RX0 15 "JoinBlocks$Ranking" "merged" "[I", Cond.fieldLink RX0 18 "JoinBlocks$Ranking" "size" "I"]
def wsX3_init : List Cond := .code yX3_init cX3_init 2 none :: ((wsX3_init_r1 ++ wsX3_init_r2) ++ wsX10 ++ wsX30 ++ wsX20 ++ wsX00)
def wsX3_isWithin : List Cond := .code yX3_isWithin cX3_isWithin 3 (some .boolean) :: ([])
def wsX3_isValue : List Cond := .code yX3_isValue cX3_isValue 1 (some .boolean) :: ([.methodLink RX3 52 yX3_isWithin, .static yX3_isWithin, .initialized RX3, .code yX3_isWithin cX3_isWithin 3 (some .boolean)])
def wsX3_areTold : List Cond := .code yX3_areTold cX3_areTold 3 (some .boolean) :: ([.methodLink RX3 190 yX3_isValue, .static yX3_isValue, .initialized RX3, .code yX3_isValue cX3_isValue 1 (some .boolean), .methodLink RX3 52 yX3_isWithin, .static yX3_isWithin, .code yX3_isWithin cX3_isWithin 3 (some .boolean)])
def wsX3_child : List Cond := .code yX3_child cX3_child 5 (some .int) :: ([.fieldLink RX3 16 "JoinBlocks" "open" "LJoinBlocks$Row;", .fieldLink RX3 59 "JoinBlocks$Row" "size" "I", .methodLink RX3 52 yX3_isWithin, .static yX3_isWithin, .initialized RX3, .code yX3_isWithin cX3_isWithin 3 (some .boolean), .methodLink RX3 56 yX3_areTold, .static yX3_areTold, .code yX3_areTold cX3_areTold 3 (some .boolean), .methodLink RX3 190 yX3_isValue, .static yX3_isValue, .code yX3_isValue cX3_isValue 1 (some .boolean), .methodLink RX3 62 yX1_append, .instanceMethod yX1_append, .selects RX1 yX1_append yX1_append, .initialized RX1, .code yX1_append cX1_append 6 none, .fieldLink RX1 9 "JoinBlocks$Row" "levels" "[I", .fieldLink RX1 31 "JoinBlocks$Row" "size" "I", .fieldLink RX1 15 "JoinBlocks$Row" "values" "[I", .fieldLink RX1 18 "JoinBlocks$Row" "tags" "[I", .fieldLink RX1 21 "JoinBlocks$Row" "links" "[I", .fieldLink RX1 24 "JoinBlocks$Row" "keys" "[I", .fieldLink RX1 27 "JoinBlocks$Row" "living" "[Z"] ++ wsX30 ++ wsX10)
def wsX3_isKey : List Cond := .code yX3_isKey cX3_isKey 1 (some .boolean) :: ([.methodLink RX3 52 yX3_isWithin, .static yX3_isWithin, .initialized RX3, .code yX3_isWithin cX3_isWithin 3 (some .boolean)])
def wsX3_forgetSets : List Cond := .code yX3_forgetSets cX3_forgetSets 1 none :: ([.fieldLink RX3 44 "JoinBlocks" "depth" "I", .fieldLink RX3 48 "JoinBlocks" "wentUp" "Z"] ++ wsX30)
def wsX3_close_r1 : List Cond := [Cond.fieldLink RX3 20 "JoinBlocks" "row" "LJoinBlocks$Row;", Cond.fieldLink RX3 59 "JoinBlocks$Row" "size" "I", Cond.fieldLink RX3 16 "JoinBlocks" "open" "LJoinBlocks$Row;", Cond.methodLink RX3 66 yX3_isKey, Cond.static yX3_isKey, Cond.initialized RX3, Cond.code yX3_isKey cX3_isKey 1 (some .boolean), Cond.methodLink RX3 52 yX3_isWithin, Cond.static yX3_isWithin, Cond.code yX3_isWithin cX3_isWithin 3 (some .boolean), Cond.methodLink RX3 56 yX3_areTold, Cond.static yX3_areTold, Cond.code yX3_areTold cX3_areTold 3 (some .boolean), Cond.methodLink RX3 190 yX3_isValue, Cond.static yX3_isValue, Cond.code yX3_isValue cX3_isValue 1 (some .boolean), Cond.methodLink RX3 70 yX1_livingRoot, Cond.instanceMethod yX1_livingRoot, Cond.selects RX1 yX1_livingRoot yX1_livingRoot, Cond.initialized RX1, Cond.code yX1_livingRoot cX1_livingRoot 3 (some .int), Cond.fieldLink RX1 31 "JoinBlocks$Row" "size" "I", Cond.fieldLink RX1 27 "JoinBlocks$Row" "living" "[Z", Cond.fieldLink RX1 24 "JoinBlocks$Row" "keys" "[I"]
def wsX3_close_r2 : List Cond := [Cond.methodLink RX1 43 yX1_isRoot, Cond.instanceMethod yX1_isRoot, Cond.selects RX1 yX1_isRoot yX1_isRoot, Cond.code yX1_isRoot cX1_isRoot 2 (some .boolean), Cond.fieldLink RX1 9 "JoinBlocks$Row" "levels" "[I", Cond.methodLink RX3 74 yX1_killBlock, Cond.instanceMethod yX1_killBlock, Cond.selects RX1 yX1_killBlock yX1_killBlock, Cond.code yX1_killBlock cX1_killBlock 4 (some .int), Cond.methodLink RX1 47 yX1_firstBelow, Cond.instanceMethod yX1_firstBelow, Cond.selects RX1 yX1_firstBelow yX1_firstBelow, Cond.code yX1_firstBelow cX1_firstBelow 3 (some .int), Cond.methodLink RX3 77 yX3_forgetSets, Cond.instanceMethod yX3_forgetSets, Cond.selects RX3 yX3_forgetSets yX3_forgetSets, Cond.code yX3_forgetSets cX3_forgetSets 1 none, Cond.fieldLink RX3 44 "JoinBlocks" "depth" "I", Cond.fieldLink RX3 48 "JoinBlocks" "wentUp" "Z", Cond.methodLink RX3 80 yX1_appendAll, Cond.instanceMethod yX1_appendAll, Cond.selects RX1 yX1_appendAll yX1_appendAll, Cond.code yX1_appendAll cX1_appendAll 3 none, Cond.methodLink RX1 39 yX1_appendFrom]
def wsX3_close_r3 : List Cond := [Cond.instanceMethod yX1_appendFrom, Cond.selects RX1 yX1_appendFrom yX1_appendFrom, Cond.code yX1_appendFrom cX1_appendFrom 3 none, Cond.fieldLink RX1 15 "JoinBlocks$Row" "values" "[I", Cond.fieldLink RX1 18 "JoinBlocks$Row" "tags" "[I", Cond.fieldLink RX1 21 "JoinBlocks$Row" "links" "[I", Cond.methodLink RX1 35 yX1_append, Cond.instanceMethod yX1_append, Cond.selects RX1 yX1_append yX1_append, Cond.code yX1_append cX1_append 6 none, Cond.methodLink RX3 62 yX1_append]
def wsX3_close : List Cond := .code yX3_close cX3_close 6 (some .int) :: ((wsX3_close_r1 ++ (wsX3_close_r2 ++ wsX3_close_r3)) ++ wsX30 ++ wsX10)
def wsX3_drop : List Cond := .code yX3_drop cX3_drop 2 (some .int) :: ([.fieldLink RX3 16 "JoinBlocks" "open" "LJoinBlocks$Row;", .fieldLink RX3 59 "JoinBlocks$Row" "size" "I"] ++ wsX30 ++ wsX10)
def wsX3_kill_r1 : List Cond := [Cond.fieldLink RX3 20 "JoinBlocks" "row" "LJoinBlocks$Row;", Cond.methodLink RX3 70 yX1_livingRoot, Cond.instanceMethod yX1_livingRoot, Cond.selects RX1 yX1_livingRoot yX1_livingRoot, Cond.initialized RX1, Cond.code yX1_livingRoot cX1_livingRoot 3 (some .int), Cond.fieldLink RX1 31 "JoinBlocks$Row" "size" "I", Cond.fieldLink RX1 27 "JoinBlocks$Row" "living" "[Z", Cond.fieldLink RX1 24 "JoinBlocks$Row" "keys" "[I", Cond.methodLink RX1 43 yX1_isRoot, Cond.instanceMethod yX1_isRoot, Cond.selects RX1 yX1_isRoot yX1_isRoot, Cond.code yX1_isRoot cX1_isRoot 2 (some .boolean), Cond.fieldLink RX1 9 "JoinBlocks$Row" "levels" "[I", Cond.methodLink RX3 77 yX3_forgetSets, Cond.instanceMethod yX3_forgetSets, Cond.selects RX3 yX3_forgetSets yX3_forgetSets, Cond.initialized RX3, Cond.code yX3_forgetSets cX3_forgetSets 1 none, Cond.fieldLink RX3 44 "JoinBlocks" "depth" "I", Cond.fieldLink RX3 48 "JoinBlocks" "wentUp" "Z", Cond.methodLink RX3 74 yX1_killBlock, Cond.instanceMethod yX1_killBlock, Cond.selects RX1 yX1_killBlock yX1_killBlock]
def wsX3_kill_r2 : List Cond := [Cond.code yX1_killBlock cX1_killBlock 4 (some .int), Cond.methodLink RX1 47 yX1_firstBelow, Cond.instanceMethod yX1_firstBelow, Cond.selects RX1 yX1_firstBelow yX1_firstBelow, Cond.code yX1_firstBelow cX1_firstBelow 3 (some .int)]
def wsX3_kill : List Cond := .code yX3_kill cX3_kill 3 (some .int) :: ((wsX3_kill_r1 ++ wsX3_kill_r2) ++ wsX30 ++ wsX10)
def wsX3_merge_r1 : List Cond := [Cond.fieldLink RX3 20 "JoinBlocks" "row" "LJoinBlocks$Row;", Cond.fieldLink RX3 59 "JoinBlocks$Row" "size" "I", Cond.methodLink RX3 84 yX1_keepLiving, Cond.instanceMethod yX1_keepLiving, Cond.selects RX1 yX1_keepLiving yX1_keepLiving, Cond.initialized RX1, Cond.code yX1_keepLiving cX1_keepLiving 3 none, Cond.fieldLink RX1 31 "JoinBlocks$Row" "size" "I", Cond.fieldLink RX1 27 "JoinBlocks$Row" "living" "[Z", Cond.methodLink RX1 39 yX1_appendFrom, Cond.instanceMethod yX1_appendFrom, Cond.selects RX1 yX1_appendFrom yX1_appendFrom, Cond.code yX1_appendFrom cX1_appendFrom 3 none, Cond.fieldLink RX1 9 "JoinBlocks$Row" "levels" "[I", Cond.fieldLink RX1 15 "JoinBlocks$Row" "values" "[I", Cond.fieldLink RX1 18 "JoinBlocks$Row" "tags" "[I", Cond.fieldLink RX1 21 "JoinBlocks$Row" "links" "[I", Cond.fieldLink RX1 24 "JoinBlocks$Row" "keys" "[I", Cond.methodLink RX1 35 yX1_append, Cond.instanceMethod yX1_append, Cond.selects RX1 yX1_append yX1_append, Cond.code yX1_append cX1_append 6 none, Cond.methodLink RX3 77 yX3_forgetSets, Cond.instanceMethod yX3_forgetSets]
def wsX3_merge_r2 : List Cond := [Cond.selects RX3 yX3_forgetSets yX3_forgetSets, Cond.initialized RX3, Cond.code yX3_forgetSets cX3_forgetSets 1 none, Cond.fieldLink RX3 44 "JoinBlocks" "depth" "I", Cond.fieldLink RX3 48 "JoinBlocks" "wentUp" "Z"]
def wsX3_merge : List Cond := .code yX3_merge cX3_merge 1 (some .int) :: ((wsX3_merge_r1 ++ wsX3_merge_r2) ++ wsX30 ++ wsX10)
def wsX3_object_r1 : List Cond := [Cond.fieldLink RX3 20 "JoinBlocks" "row" "LJoinBlocks$Row;", Cond.fieldLink RX3 90 "JoinBlocks$Row" "levels" "[I", Cond.fieldLink RX3 94 "JoinBlocks$Row" "values" "[I", Cond.fieldLink RX3 97 "JoinBlocks$Row" "tags" "[I", Cond.fieldLink RX3 100 "JoinBlocks$Row" "links" "[I", Cond.fieldLink RX3 106 "JoinBlocks$Row" "keys" "[I", Cond.fieldLink RX3 112 "JoinBlocks$Row" "living" "[Z", Cond.methodLink RX3 87 yX1_holds, Cond.instanceMethod yX1_holds, Cond.selects RX1 yX1_holds yX1_holds, Cond.initialized RX1, Cond.code yX1_holds cX1_holds 2 (some .boolean), Cond.fieldLink RX1 31 "JoinBlocks$Row" "size" "I", Cond.methodLink RX3 103 yX1_isRoot, Cond.instanceMethod yX1_isRoot, Cond.selects RX1 yX1_isRoot yX1_isRoot, Cond.code yX1_isRoot cX1_isRoot 2 (some .boolean), Cond.fieldLink RX1 9 "JoinBlocks$Row" "levels" "[I", Cond.methodLink RX3 109 yX1_parentOf, Cond.instanceMethod yX1_parentOf, Cond.selects RX1 yX1_parentOf yX1_parentOf, Cond.code yX1_parentOf cX1_parentOf 3 (some .int), Cond.methodLink RX3 116 yX1_firstBelow, Cond.instanceMethod yX1_firstBelow]
def wsX3_object_r2 : List Cond := [Cond.selects RX1 yX1_firstBelow yX1_firstBelow, Cond.code yX1_firstBelow cX1_firstBelow 3 (some .int)]
def wsX3_object : List Cond := .code yX3_object cX3_object 3 (some .int) :: ((wsX3_object_r1 ++ wsX3_object_r2) ++ wsX30 ++ wsX10)
def wsX3_count : List Cond := .code yX3_count cX3_count 2 (some .int) :: ([.fieldLink RX3 20 "JoinBlocks" "row" "LJoinBlocks$Row;", .fieldLink RX3 59 "JoinBlocks$Row" "size" "I", .fieldLink RX3 16 "JoinBlocks" "open" "LJoinBlocks$Row;", .fieldLink RX3 44 "JoinBlocks" "depth" "I", .methodLink RX3 119 yX1_countLiving, .instanceMethod yX1_countLiving, .selects RX1 yX1_countLiving yX1_countLiving, .initialized RX1, .code yX1_countLiving cX1_countLiving 4 (some .int), .fieldLink RX1 31 "JoinBlocks$Row" "size" "I", .fieldLink RX1 27 "JoinBlocks$Row" "living" "[Z", .fieldLink RX1 9 "JoinBlocks$Row" "levels" "[I"] ++ wsX30 ++ wsX10)
def wsX3_root : List Cond := .code yX3_root cX3_root 3 (some .int) :: ([.fieldLink RX3 20 "JoinBlocks" "row" "LJoinBlocks$Row;", .methodLink RX3 70 yX1_livingRoot, .instanceMethod yX1_livingRoot, .selects RX1 yX1_livingRoot yX1_livingRoot, .initialized RX1, .code yX1_livingRoot cX1_livingRoot 3 (some .int), .fieldLink RX1 31 "JoinBlocks$Row" "size" "I", .fieldLink RX1 27 "JoinBlocks$Row" "living" "[Z", .fieldLink RX1 24 "JoinBlocks$Row" "keys" "[I", .methodLink RX1 43 yX1_isRoot, .instanceMethod yX1_isRoot, .selects RX1 yX1_isRoot yX1_isRoot, .code yX1_isRoot cX1_isRoot 2 (some .boolean), .fieldLink RX1 9 "JoinBlocks$Row" "levels" "[I"] ++ wsX30 ++ wsX10)
def wsX3_canBeFound : List Cond := .code yX3_canBeFound cX3_canBeFound 3 (some .boolean) :: ([.methodLink RX3 52 yX3_isWithin, .static yX3_isWithin, .initialized RX3, .code yX3_isWithin cX3_isWithin 3 (some .boolean), .methodLink RX3 190 yX3_isValue, .static yX3_isValue, .code yX3_isValue cX3_isValue 1 (some .boolean), .methodLink RX3 66 yX3_isKey, .static yX3_isKey, .code yX3_isKey cX3_isKey 1 (some .boolean)])
def wsX3_isFound : List Cond := .code yX3_isFound cX3_isFound 5 (some .boolean) :: ([.fieldLink RX3 20 "JoinBlocks" "row" "LJoinBlocks$Row;", .fieldLink RX3 97 "JoinBlocks$Row" "tags" "[I", .fieldLink RX3 94 "JoinBlocks$Row" "values" "[I", .fieldLink RX3 90 "JoinBlocks$Row" "levels" "[I", .fieldLink RX3 106 "JoinBlocks$Row" "keys" "[I", .fieldLink RX3 100 "JoinBlocks$Row" "links" "[I", .methodLink RX3 52 yX3_isWithin, .static yX3_isWithin, .initialized RX3, .code yX3_isWithin cX3_isWithin 3 (some .boolean), .methodLink RX3 103 yX1_isRoot, .instanceMethod yX1_isRoot, .selects RX1 yX1_isRoot yX1_isRoot, .initialized RX1, .code yX1_isRoot cX1_isRoot 2 (some .boolean), .fieldLink RX1 9 "JoinBlocks$Row" "levels" "[I"] ++ wsX30 ++ wsX10)
def wsJ6_bitCount_0f7a4 : List Cond := .code yJ6_bitCount_0f7a4 cJ6_bitCount_0f7a4 1 (some .int) :: ([.constant RJ6 265 (1431655765), .constant RJ6 266 (858993459), .constant RJ6 267 (252645135)])
def wsX3_scoreFound : List Cond := .code yX3_scoreFound cX3_scoreFound 4 (some .long) :: ([.fieldLink RX3 20 "JoinBlocks" "row" "LJoinBlocks$Row;", .fieldLink RX3 94 "JoinBlocks$Row" "values" "[I", .methodLink RX3 193 yJ6_bitCount_0f7a4, .static yJ6_bitCount_0f7a4, .initialized RJ6, .code yJ6_bitCount_0f7a4 cJ6_bitCount_0f7a4 1 (some .int), .constant RJ6 265 (1431655765), .constant RJ6 266 (858993459), .constant RJ6 267 (252645135)] ++ wsX30 ++ wsX10)
def wsX3_find_r1 : List Cond := [Cond.fieldLink RX3 44 "JoinBlocks" "depth" "I", Cond.fieldLink RX3 25 "JoinBlocks" "stack" "[LJoinBlocks$ScoredSet;", Cond.fieldLink RX3 20 "JoinBlocks" "row" "LJoinBlocks$Row;", Cond.fieldLink RX3 59 "JoinBlocks$Row" "size" "I", Cond.fieldLink RX3 112 "JoinBlocks$Row" "living" "[Z", Cond.fieldLink RX3 140 "JoinBlocks$ScoredSet" "size" "I", Cond.methodLink RX3 122 yX3_canBeFound, Cond.static yX3_canBeFound, Cond.initialized RX3, Cond.code yX3_canBeFound cX3_canBeFound 3 (some .boolean), Cond.methodLink RX3 52 yX3_isWithin, Cond.static yX3_isWithin, Cond.code yX3_isWithin cX3_isWithin 3 (some .boolean), Cond.methodLink RX3 190 yX3_isValue, Cond.static yX3_isValue, Cond.code yX3_isValue cX3_isValue 1 (some .boolean), Cond.methodLink RX3 66 yX3_isKey, Cond.static yX3_isKey, Cond.code yX3_isKey cX3_isKey 1 (some .boolean), Cond.methodLink RX3 125 yX2_clear, Cond.instanceMethod yX2_clear, Cond.selects RX2 yX2_clear yX2_clear, Cond.initialized RX2, Cond.code yX2_clear cX2_clear 2 none]
def wsX3_find_r2 : List Cond := [Cond.fieldLink RX2 9 "JoinBlocks$ScoredSet" "members" "[Z", Cond.fieldLink RX2 19 "JoinBlocks$ScoredSet" "size" "I", Cond.methodLink RX3 128 yX3_isFound, Cond.instanceMethod yX3_isFound, Cond.selects RX3 yX3_isFound yX3_isFound, Cond.code yX3_isFound cX3_isFound 5 (some .boolean), Cond.fieldLink RX3 97 "JoinBlocks$Row" "tags" "[I", Cond.fieldLink RX3 94 "JoinBlocks$Row" "values" "[I", Cond.fieldLink RX3 90 "JoinBlocks$Row" "levels" "[I", Cond.fieldLink RX3 106 "JoinBlocks$Row" "keys" "[I", Cond.fieldLink RX3 100 "JoinBlocks$Row" "links" "[I", Cond.methodLink RX3 103 yX1_isRoot, Cond.instanceMethod yX1_isRoot, Cond.selects RX1 yX1_isRoot yX1_isRoot, Cond.initialized RX1, Cond.code yX1_isRoot cX1_isRoot 2 (some .boolean), Cond.fieldLink RX1 9 "JoinBlocks$Row" "levels" "[I", Cond.methodLink RX3 132 yX3_scoreFound, Cond.instanceMethod yX3_scoreFound, Cond.selects RX3 yX3_scoreFound yX3_scoreFound, Cond.code yX3_scoreFound cX3_scoreFound 4 (some .long), Cond.methodLink RX3 193 yJ6_bitCount_0f7a4, Cond.static yJ6_bitCount_0f7a4, Cond.initialized RJ6]
def wsX3_find_r3 : List Cond := [Cond.code yJ6_bitCount_0f7a4 cJ6_bitCount_0f7a4 1 (some .int), Cond.constant RJ6 265 (1431655765), Cond.constant RJ6 266 (858993459), Cond.constant RJ6 267 (252645135), Cond.methodLink RX3 136 yX2_put, Cond.instanceMethod yX2_put, Cond.selects RX2 yX2_put yX2_put, Cond.code yX2_put cX2_put 4 none, Cond.fieldLink RX2 15 "JoinBlocks$ScoredSet" "scores" "[J"]
def wsX3_find : List Cond := .code yX3_find cX3_find 6 (some .int) :: ((wsX3_find_r1 ++ (wsX3_find_r2 ++ wsX3_find_r3)) ++ wsX30 ++ wsX10 ++ wsX20)
def wsX3_join_r1 : List Cond := [Cond.fieldLink RX3 44 "JoinBlocks" "depth" "I", Cond.fieldLink RX3 25 "JoinBlocks" "stack" "[LJoinBlocks$ScoredSet;", Cond.fieldLink RX3 140 "JoinBlocks$ScoredSet" "size" "I", Cond.methodLink RX3 52 yX3_isWithin, Cond.static yX3_isWithin, Cond.initialized RX3, Cond.code yX3_isWithin cX3_isWithin 3 (some .boolean), Cond.methodLink RX3 141 yX2_keepCommon, Cond.instanceMethod yX2_keepCommon, Cond.selects RX2 yX2_keepCommon yX2_keepCommon, Cond.initialized RX2, Cond.code yX2_keepCommon cX2_keepCommon 3 none, Cond.fieldLink RX2 9 "JoinBlocks$ScoredSet" "members" "[Z", Cond.fieldLink RX2 15 "JoinBlocks$ScoredSet" "scores" "[J", Cond.methodLink RX2 30 yX2_remove, Cond.instanceMethod yX2_remove, Cond.selects RX2 yX2_remove yX2_remove, Cond.code yX2_remove cX2_remove 2 none, Cond.fieldLink RX2 19 "JoinBlocks$ScoredSet" "size" "I", Cond.methodLink RX2 27 yX2_add, Cond.instanceMethod yX2_add, Cond.selects RX2 yX2_add yX2_add, Cond.code yX2_add cX2_add 4 none, Cond.methodLink RX2 23 yX2_put]
def wsX3_join_r2 : List Cond := [Cond.instanceMethod yX2_put, Cond.selects RX2 yX2_put yX2_put, Cond.code yX2_put cX2_put 4 none, Cond.methodLink RX3 145 yX2_addAll, Cond.instanceMethod yX2_addAll, Cond.selects RX2 yX2_addAll yX2_addAll, Cond.code yX2_addAll cX2_addAll 3 none, Cond.methodLink RX3 148 yX2_removeAll, Cond.instanceMethod yX2_removeAll, Cond.selects RX2 yX2_removeAll yX2_removeAll, Cond.code yX2_removeAll cX2_removeAll 3 none]
def wsX3_join : List Cond := .code yX3_join cX3_join 4 (some .int) :: ((wsX3_join_r1 ++ wsX3_join_r2) ++ wsX30 ++ wsX20)
def wsX3_combine : List Cond := .code yX3_combine cX3_combine 5 (some .long) :: ([.methodLink RX3 202 Lib.MathLoose.max_long.x, .static Lib.MathLoose.max_long.x, .initialized "java/lang/Math", .code Lib.MathLoose.max_long.x Lib.MathLoose.max_long.code 4 (some .long), .methodLink RX3 208 Lib.MathLoose.min_long.x, .static Lib.MathLoose.min_long.x, .code Lib.MathLoose.min_long.x Lib.MathLoose.min_long.code 4 (some .long)])
def wsX3_gatherBelow_r1 : List Cond := [Cond.fieldLink RX3 20 "JoinBlocks" "row" "LJoinBlocks$Row;", Cond.fieldLink RX3 34 "JoinBlocks" "kin" "LJoinBlocks$ScoredSet;", Cond.fieldLink RX3 177 "JoinBlocks$ScoredSet" "scores" "[J", Cond.methodLink RX3 116 yX1_firstBelow, Cond.instanceMethod yX1_firstBelow, Cond.selects RX1 yX1_firstBelow yX1_firstBelow, Cond.initialized RX1, Cond.code yX1_firstBelow cX1_firstBelow 3 (some .int), Cond.fieldLink RX1 9 "JoinBlocks$Row" "levels" "[I", Cond.methodLink RX3 158 yX2_has, Cond.instanceMethod yX2_has, Cond.selects RX2 yX2_has yX2_has, Cond.initialized RX2, Cond.code yX2_has cX2_has 2 (some .boolean), Cond.fieldLink RX2 9 "JoinBlocks$ScoredSet" "members" "[Z", Cond.methodLink RX3 198 yX3_combine, Cond.static yX3_combine, Cond.initialized RX3, Cond.code yX3_combine cX3_combine 5 (some .long), Cond.methodLink RX3 202 Lib.MathLoose.max_long.x, Cond.static Lib.MathLoose.max_long.x, Cond.initialized "java/lang/Math", Cond.code Lib.MathLoose.max_long.x Lib.MathLoose.max_long.code 4 (some .long), Cond.methodLink RX3 208 Lib.MathLoose.min_long.x]
def wsX3_gatherBelow_r2 : List Cond := [Cond.static Lib.MathLoose.min_long.x, Cond.code Lib.MathLoose.min_long.x Lib.MathLoose.min_long.code 4 (some .long), Cond.methodLink RX3 136 yX2_put, Cond.instanceMethod yX2_put, Cond.selects RX2 yX2_put yX2_put, Cond.code yX2_put cX2_put 4 none, Cond.fieldLink RX2 19 "JoinBlocks$ScoredSet" "size" "I", Cond.fieldLink RX2 15 "JoinBlocks$ScoredSet" "scores" "[J"]
def wsX3_gatherBelow : List Cond := .code yX3_gatherBelow cX3_gatherBelow 10 none :: ((wsX3_gatherBelow_r1 ++ wsX3_gatherBelow_r2) ++ wsX30 ++ wsX20 ++ wsX10)
def wsX3_up_r1 : List Cond := [Cond.fieldLink RX3 44 "JoinBlocks" "depth" "I", Cond.fieldLink RX3 25 "JoinBlocks" "stack" "[LJoinBlocks$ScoredSet;", Cond.fieldLink RX3 34 "JoinBlocks" "kin" "LJoinBlocks$ScoredSet;", Cond.fieldLink RX3 48 "JoinBlocks" "wentUp" "Z", Cond.fieldLink RX3 20 "JoinBlocks" "row" "LJoinBlocks$Row;", Cond.fieldLink RX3 59 "JoinBlocks$Row" "size" "I", Cond.fieldLink RX3 90 "JoinBlocks$Row" "levels" "[I", Cond.fieldLink RX3 140 "JoinBlocks$ScoredSet" "size" "I", Cond.methodLink RX3 52 yX3_isWithin, Cond.static yX3_isWithin, Cond.initialized RX3, Cond.code yX3_isWithin cX3_isWithin 3 (some .boolean), Cond.methodLink RX3 151 yX2_moveTo, Cond.instanceMethod yX2_moveTo, Cond.selects RX2 yX2_moveTo yX2_moveTo, Cond.initialized RX2, Cond.code yX2_moveTo cX2_moveTo 2 none, Cond.methodLink RX2 34 yX2_clear, Cond.instanceMethod yX2_clear, Cond.selects RX2 yX2_clear yX2_clear, Cond.code yX2_clear cX2_clear 2 none, Cond.fieldLink RX2 9 "JoinBlocks$ScoredSet" "members" "[Z", Cond.fieldLink RX2 19 "JoinBlocks$ScoredSet" "size" "I", Cond.methodLink RX2 37 yX2_addAll]
def wsX3_up_r2 : List Cond := [Cond.instanceMethod yX2_addAll, Cond.selects RX2 yX2_addAll yX2_addAll, Cond.code yX2_addAll cX2_addAll 3 none, Cond.fieldLink RX2 15 "JoinBlocks$ScoredSet" "scores" "[J", Cond.methodLink RX2 27 yX2_add, Cond.instanceMethod yX2_add, Cond.selects RX2 yX2_add yX2_add, Cond.code yX2_add cX2_add 4 none, Cond.methodLink RX2 23 yX2_put, Cond.instanceMethod yX2_put, Cond.selects RX2 yX2_put yX2_put, Cond.code yX2_put cX2_put 4 none, Cond.methodLink RX3 154 yX3_gatherBelow, Cond.instanceMethod yX3_gatherBelow, Cond.selects RX3 yX3_gatherBelow yX3_gatherBelow, Cond.code yX3_gatherBelow cX3_gatherBelow 10 none, Cond.fieldLink RX3 177 "JoinBlocks$ScoredSet" "scores" "[J", Cond.methodLink RX3 116 yX1_firstBelow, Cond.instanceMethod yX1_firstBelow, Cond.selects RX1 yX1_firstBelow yX1_firstBelow, Cond.initialized RX1, Cond.code yX1_firstBelow cX1_firstBelow 3 (some .int), Cond.fieldLink RX1 9 "JoinBlocks$Row" "levels" "[I", Cond.methodLink RX3 158 yX2_has]
def wsX3_up_r3 : List Cond := [Cond.instanceMethod yX2_has, Cond.selects RX2 yX2_has yX2_has, Cond.code yX2_has cX2_has 2 (some .boolean), Cond.methodLink RX3 198 yX3_combine, Cond.static yX3_combine, Cond.code yX3_combine cX3_combine 5 (some .long), Cond.methodLink RX3 202 Lib.MathLoose.max_long.x, Cond.static Lib.MathLoose.max_long.x, Cond.initialized "java/lang/Math", Cond.code Lib.MathLoose.max_long.x Lib.MathLoose.max_long.code 4 (some .long), Cond.methodLink RX3 208 Lib.MathLoose.min_long.x, Cond.static Lib.MathLoose.min_long.x, Cond.code Lib.MathLoose.min_long.x Lib.MathLoose.min_long.code 4 (some .long), Cond.methodLink RX3 136 yX2_put]
def wsX3_up : List Cond := .code yX3_up cX3_up 5 (some .int) :: ((wsX3_up_r1 ++ (wsX3_up_r2 ++ wsX3_up_r3)) ++ wsX30 ++ wsX10 ++ wsX20)
def wsX3_spreadBelow : List Cond := .code yX3_spreadBelow cX3_spreadBelow 5 none :: ([.fieldLink RX3 20 "JoinBlocks" "row" "LJoinBlocks$Row;", .fieldLink RX3 90 "JoinBlocks$Row" "levels" "[I", .fieldLink RX3 30 "JoinBlocks" "taken" "LJoinBlocks$ScoredSet;", .fieldLink RX3 177 "JoinBlocks$ScoredSet" "scores" "[J", .methodLink RX3 116 yX1_firstBelow, .instanceMethod yX1_firstBelow, .selects RX1 yX1_firstBelow yX1_firstBelow, .initialized RX1, .code yX1_firstBelow cX1_firstBelow 3 (some .int), .fieldLink RX1 9 "JoinBlocks$Row" "levels" "[I", .methodLink RX3 211 yX2_add, .instanceMethod yX2_add, .selects RX2 yX2_add yX2_add, .initialized RX2, .code yX2_add cX2_add 4 none, .fieldLink RX2 9 "JoinBlocks$ScoredSet" "members" "[Z", .fieldLink RX2 15 "JoinBlocks$ScoredSet" "scores" "[J", .methodLink RX2 23 yX2_put, .instanceMethod yX2_put, .selects RX2 yX2_put yX2_put, .code yX2_put cX2_put 4 none, .fieldLink RX2 19 "JoinBlocks$ScoredSet" "size" "I"] ++ wsX30 ++ wsX10 ++ wsX20)
def wsX3_down_r1 : List Cond := [Cond.fieldLink RX3 44 "JoinBlocks" "depth" "I", Cond.fieldLink RX3 25 "JoinBlocks" "stack" "[LJoinBlocks$ScoredSet;", Cond.fieldLink RX3 30 "JoinBlocks" "taken" "LJoinBlocks$ScoredSet;", Cond.fieldLink RX3 20 "JoinBlocks" "row" "LJoinBlocks$Row;", Cond.fieldLink RX3 59 "JoinBlocks$Row" "size" "I", Cond.fieldLink RX3 140 "JoinBlocks$ScoredSet" "size" "I", Cond.methodLink RX3 52 yX3_isWithin, Cond.static yX3_isWithin, Cond.initialized RX3, Cond.code yX3_isWithin cX3_isWithin 3 (some .boolean), Cond.methodLink RX3 151 yX2_moveTo, Cond.instanceMethod yX2_moveTo, Cond.selects RX2 yX2_moveTo yX2_moveTo, Cond.initialized RX2, Cond.code yX2_moveTo cX2_moveTo 2 none, Cond.methodLink RX2 34 yX2_clear, Cond.instanceMethod yX2_clear, Cond.selects RX2 yX2_clear yX2_clear, Cond.code yX2_clear cX2_clear 2 none, Cond.fieldLink RX2 9 "JoinBlocks$ScoredSet" "members" "[Z", Cond.fieldLink RX2 19 "JoinBlocks$ScoredSet" "size" "I", Cond.methodLink RX2 37 yX2_addAll, Cond.instanceMethod yX2_addAll, Cond.selects RX2 yX2_addAll yX2_addAll]
def wsX3_down_r2 : List Cond := [Cond.code yX2_addAll cX2_addAll 3 none, Cond.fieldLink RX2 15 "JoinBlocks$ScoredSet" "scores" "[J", Cond.methodLink RX2 27 yX2_add, Cond.instanceMethod yX2_add, Cond.selects RX2 yX2_add yX2_add, Cond.code yX2_add cX2_add 4 none, Cond.methodLink RX2 23 yX2_put, Cond.instanceMethod yX2_put, Cond.selects RX2 yX2_put yX2_put, Cond.code yX2_put cX2_put 4 none, Cond.methodLink RX3 158 yX2_has, Cond.instanceMethod yX2_has, Cond.selects RX2 yX2_has yX2_has, Cond.code yX2_has cX2_has 2 (some .boolean), Cond.methodLink RX3 161 yX3_spreadBelow, Cond.instanceMethod yX3_spreadBelow, Cond.selects RX3 yX3_spreadBelow yX3_spreadBelow, Cond.code yX3_spreadBelow cX3_spreadBelow 5 none, Cond.fieldLink RX3 90 "JoinBlocks$Row" "levels" "[I", Cond.fieldLink RX3 177 "JoinBlocks$ScoredSet" "scores" "[J", Cond.methodLink RX3 116 yX1_firstBelow, Cond.instanceMethod yX1_firstBelow, Cond.selects RX1 yX1_firstBelow yX1_firstBelow, Cond.initialized RX1]
def wsX3_down_r3 : List Cond := [Cond.code yX1_firstBelow cX1_firstBelow 3 (some .int), Cond.fieldLink RX1 9 "JoinBlocks$Row" "levels" "[I", Cond.methodLink RX3 211 yX2_add]
def wsX3_down : List Cond := .code yX3_down cX3_down 4 (some .int) :: ((wsX3_down_r1 ++ (wsX3_down_r2 ++ wsX3_down_r3)) ++ wsX30 ++ wsX10 ++ wsX20)
def wsX3_spreadToLinked : List Cond := .code yX3_spreadToLinked cX3_spreadToLinked 4 none :: ([.fieldLink RX3 20 "JoinBlocks" "row" "LJoinBlocks$Row;", .fieldLink RX3 59 "JoinBlocks$Row" "size" "I", .fieldLink RX3 112 "JoinBlocks$Row" "living" "[Z", .fieldLink RX3 100 "JoinBlocks$Row" "links" "[I", .fieldLink RX3 106 "JoinBlocks$Row" "keys" "[I", .fieldLink RX3 30 "JoinBlocks" "taken" "LJoinBlocks$ScoredSet;", .fieldLink RX3 177 "JoinBlocks$ScoredSet" "scores" "[J", .methodLink RX3 136 yX2_put, .instanceMethod yX2_put, .selects RX2 yX2_put yX2_put, .initialized RX2, .code yX2_put cX2_put 4 none, .fieldLink RX2 9 "JoinBlocks$ScoredSet" "members" "[Z", .fieldLink RX2 19 "JoinBlocks$ScoredSet" "size" "I", .fieldLink RX2 15 "JoinBlocks$ScoredSet" "scores" "[J"] ++ wsX30 ++ wsX10 ++ wsX20)
def wsX3_over_r1 : List Cond := [Cond.fieldLink RX3 44 "JoinBlocks" "depth" "I", Cond.fieldLink RX3 25 "JoinBlocks" "stack" "[LJoinBlocks$ScoredSet;", Cond.fieldLink RX3 30 "JoinBlocks" "taken" "LJoinBlocks$ScoredSet;", Cond.fieldLink RX3 20 "JoinBlocks" "row" "LJoinBlocks$Row;", Cond.fieldLink RX3 59 "JoinBlocks$Row" "size" "I", Cond.fieldLink RX3 140 "JoinBlocks$ScoredSet" "size" "I", Cond.methodLink RX3 151 yX2_moveTo, Cond.instanceMethod yX2_moveTo, Cond.selects RX2 yX2_moveTo yX2_moveTo, Cond.initialized RX2, Cond.code yX2_moveTo cX2_moveTo 2 none, Cond.methodLink RX2 34 yX2_clear, Cond.instanceMethod yX2_clear, Cond.selects RX2 yX2_clear yX2_clear, Cond.code yX2_clear cX2_clear 2 none, Cond.fieldLink RX2 9 "JoinBlocks$ScoredSet" "members" "[Z", Cond.fieldLink RX2 19 "JoinBlocks$ScoredSet" "size" "I", Cond.methodLink RX2 37 yX2_addAll, Cond.instanceMethod yX2_addAll, Cond.selects RX2 yX2_addAll yX2_addAll, Cond.code yX2_addAll cX2_addAll 3 none, Cond.fieldLink RX2 15 "JoinBlocks$ScoredSet" "scores" "[J", Cond.methodLink RX2 27 yX2_add, Cond.instanceMethod yX2_add]
def wsX3_over_r2 : List Cond := [Cond.selects RX2 yX2_add yX2_add, Cond.code yX2_add cX2_add 4 none, Cond.methodLink RX2 23 yX2_put, Cond.instanceMethod yX2_put, Cond.selects RX2 yX2_put yX2_put, Cond.code yX2_put cX2_put 4 none, Cond.methodLink RX3 158 yX2_has, Cond.instanceMethod yX2_has, Cond.selects RX2 yX2_has yX2_has, Cond.code yX2_has cX2_has 2 (some .boolean), Cond.methodLink RX3 103 yX1_isRoot, Cond.instanceMethod yX1_isRoot, Cond.selects RX1 yX1_isRoot yX1_isRoot, Cond.initialized RX1, Cond.code yX1_isRoot cX1_isRoot 2 (some .boolean), Cond.fieldLink RX1 9 "JoinBlocks$Row" "levels" "[I", Cond.methodLink RX3 164 yX3_spreadToLinked, Cond.instanceMethod yX3_spreadToLinked, Cond.selects RX3 yX3_spreadToLinked yX3_spreadToLinked, Cond.initialized RX3, Cond.code yX3_spreadToLinked cX3_spreadToLinked 4 none, Cond.fieldLink RX3 112 "JoinBlocks$Row" "living" "[Z", Cond.fieldLink RX3 100 "JoinBlocks$Row" "links" "[I", Cond.fieldLink RX3 106 "JoinBlocks$Row" "keys" "[I"]
def wsX3_over_r3 : List Cond := [Cond.fieldLink RX3 177 "JoinBlocks$ScoredSet" "scores" "[J", Cond.methodLink RX3 136 yX2_put]
def wsX3_over : List Cond := .code yX3_over cX3_over 3 (some .int) :: ((wsX3_over_r1 ++ (wsX3_over_r2 ++ wsX3_over_r3)) ++ wsX30 ++ wsX10 ++ wsX20)
def wsX3_again : List Cond := .code yX3_again cX3_again 2 (some .int) :: ([.fieldLink RX3 44 "JoinBlocks" "depth" "I", .fieldLink RX3 25 "JoinBlocks" "stack" "[LJoinBlocks$ScoredSet;", .methodLink RX3 125 yX2_clear, .instanceMethod yX2_clear, .selects RX2 yX2_clear yX2_clear, .initialized RX2, .code yX2_clear cX2_clear 2 none, .fieldLink RX2 9 "JoinBlocks$ScoredSet" "members" "[Z", .fieldLink RX2 19 "JoinBlocks$ScoredSet" "size" "I", .methodLink RX3 145 yX2_addAll, .instanceMethod yX2_addAll, .selects RX2 yX2_addAll yX2_addAll, .code yX2_addAll cX2_addAll 3 none, .fieldLink RX2 15 "JoinBlocks$ScoredSet" "scores" "[J", .methodLink RX2 27 yX2_add, .instanceMethod yX2_add, .selects RX2 yX2_add yX2_add, .code yX2_add cX2_add 4 none, .methodLink RX2 23 yX2_put, .instanceMethod yX2_put, .selects RX2 yX2_put yX2_put, .code yX2_put cX2_put 4 none] ++ wsX30 ++ wsX20)
def wsX3_pop : List Cond := .code yX3_pop cX3_pop 1 (some .int) :: ([.fieldLink RX3 44 "JoinBlocks" "depth" "I"] ++ wsX30)
def wsX3_answerRanked : List Cond := .code yX3_answerRanked cX3_answerRanked 2 (some .int) :: ([.fieldLink RX3 40 "JoinBlocks" "ranking" "LJoinBlocks$Ranking;", .fieldLink RX3 214 "JoinBlocks$Ranking" "size" "I", .fieldLink RX3 215 "JoinBlocks$Ranking" "numbers" "[I"] ++ wsX30 ++ wsX00)
def wsX3_hit_r1 : List Cond := [Cond.fieldLink RX3 44 "JoinBlocks" "depth" "I", Cond.fieldLink RX3 40 "JoinBlocks" "ranking" "LJoinBlocks$Ranking;", Cond.fieldLink RX3 25 "JoinBlocks" "stack" "[LJoinBlocks$ScoredSet;", Cond.fieldLink RX3 20 "JoinBlocks" "row" "LJoinBlocks$Row;", Cond.fieldLink RX3 59 "JoinBlocks$Row" "size" "I", Cond.methodLink RX3 168 yX0_rank, Cond.instanceMethod yX0_rank, Cond.selects RX0 yX0_rank yX0_rank, Cond.initialized RX0, Cond.code yX0_rank cX0_rank 5 none, Cond.fieldLink RX0 18 "JoinBlocks$Ranking" "size" "I", Cond.fieldLink RX0 9 "JoinBlocks$Ranking" "numbers" "[I", Cond.methodLink RX0 22 yX2_has, Cond.instanceMethod yX2_has, Cond.selects RX2 yX2_has yX2_has, Cond.initialized RX2, Cond.code yX2_has cX2_has 2 (some .boolean), Cond.fieldLink RX2 9 "JoinBlocks$ScoredSet" "members" "[Z", Cond.methodLink RX0 28 yX0_mergeRuns, Cond.instanceMethod yX0_mergeRuns, Cond.selects RX0 yX0_mergeRuns yX0_mergeRuns, Cond.code yX0_mergeRuns cX0_mergeRuns 6 none, Cond.methodLink RX0 32 Lib.Math.min.name, Cond.static Lib.Math.min.name]
def wsX3_hit_r2 : List Cond := [Cond.initialized "java/lang/Math", Cond.code Lib.Math.min.name Lib.Math.min.code 2 (some .int), Cond.fieldLink RX0 15 "JoinBlocks$Ranking" "merged" "[I", Cond.methodLink RX0 42 arraycopyName, Cond.native arraycopyName, Cond.static arraycopyName, Cond.initialized "java/lang/System", Cond.methodLink RX0 38 yX0_mergeTwo, Cond.instanceMethod yX0_mergeTwo, Cond.selects RX0 yX0_mergeTwo yX0_mergeTwo, Cond.code yX0_mergeTwo cX0_mergeTwo 9 none, Cond.fieldLink RX0 48 "JoinBlocks$ScoredSet" "scores" "[J", Cond.methodLink RX3 172 yX3_answerRanked, Cond.instanceMethod yX3_answerRanked, Cond.selects RX3 yX3_answerRanked yX3_answerRanked, Cond.initialized RX3, Cond.code yX3_answerRanked cX3_answerRanked 2 (some .int), Cond.fieldLink RX3 214 "JoinBlocks$Ranking" "size" "I", Cond.fieldLink RX3 215 "JoinBlocks$Ranking" "numbers" "[I"]
def wsX3_hit : List Cond := .code yX3_hit cX3_hit 2 (some .int) :: ((wsX3_hit_r1 ++ wsX3_hit_r2) ++ wsX30 ++ wsX10 ++ wsX00 ++ wsX20)
def wsX3_score : List Cond := .code yX3_score cX3_score 3 (some .long) :: ([.fieldLink RX3 44 "JoinBlocks" "depth" "I", .constantLong RX3 175 (-9223372036854775808), .fieldLink RX3 25 "JoinBlocks" "stack" "[LJoinBlocks$ScoredSet;", .fieldLink RX3 177 "JoinBlocks$ScoredSet" "scores" "[J", .methodLink RX3 158 yX2_has, .instanceMethod yX2_has, .selects RX2 yX2_has yX2_has, .initialized RX2, .code yX2_has cX2_has 2 (some .boolean), .fieldLink RX2 9 "JoinBlocks$ScoredSet" "members" "[Z"] ++ wsX30 ++ wsX20)
def wsX3_family_r1 : List Cond := [Cond.fieldLink RX3 48 "JoinBlocks" "wentUp" "Z", Cond.fieldLink RX3 20 "JoinBlocks" "row" "LJoinBlocks$Row;", Cond.fieldLink RX3 40 "JoinBlocks" "ranking" "LJoinBlocks$Ranking;", Cond.fieldLink RX3 34 "JoinBlocks" "kin" "LJoinBlocks$ScoredSet;", Cond.methodLink RX3 87 yX1_holds, Cond.instanceMethod yX1_holds, Cond.selects RX1 yX1_holds yX1_holds, Cond.initialized RX1, Cond.code yX1_holds cX1_holds 2 (some .boolean), Cond.fieldLink RX1 31 "JoinBlocks$Row" "size" "I", Cond.methodLink RX3 116 yX1_firstBelow, Cond.instanceMethod yX1_firstBelow, Cond.selects RX1 yX1_firstBelow yX1_firstBelow, Cond.code yX1_firstBelow cX1_firstBelow 3 (some .int), Cond.fieldLink RX1 9 "JoinBlocks$Row" "levels" "[I", Cond.methodLink RX3 168 yX0_rank, Cond.instanceMethod yX0_rank, Cond.selects RX0 yX0_rank yX0_rank, Cond.initialized RX0, Cond.code yX0_rank cX0_rank 5 none, Cond.fieldLink RX0 18 "JoinBlocks$Ranking" "size" "I", Cond.fieldLink RX0 9 "JoinBlocks$Ranking" "numbers" "[I", Cond.methodLink RX0 22 yX2_has, Cond.instanceMethod yX2_has]
def wsX3_family_r2 : List Cond := [Cond.selects RX2 yX2_has yX2_has, Cond.initialized RX2, Cond.code yX2_has cX2_has 2 (some .boolean), Cond.fieldLink RX2 9 "JoinBlocks$ScoredSet" "members" "[Z", Cond.methodLink RX0 28 yX0_mergeRuns, Cond.instanceMethod yX0_mergeRuns, Cond.selects RX0 yX0_mergeRuns yX0_mergeRuns, Cond.code yX0_mergeRuns cX0_mergeRuns 6 none, Cond.methodLink RX0 32 Lib.Math.min.name, Cond.static Lib.Math.min.name, Cond.initialized "java/lang/Math", Cond.code Lib.Math.min.name Lib.Math.min.code 2 (some .int), Cond.fieldLink RX0 15 "JoinBlocks$Ranking" "merged" "[I", Cond.methodLink RX0 42 arraycopyName, Cond.native arraycopyName, Cond.static arraycopyName, Cond.initialized "java/lang/System", Cond.methodLink RX0 38 yX0_mergeTwo, Cond.instanceMethod yX0_mergeTwo, Cond.selects RX0 yX0_mergeTwo yX0_mergeTwo, Cond.code yX0_mergeTwo cX0_mergeTwo 9 none, Cond.fieldLink RX0 48 "JoinBlocks$ScoredSet" "scores" "[J", Cond.methodLink RX3 172 yX3_answerRanked, Cond.instanceMethod yX3_answerRanked]
def wsX3_family_r3 : List Cond := [Cond.selects RX3 yX3_answerRanked yX3_answerRanked, Cond.initialized RX3, Cond.code yX3_answerRanked cX3_answerRanked 2 (some .int), Cond.fieldLink RX3 214 "JoinBlocks$Ranking" "size" "I", Cond.fieldLink RX3 215 "JoinBlocks$Ranking" "numbers" "[I"]
def wsX3_family : List Cond := .code yX3_family cX3_family 3 (some .int) :: ((wsX3_family_r1 ++ (wsX3_family_r2 ++ wsX3_family_r3)) ++ wsX30 ++ wsX10 ++ wsX00 ++ wsX20)
def wsX3_share : List Cond := .code yX3_share cX3_share 2 (some .long) :: ([.classLink RX3 181 "java/lang/ArithmeticException", .initialized "java/lang/ArithmeticException", .fieldLink RX3 44 "JoinBlocks" "depth" "I", .constantLong RX3 175 (-9223372036854775808), .fieldLink RX3 25 "JoinBlocks" "stack" "[LJoinBlocks$ScoredSet;", .fieldLink RX3 140 "JoinBlocks$ScoredSet" "size" "I", .constantLong RX3 188 (1000)] ++ wsX30 ++ wsX20 ++ (vx_atS RX3 185 "java/lang/ArithmeticException" ["java/lang/RuntimeException", "java/lang/Exception"]).filter goodWord)
def wsX4_init : List Cond := .code yX4_init cX4_init 1 none :: ([.methodLink RX4 1 objectInit, .instanceMethod objectInit, .code objectInit ⟨#[0xb1]⟩ 1 none, .arrayClass .int, .fieldLink RX4 7 "JoinBlocksModel" "level" "[I", .fieldLink RX4 13 "JoinBlocksModel" "value" "[I", .fieldLink RX4 16 "JoinBlocksModel" "tags" "[I", .fieldLink RX4 19 "JoinBlocksModel" "link" "[I", .fieldLink RX4 22 "JoinBlocksModel" "key" "[I", .arrayClass .boolean, .fieldLink RX4 25 "JoinBlocksModel" "lives" "[Z", .fieldLink RX4 29 "JoinBlocksModel" "open" "[I", .fieldLink RX4 32 "JoinBlocksModel" "in" "[Z", .arrayClass .long, .fieldLink RX4 35 "JoinBlocksModel" "scores" "[J", .fieldLink RX4 39 "JoinBlocksModel" "was" "[Z", .fieldLink RX4 42 "JoinBlocksModel" "had" "[J"] ++ wsX40)
def wsX4_thrown : List Cond := .code yX4_thrown cX4_thrown 1 (some .int) :: ([.fieldLink RX4 45 "JoinBlocksModel" "thrown" "I"] ++ wsX40)
def wsX4_isIn : List Cond := .code yX4_isIn cX4_isIn 3 (some .boolean) :: ([])
def wsX4_isObject : List Cond := .code yX4_isObject cX4_isObject 2 (some .boolean) :: ([.fieldLink RX4 49 "JoinBlocksModel" "objects" "I", .methodLink RX4 52 yX4_isIn, .static yX4_isIn, .initialized RX4, .code yX4_isIn cX4_isIn 3 (some .boolean)] ++ wsX40)
def wsX4_child : List Cond := .code yX4_child cX4_child 5 (some .int) :: ([.fieldLink RX4 45 "JoinBlocksModel" "thrown" "I", .fieldLink RX4 56 "JoinBlocksModel" "opened" "I", .fieldLink RX4 29 "JoinBlocksModel" "open" "[I", .methodLink RX4 52 yX4_isIn, .static yX4_isIn, .initialized RX4, .code yX4_isIn cX4_isIn 3 (some .boolean)] ++ wsX40)
def wsX4_stand : List Cond := .code yX4_stand cX4_stand 7 none :: ([.fieldLink RX4 7 "JoinBlocksModel" "level" "[I", .fieldLink RX4 49 "JoinBlocksModel" "objects" "I", .fieldLink RX4 13 "JoinBlocksModel" "value" "[I", .fieldLink RX4 16 "JoinBlocksModel" "tags" "[I", .fieldLink RX4 19 "JoinBlocksModel" "link" "[I", .fieldLink RX4 22 "JoinBlocksModel" "key" "[I", .fieldLink RX4 25 "JoinBlocksModel" "lives" "[Z", .fieldLink RX4 32 "JoinBlocksModel" "in" "[Z"] ++ wsX40)
def wsX4_rootOf : List Cond := .code yX4_rootOf cX4_rootOf 3 (some .int) :: ([.fieldLink RX4 49 "JoinBlocksModel" "objects" "I", .fieldLink RX4 25 "JoinBlocksModel" "lives" "[Z", .fieldLink RX4 7 "JoinBlocksModel" "level" "[I", .fieldLink RX4 22 "JoinBlocksModel" "key" "[I"] ++ wsX40)
def wsX4_empty : List Cond := .code yX4_empty cX4_empty 1 none :: ([.fieldLink RX4 59 "JoinBlocksModel" "sets" "I", .fieldLink RX4 62 "JoinBlocksModel" "hasFamily" "Z"] ++ wsX40)
def wsX4_die : List Cond := .code yX4_die cX4_die 4 (some .int) :: ([.fieldLink RX4 7 "JoinBlocksModel" "level" "[I", .fieldLink RX4 25 "JoinBlocksModel" "lives" "[Z", .methodLink RX4 66 yX4_empty, .instanceMethod yX4_empty, .selects RX4 yX4_empty yX4_empty, .initialized RX4, .code yX4_empty cX4_empty 1 none, .fieldLink RX4 59 "JoinBlocksModel" "sets" "I", .fieldLink RX4 62 "JoinBlocksModel" "hasFamily" "Z"] ++ wsX40)
def wsX4_close_r1 : List Cond := [Cond.fieldLink RX4 45 "JoinBlocksModel" "thrown" "I", Cond.fieldLink RX4 49 "JoinBlocksModel" "objects" "I", Cond.fieldLink RX4 56 "JoinBlocksModel" "opened" "I", Cond.fieldLink RX4 29 "JoinBlocksModel" "open" "[I", Cond.methodLink RX4 52 yX4_isIn, Cond.static yX4_isIn, Cond.initialized RX4, Cond.code yX4_isIn cX4_isIn 3 (some .boolean), Cond.methodLink RX4 69 yX4_rootOf, Cond.instanceMethod yX4_rootOf, Cond.selects RX4 yX4_rootOf yX4_rootOf, Cond.code yX4_rootOf cX4_rootOf 3 (some .int), Cond.fieldLink RX4 25 "JoinBlocksModel" "lives" "[Z", Cond.fieldLink RX4 7 "JoinBlocksModel" "level" "[I", Cond.fieldLink RX4 22 "JoinBlocksModel" "key" "[I", Cond.methodLink RX4 73 yX4_die, Cond.instanceMethod yX4_die, Cond.selects RX4 yX4_die yX4_die, Cond.code yX4_die cX4_die 4 (some .int), Cond.methodLink RX4 66 yX4_empty, Cond.instanceMethod yX4_empty, Cond.selects RX4 yX4_empty yX4_empty, Cond.code yX4_empty cX4_empty 1 none, Cond.fieldLink RX4 59 "JoinBlocksModel" "sets" "I"]
def wsX4_close_r2 : List Cond := [Cond.fieldLink RX4 62 "JoinBlocksModel" "hasFamily" "Z", Cond.methodLink RX4 76 yX4_stand, Cond.instanceMethod yX4_stand, Cond.selects RX4 yX4_stand yX4_stand, Cond.code yX4_stand cX4_stand 7 none, Cond.fieldLink RX4 13 "JoinBlocksModel" "value" "[I", Cond.fieldLink RX4 16 "JoinBlocksModel" "tags" "[I", Cond.fieldLink RX4 19 "JoinBlocksModel" "link" "[I", Cond.fieldLink RX4 32 "JoinBlocksModel" "in" "[Z"]
def wsX4_close : List Cond := .code yX4_close cX4_close 7 (some .int) :: ((wsX4_close_r1 ++ wsX4_close_r2) ++ wsX40)
def wsX4_drop : List Cond := .code yX4_drop cX4_drop 2 (some .int) :: ([.fieldLink RX4 45 "JoinBlocksModel" "thrown" "I", .fieldLink RX4 56 "JoinBlocksModel" "opened" "I"] ++ wsX40)
def wsX4_kill : List Cond := .code yX4_kill cX4_kill 3 (some .int) :: ([.fieldLink RX4 45 "JoinBlocksModel" "thrown" "I", .methodLink RX4 69 yX4_rootOf, .instanceMethod yX4_rootOf, .selects RX4 yX4_rootOf yX4_rootOf, .initialized RX4, .code yX4_rootOf cX4_rootOf 3 (some .int), .fieldLink RX4 49 "JoinBlocksModel" "objects" "I", .fieldLink RX4 25 "JoinBlocksModel" "lives" "[Z", .fieldLink RX4 7 "JoinBlocksModel" "level" "[I", .fieldLink RX4 22 "JoinBlocksModel" "key" "[I", .methodLink RX4 73 yX4_die, .instanceMethod yX4_die, .selects RX4 yX4_die yX4_die, .code yX4_die cX4_die 4 (some .int), .methodLink RX4 66 yX4_empty, .instanceMethod yX4_empty, .selects RX4 yX4_empty yX4_empty, .code yX4_empty cX4_empty 1 none, .fieldLink RX4 59 "JoinBlocksModel" "sets" "I", .fieldLink RX4 62 "JoinBlocksModel" "hasFamily" "Z"] ++ wsX40)
def wsX4_merge : List Cond := .code yX4_merge cX4_merge 3 (some .int) :: ([.fieldLink RX4 45 "JoinBlocksModel" "thrown" "I", .fieldLink RX4 49 "JoinBlocksModel" "objects" "I", .fieldLink RX4 25 "JoinBlocksModel" "lives" "[Z", .fieldLink RX4 7 "JoinBlocksModel" "level" "[I", .fieldLink RX4 13 "JoinBlocksModel" "value" "[I", .fieldLink RX4 16 "JoinBlocksModel" "tags" "[I", .fieldLink RX4 19 "JoinBlocksModel" "link" "[I", .fieldLink RX4 22 "JoinBlocksModel" "key" "[I", .methodLink RX4 66 yX4_empty, .instanceMethod yX4_empty, .selects RX4 yX4_empty yX4_empty, .initialized RX4, .code yX4_empty cX4_empty 1 none, .fieldLink RX4 59 "JoinBlocksModel" "sets" "I", .fieldLink RX4 62 "JoinBlocksModel" "hasFamily" "Z"] ++ wsX40)
def wsX4_parent : List Cond := .code yX4_parent cX4_parent 3 (some .int) :: ([.fieldLink RX4 7 "JoinBlocksModel" "level" "[I"] ++ wsX40)
def wsX4_isAbove : List Cond := .code yX4_isAbove cX4_isAbove 4 (some .boolean) :: ([.methodLink RX4 80 yX4_parent, .instanceMethod yX4_parent, .selects RX4 yX4_parent yX4_parent, .initialized RX4, .code yX4_parent cX4_parent 3 (some .int), .fieldLink RX4 7 "JoinBlocksModel" "level" "[I"] ++ wsX40)
def wsX4_belowOf : List Cond := .code yX4_belowOf cX4_belowOf 4 (some .int) :: ([.fieldLink RX4 49 "JoinBlocksModel" "objects" "I", .methodLink RX4 83 yX4_isAbove, .instanceMethod yX4_isAbove, .selects RX4 yX4_isAbove yX4_isAbove, .initialized RX4, .code yX4_isAbove cX4_isAbove 4 (some .boolean), .methodLink RX4 80 yX4_parent, .instanceMethod yX4_parent, .selects RX4 yX4_parent yX4_parent, .code yX4_parent cX4_parent 3 (some .int), .fieldLink RX4 7 "JoinBlocksModel" "level" "[I"] ++ wsX40)
def wsX4_object_r1 : List Cond := [Cond.fieldLink RX4 45 "JoinBlocksModel" "thrown" "I", Cond.fieldLink RX4 7 "JoinBlocksModel" "level" "[I", Cond.fieldLink RX4 13 "JoinBlocksModel" "value" "[I", Cond.fieldLink RX4 16 "JoinBlocksModel" "tags" "[I", Cond.fieldLink RX4 19 "JoinBlocksModel" "link" "[I", Cond.fieldLink RX4 22 "JoinBlocksModel" "key" "[I", Cond.fieldLink RX4 25 "JoinBlocksModel" "lives" "[Z", Cond.methodLink RX4 87 yX4_isObject, Cond.instanceMethod yX4_isObject, Cond.selects RX4 yX4_isObject yX4_isObject, Cond.initialized RX4, Cond.code yX4_isObject cX4_isObject 2 (some .boolean), Cond.fieldLink RX4 49 "JoinBlocksModel" "objects" "I", Cond.methodLink RX4 52 yX4_isIn, Cond.static yX4_isIn, Cond.code yX4_isIn cX4_isIn 3 (some .boolean), Cond.methodLink RX4 80 yX4_parent, Cond.instanceMethod yX4_parent, Cond.selects RX4 yX4_parent yX4_parent, Cond.code yX4_parent cX4_parent 3 (some .int), Cond.methodLink RX4 91 yX4_belowOf, Cond.instanceMethod yX4_belowOf, Cond.selects RX4 yX4_belowOf yX4_belowOf, Cond.code yX4_belowOf cX4_belowOf 4 (some .int)]
def wsX4_object_r2 : List Cond := [Cond.methodLink RX4 83 yX4_isAbove, Cond.instanceMethod yX4_isAbove, Cond.selects RX4 yX4_isAbove yX4_isAbove, Cond.code yX4_isAbove cX4_isAbove 4 (some .boolean)]
def wsX4_object : List Cond := .code yX4_object cX4_object 3 (some .int) :: ((wsX4_object_r1 ++ wsX4_object_r2) ++ wsX40)
def wsX4_count : List Cond := .code yX4_count cX4_count 5 (some .int) :: ([.fieldLink RX4 45 "JoinBlocksModel" "thrown" "I", .fieldLink RX4 49 "JoinBlocksModel" "objects" "I", .fieldLink RX4 25 "JoinBlocksModel" "lives" "[Z", .fieldLink RX4 7 "JoinBlocksModel" "level" "[I", .fieldLink RX4 56 "JoinBlocksModel" "opened" "I", .fieldLink RX4 59 "JoinBlocksModel" "sets" "I", .methodLink RX4 52 yX4_isIn, .static yX4_isIn, .initialized RX4, .code yX4_isIn cX4_isIn 3 (some .boolean)] ++ wsX40)
def wsX4_root : List Cond := .code yX4_root cX4_root 2 (some .int) :: ([.fieldLink RX4 45 "JoinBlocksModel" "thrown" "I", .methodLink RX4 69 yX4_rootOf, .instanceMethod yX4_rootOf, .selects RX4 yX4_rootOf yX4_rootOf, .initialized RX4, .code yX4_rootOf cX4_rootOf 3 (some .int), .fieldLink RX4 49 "JoinBlocksModel" "objects" "I", .fieldLink RX4 25 "JoinBlocksModel" "lives" "[Z", .fieldLink RX4 7 "JoinBlocksModel" "level" "[I", .fieldLink RX4 22 "JoinBlocksModel" "key" "[I"] ++ wsX40)
def wsX4_sizeOf : List Cond := .code yX4_sizeOf cX4_sizeOf 4 (some .int) :: ([.fieldLink RX4 49 "JoinBlocksModel" "objects" "I", .fieldLink RX4 32 "JoinBlocksModel" "in" "[Z"] ++ wsX40)
def wsX4_bits : List Cond := .code yX4_bits cX4_bits 3 (some .int) :: ([])
def wsX4_mayBeFound : List Cond := .code yX4_mayBeFound cX4_mayBeFound 3 (some .boolean) :: ([.methodLink RX4 52 yX4_isIn, .static yX4_isIn, .initialized RX4, .code yX4_isIn cX4_isIn 3 (some .boolean)])
def wsX4_isFound : List Cond := .code yX4_isFound cX4_isFound 5 (some .boolean) :: ([.fieldLink RX4 16 "JoinBlocksModel" "tags" "[I", .fieldLink RX4 13 "JoinBlocksModel" "value" "[I", .fieldLink RX4 7 "JoinBlocksModel" "level" "[I", .fieldLink RX4 22 "JoinBlocksModel" "key" "[I", .fieldLink RX4 19 "JoinBlocksModel" "link" "[I", .methodLink RX4 52 yX4_isIn, .static yX4_isIn, .initialized RX4, .code yX4_isIn cX4_isIn 3 (some .boolean)] ++ wsX40)
def wsX4_find_r1 : List Cond := [Cond.fieldLink RX4 45 "JoinBlocksModel" "thrown" "I", Cond.fieldLink RX4 59 "JoinBlocksModel" "sets" "I", Cond.fieldLink RX4 49 "JoinBlocksModel" "objects" "I", Cond.fieldLink RX4 32 "JoinBlocksModel" "in" "[Z", Cond.fieldLink RX4 25 "JoinBlocksModel" "lives" "[Z", Cond.fieldLink RX4 35 "JoinBlocksModel" "scores" "[J", Cond.fieldLink RX4 13 "JoinBlocksModel" "value" "[I", Cond.methodLink RX4 94 yX4_mayBeFound, Cond.static yX4_mayBeFound, Cond.initialized RX4, Cond.code yX4_mayBeFound cX4_mayBeFound 3 (some .boolean), Cond.methodLink RX4 52 yX4_isIn, Cond.static yX4_isIn, Cond.code yX4_isIn cX4_isIn 3 (some .boolean), Cond.methodLink RX4 97 yX4_isFound, Cond.instanceMethod yX4_isFound, Cond.selects RX4 yX4_isFound yX4_isFound, Cond.code yX4_isFound cX4_isFound 5 (some .boolean), Cond.fieldLink RX4 16 "JoinBlocksModel" "tags" "[I", Cond.fieldLink RX4 7 "JoinBlocksModel" "level" "[I", Cond.fieldLink RX4 22 "JoinBlocksModel" "key" "[I", Cond.fieldLink RX4 19 "JoinBlocksModel" "link" "[I", Cond.methodLink RX4 101 yX4_bits, Cond.static yX4_bits]
def wsX4_find_r2 : List Cond := [Cond.code yX4_bits cX4_bits 3 (some .int), Cond.methodLink RX4 104 yX4_sizeOf, Cond.instanceMethod yX4_sizeOf, Cond.selects RX4 yX4_sizeOf yX4_sizeOf, Cond.code yX4_sizeOf cX4_sizeOf 4 (some .int)]
def wsX4_find : List Cond := .code yX4_find cX4_find 5 (some .int) :: ((wsX4_find_r1 ++ wsX4_find_r2) ++ wsX40)
def wsX4_join : List Cond := .code yX4_join cX4_join 7 (some .int) :: ([.fieldLink RX4 45 "JoinBlocksModel" "thrown" "I", .fieldLink RX4 59 "JoinBlocksModel" "sets" "I", .fieldLink RX4 49 "JoinBlocksModel" "objects" "I", .fieldLink RX4 32 "JoinBlocksModel" "in" "[Z", .fieldLink RX4 35 "JoinBlocksModel" "scores" "[J", .methodLink RX4 52 yX4_isIn, .static yX4_isIn, .initialized RX4, .code yX4_isIn cX4_isIn 3 (some .boolean), .methodLink RX4 104 yX4_sizeOf, .instanceMethod yX4_sizeOf, .selects RX4 yX4_sizeOf yX4_sizeOf, .code yX4_sizeOf cX4_sizeOf 4 (some .int)] ++ wsX40)
def wsX4_takeLast : List Cond := .code yX4_takeLast cX4_takeLast 3 none :: ([.fieldLink RX4 59 "JoinBlocksModel" "sets" "I", .fieldLink RX4 49 "JoinBlocksModel" "objects" "I", .fieldLink RX4 39 "JoinBlocksModel" "was" "[Z", .fieldLink RX4 32 "JoinBlocksModel" "in" "[Z", .fieldLink RX4 42 "JoinBlocksModel" "had" "[J", .fieldLink RX4 35 "JoinBlocksModel" "scores" "[J"] ++ wsX40)
def wsX4_up_r1 : List Cond := [Cond.fieldLink RX4 45 "JoinBlocksModel" "thrown" "I", Cond.fieldLink RX4 59 "JoinBlocksModel" "sets" "I", Cond.fieldLink RX4 62 "JoinBlocksModel" "hasFamily" "Z", Cond.fieldLink RX4 49 "JoinBlocksModel" "objects" "I", Cond.fieldLink RX4 32 "JoinBlocksModel" "in" "[Z", Cond.fieldLink RX4 39 "JoinBlocksModel" "was" "[Z", Cond.fieldLink RX4 35 "JoinBlocksModel" "scores" "[J", Cond.fieldLink RX4 42 "JoinBlocksModel" "had" "[J", Cond.fieldLink RX4 7 "JoinBlocksModel" "level" "[I", Cond.methodLink RX4 52 yX4_isIn, Cond.static yX4_isIn, Cond.initialized RX4, Cond.code yX4_isIn cX4_isIn 3 (some .boolean), Cond.methodLink RX4 107 yX4_takeLast, Cond.instanceMethod yX4_takeLast, Cond.selects RX4 yX4_takeLast yX4_takeLast, Cond.code yX4_takeLast cX4_takeLast 3 none, Cond.methodLink RX4 83 yX4_isAbove, Cond.instanceMethod yX4_isAbove, Cond.selects RX4 yX4_isAbove yX4_isAbove, Cond.code yX4_isAbove cX4_isAbove 4 (some .boolean), Cond.methodLink RX4 80 yX4_parent, Cond.instanceMethod yX4_parent, Cond.selects RX4 yX4_parent yX4_parent]
def wsX4_up_r2 : List Cond := [Cond.code yX4_parent cX4_parent 3 (some .int), Cond.methodLink RX4 104 yX4_sizeOf, Cond.instanceMethod yX4_sizeOf, Cond.selects RX4 yX4_sizeOf yX4_sizeOf, Cond.code yX4_sizeOf cX4_sizeOf 4 (some .int)]
def wsX4_up : List Cond := .code yX4_up cX4_up 13 (some .int) :: ((wsX4_up_r1 ++ wsX4_up_r2) ++ wsX40)
def wsX4_down : List Cond := .code yX4_down cX4_down 5 (some .int) :: ([.fieldLink RX4 45 "JoinBlocksModel" "thrown" "I", .fieldLink RX4 59 "JoinBlocksModel" "sets" "I", .fieldLink RX4 49 "JoinBlocksModel" "objects" "I", .fieldLink RX4 7 "JoinBlocksModel" "level" "[I", .fieldLink RX4 39 "JoinBlocksModel" "was" "[Z", .fieldLink RX4 32 "JoinBlocksModel" "in" "[Z", .fieldLink RX4 35 "JoinBlocksModel" "scores" "[J", .fieldLink RX4 42 "JoinBlocksModel" "had" "[J", .methodLink RX4 52 yX4_isIn, .static yX4_isIn, .initialized RX4, .code yX4_isIn cX4_isIn 3 (some .boolean), .methodLink RX4 107 yX4_takeLast, .instanceMethod yX4_takeLast, .selects RX4 yX4_takeLast yX4_takeLast, .code yX4_takeLast cX4_takeLast 3 none, .methodLink RX4 80 yX4_parent, .instanceMethod yX4_parent, .selects RX4 yX4_parent yX4_parent, .code yX4_parent cX4_parent 3 (some .int), .methodLink RX4 104 yX4_sizeOf, .instanceMethod yX4_sizeOf, .selects RX4 yX4_sizeOf yX4_sizeOf, .code yX4_sizeOf cX4_sizeOf 4 (some .int)] ++ wsX40)
def wsX4_over : List Cond := .code yX4_over cX4_over 4 (some .int) :: ([.fieldLink RX4 45 "JoinBlocksModel" "thrown" "I", .fieldLink RX4 59 "JoinBlocksModel" "sets" "I", .fieldLink RX4 49 "JoinBlocksModel" "objects" "I", .fieldLink RX4 39 "JoinBlocksModel" "was" "[Z", .fieldLink RX4 7 "JoinBlocksModel" "level" "[I", .fieldLink RX4 25 "JoinBlocksModel" "lives" "[Z", .fieldLink RX4 19 "JoinBlocksModel" "link" "[I", .fieldLink RX4 22 "JoinBlocksModel" "key" "[I", .fieldLink RX4 32 "JoinBlocksModel" "in" "[Z", .fieldLink RX4 35 "JoinBlocksModel" "scores" "[J", .fieldLink RX4 42 "JoinBlocksModel" "had" "[J", .methodLink RX4 107 yX4_takeLast, .instanceMethod yX4_takeLast, .selects RX4 yX4_takeLast yX4_takeLast, .initialized RX4, .code yX4_takeLast cX4_takeLast 3 none, .methodLink RX4 104 yX4_sizeOf, .instanceMethod yX4_sizeOf, .selects RX4 yX4_sizeOf yX4_sizeOf, .code yX4_sizeOf cX4_sizeOf 4 (some .int)] ++ wsX40)
def wsX4_again : List Cond := .code yX4_again cX4_again 2 (some .int) :: ([.fieldLink RX4 45 "JoinBlocksModel" "thrown" "I", .fieldLink RX4 59 "JoinBlocksModel" "sets" "I", .fieldLink RX4 49 "JoinBlocksModel" "objects" "I", .fieldLink RX4 32 "JoinBlocksModel" "in" "[Z", .fieldLink RX4 35 "JoinBlocksModel" "scores" "[J"] ++ wsX40)
def wsX4_pop : List Cond := .code yX4_pop cX4_pop 1 (some .int) :: ([.fieldLink RX4 45 "JoinBlocksModel" "thrown" "I", .fieldLink RX4 59 "JoinBlocksModel" "sets" "I"] ++ wsX40)
def wsX4_kth : List Cond := .code yX4_kth cX4_kth 13 (some .int) :: ([.fieldLink RX4 49 "JoinBlocksModel" "objects" "I", .fieldLink RX4 32 "JoinBlocksModel" "in" "[Z", .fieldLink RX4 35 "JoinBlocksModel" "scores" "[J", .methodLink RX4 83 yX4_isAbove, .instanceMethod yX4_isAbove, .selects RX4 yX4_isAbove yX4_isAbove, .initialized RX4, .code yX4_isAbove cX4_isAbove 4 (some .boolean), .methodLink RX4 80 yX4_parent, .instanceMethod yX4_parent, .selects RX4 yX4_parent yX4_parent, .code yX4_parent cX4_parent 3 (some .int), .fieldLink RX4 7 "JoinBlocksModel" "level" "[I"] ++ wsX40)
def wsX4_hit : List Cond := .code yX4_hit cX4_hit 2 (some .int) :: ([.fieldLink RX4 45 "JoinBlocksModel" "thrown" "I", .fieldLink RX4 59 "JoinBlocksModel" "sets" "I", .methodLink RX4 110 yX4_kth, .instanceMethod yX4_kth, .selects RX4 yX4_kth yX4_kth, .initialized RX4, .code yX4_kth cX4_kth 13 (some .int), .fieldLink RX4 49 "JoinBlocksModel" "objects" "I", .fieldLink RX4 32 "JoinBlocksModel" "in" "[Z", .fieldLink RX4 35 "JoinBlocksModel" "scores" "[J", .methodLink RX4 83 yX4_isAbove, .instanceMethod yX4_isAbove, .selects RX4 yX4_isAbove yX4_isAbove, .code yX4_isAbove cX4_isAbove 4 (some .boolean), .methodLink RX4 80 yX4_parent, .instanceMethod yX4_parent, .selects RX4 yX4_parent yX4_parent, .code yX4_parent cX4_parent 3 (some .int), .fieldLink RX4 7 "JoinBlocksModel" "level" "[I"] ++ wsX40)
def wsX4_score : List Cond := .code yX4_score cX4_score 2 (some .long) :: ([.fieldLink RX4 45 "JoinBlocksModel" "thrown" "I", .fieldLink RX4 59 "JoinBlocksModel" "sets" "I", .fieldLink RX4 32 "JoinBlocksModel" "in" "[Z", .constantLong RX4 114 (-9223372036854775808), .fieldLink RX4 35 "JoinBlocksModel" "scores" "[J", .methodLink RX4 87 yX4_isObject, .instanceMethod yX4_isObject, .selects RX4 yX4_isObject yX4_isObject, .initialized RX4, .code yX4_isObject cX4_isObject 2 (some .boolean), .fieldLink RX4 49 "JoinBlocksModel" "objects" "I", .methodLink RX4 52 yX4_isIn, .static yX4_isIn, .code yX4_isIn cX4_isIn 3 (some .boolean)] ++ wsX40)
def wsX4_family_r1 : List Cond := [Cond.fieldLink RX4 45 "JoinBlocksModel" "thrown" "I", Cond.fieldLink RX4 62 "JoinBlocksModel" "hasFamily" "Z", Cond.methodLink RX4 87 yX4_isObject, Cond.instanceMethod yX4_isObject, Cond.selects RX4 yX4_isObject yX4_isObject, Cond.initialized RX4, Cond.code yX4_isObject cX4_isObject 2 (some .boolean), Cond.fieldLink RX4 49 "JoinBlocksModel" "objects" "I", Cond.methodLink RX4 52 yX4_isIn, Cond.static yX4_isIn, Cond.code yX4_isIn cX4_isIn 3 (some .boolean), Cond.methodLink RX4 110 yX4_kth, Cond.instanceMethod yX4_kth, Cond.selects RX4 yX4_kth yX4_kth, Cond.code yX4_kth cX4_kth 13 (some .int), Cond.fieldLink RX4 32 "JoinBlocksModel" "in" "[Z", Cond.fieldLink RX4 35 "JoinBlocksModel" "scores" "[J", Cond.methodLink RX4 83 yX4_isAbove, Cond.instanceMethod yX4_isAbove, Cond.selects RX4 yX4_isAbove yX4_isAbove, Cond.code yX4_isAbove cX4_isAbove 4 (some .boolean), Cond.methodLink RX4 80 yX4_parent, Cond.instanceMethod yX4_parent, Cond.selects RX4 yX4_parent yX4_parent]
def wsX4_family_r2 : List Cond := [Cond.code yX4_parent cX4_parent 3 (some .int), Cond.fieldLink RX4 7 "JoinBlocksModel" "level" "[I"]
def wsX4_family : List Cond := .code yX4_family cX4_family 3 (some .int) :: ((wsX4_family_r1 ++ wsX4_family_r2) ++ wsX40)
def wsX4_share : List Cond := .code yX4_share cX4_share 2 (some .long) :: ([.fieldLink RX4 45 "JoinBlocksModel" "thrown" "I", .fieldLink RX4 59 "JoinBlocksModel" "sets" "I", .constantLong RX4 114 (-9223372036854775808), .constantLong RX4 116 (1000), .methodLink RX4 104 yX4_sizeOf, .instanceMethod yX4_sizeOf, .selects RX4 yX4_sizeOf yX4_sizeOf, .initialized RX4, .code yX4_sizeOf cX4_sizeOf 4 (some .int), .fieldLink RX4 49 "JoinBlocksModel" "objects" "I", .fieldLink RX4 32 "JoinBlocksModel" "in" "[Z"] ++ wsX40)
def wsJ9_max_f86c9 : List Cond := .code yJ9_max_f86c9 cJ9_max_f86c9 4 (some .long) :: ([])
def wsJ9_min_7cf53 : List Cond := .code yJ9_min_7cf53 cJ9_min_7cf53 2 (some .int) :: ([])
def wsJ9_min_f86c9 : List Cond := .code yJ9_min_f86c9 cJ9_min_f86c9 4 (some .long) :: ([])
def wsL_share : List Cond := .codeWith yL_share cL_share 3 (some .int) [(0, 7, 10, 13)] :: ([.classLink RL 13 "java/lang/ArithmeticException", .methodLink RL 7 yX3_share, .instanceMethod yX3_share, .selects RX3 yX3_share yX3_share, .initialized RX3, .code yX3_share cX3_share 2 (some .long), .classLink RX3 181 "java/lang/ArithmeticException", .initialized "java/lang/ArithmeticException", .fieldLink RX3 44 "JoinBlocks" "depth" "I", .constantLong RX3 175 (-9223372036854775808), .fieldLink RX3 25 "JoinBlocks" "stack" "[LJoinBlocks$ScoredSet;", .fieldLink RX3 140 "JoinBlocks$ScoredSet" "size" "I", .constantLong RX3 188 (1000)] ++ wsX30 ++ wsX20 ++ (vx_atS RX3 185 "java/lang/ArithmeticException" ["java/lang/RuntimeException", "java/lang/Exception"]).filter goodWord)
theorem inJ6 : ∀ w ∈ wsJ60, w ∈ lw_tbl := by decide +kernel
theorem inJ9 : ∀ w ∈ wsJ90, w ∈ lw_tbl := by decide +kernel
theorem inJ0 : ∀ w ∈ wsJ00, w ∈ lw_tbl := by decide +kernel
theorem inJ10 : ∀ w ∈ wsJ100, w ∈ lw_tbl := by decide +kernel
theorem dX0_init_0 : decode cX0_init 0 = .ok (.aload_n 0, 1) := by decide +kernel
theorem dX0_init_1 : decode cX0_init 1 = .ok (.invokespecial 3, 3) := by decide +kernel
theorem dX0_init_4 : decode cX0_init 4 = .ok (.aload_n 0, 1) := by decide +kernel
theorem dX0_init_5 : decode cX0_init 5 = .ok (.sipush 200, 3) := by decide +kernel
theorem dX0_init_8 : decode cX0_init 8 = .ok (.newarray .int, 2) := by decide +kernel
theorem dX0_init_10 : decode cX0_init 10 = .ok (.putfield 9, 3) := by decide +kernel
theorem dX0_init_13 : decode cX0_init 13 = .ok (.aload_n 0, 1) := by decide +kernel
theorem dX0_init_14 : decode cX0_init 14 = .ok (.sipush 200, 3) := by decide +kernel
theorem dX0_init_17 : decode cX0_init 17 = .ok (.newarray .int, 2) := by decide +kernel
theorem dX0_init_19 : decode cX0_init 19 = .ok (.putfield 15, 3) := by decide +kernel
theorem dX0_init_22 : decode cX0_init 22 = .ok (.aload_n 0, 1) := by decide +kernel
theorem dX0_init_23 : decode cX0_init 23 = .ok (.iconst 0, 1) := by decide +kernel
theorem dX0_init_24 : decode cX0_init 24 = .ok (.putfield 18, 3) := by decide +kernel
theorem dX0_init_27 : decode cX0_init 27 = .ok (.return_, 1) := by decide +kernel
set_option maxRecDepth 20000 in
theorem ggX0_rank_X2_has : GoodIn wsX0_rank wsX2_has := goodIn_r _ [7, 8, 31, 32, 33] (by decide +kernel) (by decide +kernel)
set_option maxRecDepth 20000 in
theorem gX0_rank_X2_has : GoodIn wsX0_rank (wsV RX0 22 RX2 yX2_has wsX2_has) := goodIn_app (goodIn_of _ (by decide +kernel)) ggX0_rank_X2_has
set_option maxRecDepth 20000 in
theorem ggX0_rank_X0_mergeRuns : GoodIn wsX0_rank wsX0_mergeRuns := goodIn_r _ [13, 1, 14, 15, 16, 17, 18, 2, 19, 20, 21, 22, 23, 24, 25, 12, 26, 27, 28, 29, 30, 31, 32, 33] (by decide +kernel) (by decide +kernel)
set_option maxRecDepth 20000 in
theorem gX0_rank_X0_mergeRuns : GoodIn wsX0_rank (wsV RX0 28 RX0 yX0_mergeRuns wsX0_mergeRuns) := goodIn_app (goodIn_of _ (by decide +kernel)) ggX0_rank_X0_mergeRuns
theorem dX0_rank_0 : decode cX0_rank 0 = .ok (.aload_n 0, 1) := by decide +kernel
theorem dX0_rank_1 : decode cX0_rank 1 = .ok (.iconst 0, 1) := by decide +kernel
theorem dX0_rank_2 : decode cX0_rank 2 = .ok (.putfield 18, 3) := by decide +kernel
theorem dX0_rank_5 : decode cX0_rank 5 = .ok (.iload_n 2, 1) := by decide +kernel
theorem dX0_rank_6 : decode cX0_rank 6 = .ok (.istore 4, 2) := by decide +kernel
theorem dX0_rank_8 : decode cX0_rank 8 = .ok (.iload 4, 2) := by decide +kernel
theorem dX0_rank_10 : decode cX0_rank 10 = .ok (.iload_n 3, 1) := by decide +kernel
theorem dX0_rank_11 : decode cX0_rank 11 = .ok (.if_icmp .ge 39, 3) := by decide +kernel
theorem dX0_rank_14 : decode cX0_rank 14 = .ok (.aload_n 1, 1) := by decide +kernel
theorem dX0_rank_15 : decode cX0_rank 15 = .ok (.iload 4, 2) := by decide +kernel
theorem dX0_rank_17 : decode cX0_rank 17 = .ok (.invokevirtual 22, 3) := by decide +kernel
theorem dX0_rank_20 : decode cX0_rank 20 = .ok (.ifCond .eq 24, 3) := by decide +kernel
theorem dX0_rank_23 : decode cX0_rank 23 = .ok (.aload_n 0, 1) := by decide +kernel
theorem dX0_rank_24 : decode cX0_rank 24 = .ok (.getfield 9, 3) := by decide +kernel
theorem dX0_rank_27 : decode cX0_rank 27 = .ok (.aload_n 0, 1) := by decide +kernel
theorem dX0_rank_28 : decode cX0_rank 28 = .ok (.getfield 18, 3) := by decide +kernel
theorem dX0_rank_31 : decode cX0_rank 31 = .ok (.iload 4, 2) := by decide +kernel
theorem dX0_rank_33 : decode cX0_rank 33 = .ok (.iastore, 1) := by decide +kernel
theorem dX0_rank_34 : decode cX0_rank 34 = .ok (.aload_n 0, 1) := by decide +kernel
theorem dX0_rank_35 : decode cX0_rank 35 = .ok (.dup, 1) := by decide +kernel
theorem dX0_rank_36 : decode cX0_rank 36 = .ok (.getfield 18, 3) := by decide +kernel
theorem dX0_rank_39 : decode cX0_rank 39 = .ok (.iconst 1, 1) := by decide +kernel
theorem dX0_rank_40 : decode cX0_rank 40 = .ok (.iadd, 1) := by decide +kernel
theorem dX0_rank_41 : decode cX0_rank 41 = .ok (.putfield 18, 3) := by decide +kernel
theorem dX0_rank_44 : decode cX0_rank 44 = .ok (.iinc 4 1, 3) := by decide +kernel
theorem dX0_rank_47 : decode cX0_rank 47 = .ok (.goto (-39), 3) := by decide +kernel
theorem dX0_rank_50 : decode cX0_rank 50 = .ok (.iconst 1, 1) := by decide +kernel
theorem dX0_rank_51 : decode cX0_rank 51 = .ok (.istore 4, 2) := by decide +kernel
theorem dX0_rank_53 : decode cX0_rank 53 = .ok (.iload 4, 2) := by decide +kernel
theorem dX0_rank_55 : decode cX0_rank 55 = .ok (.aload_n 0, 1) := by decide +kernel
theorem dX0_rank_56 : decode cX0_rank 56 = .ok (.getfield 18, 3) := by decide +kernel
theorem dX0_rank_59 : decode cX0_rank 59 = .ok (.if_icmp .ge 19, 3) := by decide +kernel
theorem dX0_rank_62 : decode cX0_rank 62 = .ok (.aload_n 0, 1) := by decide +kernel
theorem dX0_rank_63 : decode cX0_rank 63 = .ok (.aload_n 1, 1) := by decide +kernel
theorem dX0_rank_64 : decode cX0_rank 64 = .ok (.iload 4, 2) := by decide +kernel
theorem dX0_rank_66 : decode cX0_rank 66 = .ok (.invokevirtual 28, 3) := by decide +kernel
theorem dX0_rank_69 : decode cX0_rank 69 = .ok (.iload 4, 2) := by decide +kernel
theorem dX0_rank_71 : decode cX0_rank 71 = .ok (.iconst 2, 1) := by decide +kernel
theorem dX0_rank_72 : decode cX0_rank 72 = .ok (.imul, 1) := by decide +kernel
theorem dX0_rank_73 : decode cX0_rank 73 = .ok (.istore 4, 2) := by decide +kernel
theorem dX0_rank_75 : decode cX0_rank 75 = .ok (.goto (-22), 3) := by decide +kernel
theorem dX0_rank_78 : decode cX0_rank 78 = .ok (.return_, 1) := by decide +kernel
set_option maxRecDepth 20000 in
theorem ggX0_mergeRuns_X0_mergeTwo : GoodIn wsX0_mergeRuns wsX0_mergeTwo := goodIn_r _ [16, 17, 7, 6, 21, 22, 23, 18, 19, 20] (by decide +kernel) (by decide +kernel)
set_option maxRecDepth 20000 in
theorem gX0_mergeRuns_X0_mergeTwo : GoodIn wsX0_mergeRuns (wsV RX0 38 RX0 yX0_mergeTwo wsX0_mergeTwo) := goodIn_app (goodIn_of _ (by decide +kernel)) ggX0_mergeRuns_X0_mergeTwo
theorem dX0_mergeRuns_0 : decode cX0_mergeRuns 0 = .ok (.iconst 0, 1) := by decide +kernel
theorem dX0_mergeRuns_1 : decode cX0_mergeRuns 1 = .ok (.istore_n 3, 1) := by decide +kernel
theorem dX0_mergeRuns_2 : decode cX0_mergeRuns 2 = .ok (.iload_n 3, 1) := by decide +kernel
theorem dX0_mergeRuns_3 : decode cX0_mergeRuns 3 = .ok (.aload_n 0, 1) := by decide +kernel
theorem dX0_mergeRuns_4 : decode cX0_mergeRuns 4 = .ok (.getfield 18, 3) := by decide +kernel
theorem dX0_mergeRuns_7 : decode cX0_mergeRuns 7 = .ok (.if_icmp .ge 48, 3) := by decide +kernel
theorem dX0_mergeRuns_10 : decode cX0_mergeRuns 10 = .ok (.iload_n 3, 1) := by decide +kernel
theorem dX0_mergeRuns_11 : decode cX0_mergeRuns 11 = .ok (.iload_n 2, 1) := by decide +kernel
theorem dX0_mergeRuns_12 : decode cX0_mergeRuns 12 = .ok (.iadd, 1) := by decide +kernel
theorem dX0_mergeRuns_13 : decode cX0_mergeRuns 13 = .ok (.aload_n 0, 1) := by decide +kernel
theorem dX0_mergeRuns_14 : decode cX0_mergeRuns 14 = .ok (.getfield 18, 3) := by decide +kernel
theorem dX0_mergeRuns_17 : decode cX0_mergeRuns 17 = .ok (.invokestatic 32, 3) := by decide +kernel
theorem dX0_mergeRuns_20 : decode cX0_mergeRuns 20 = .ok (.istore 4, 2) := by decide +kernel
theorem dX0_mergeRuns_22 : decode cX0_mergeRuns 22 = .ok (.iload_n 3, 1) := by decide +kernel
theorem dX0_mergeRuns_23 : decode cX0_mergeRuns 23 = .ok (.iconst 2, 1) := by decide +kernel
theorem dX0_mergeRuns_24 : decode cX0_mergeRuns 24 = .ok (.iload_n 2, 1) := by decide +kernel
theorem dX0_mergeRuns_25 : decode cX0_mergeRuns 25 = .ok (.imul, 1) := by decide +kernel
theorem dX0_mergeRuns_26 : decode cX0_mergeRuns 26 = .ok (.iadd, 1) := by decide +kernel
theorem dX0_mergeRuns_27 : decode cX0_mergeRuns 27 = .ok (.aload_n 0, 1) := by decide +kernel
theorem dX0_mergeRuns_28 : decode cX0_mergeRuns 28 = .ok (.getfield 18, 3) := by decide +kernel
theorem dX0_mergeRuns_31 : decode cX0_mergeRuns 31 = .ok (.invokestatic 32, 3) := by decide +kernel
theorem dX0_mergeRuns_34 : decode cX0_mergeRuns 34 = .ok (.istore 5, 2) := by decide +kernel
theorem dX0_mergeRuns_36 : decode cX0_mergeRuns 36 = .ok (.aload_n 0, 1) := by decide +kernel
theorem dX0_mergeRuns_37 : decode cX0_mergeRuns 37 = .ok (.aload_n 1, 1) := by decide +kernel
theorem dX0_mergeRuns_38 : decode cX0_mergeRuns 38 = .ok (.iload_n 3, 1) := by decide +kernel
theorem dX0_mergeRuns_39 : decode cX0_mergeRuns 39 = .ok (.iload 4, 2) := by decide +kernel
theorem dX0_mergeRuns_41 : decode cX0_mergeRuns 41 = .ok (.iload 5, 2) := by decide +kernel
theorem dX0_mergeRuns_43 : decode cX0_mergeRuns 43 = .ok (.invokevirtual 38, 3) := by decide +kernel
theorem dX0_mergeRuns_46 : decode cX0_mergeRuns 46 = .ok (.iload_n 3, 1) := by decide +kernel
theorem dX0_mergeRuns_47 : decode cX0_mergeRuns 47 = .ok (.iconst 2, 1) := by decide +kernel
theorem dX0_mergeRuns_48 : decode cX0_mergeRuns 48 = .ok (.iload_n 2, 1) := by decide +kernel
theorem dX0_mergeRuns_49 : decode cX0_mergeRuns 49 = .ok (.imul, 1) := by decide +kernel
theorem dX0_mergeRuns_50 : decode cX0_mergeRuns 50 = .ok (.iadd, 1) := by decide +kernel
theorem dX0_mergeRuns_51 : decode cX0_mergeRuns 51 = .ok (.istore_n 3, 1) := by decide +kernel
theorem dX0_mergeRuns_52 : decode cX0_mergeRuns 52 = .ok (.goto (-50), 3) := by decide +kernel
theorem dX0_mergeRuns_55 : decode cX0_mergeRuns 55 = .ok (.aload_n 0, 1) := by decide +kernel
theorem dX0_mergeRuns_56 : decode cX0_mergeRuns 56 = .ok (.getfield 15, 3) := by decide +kernel
theorem dX0_mergeRuns_59 : decode cX0_mergeRuns 59 = .ok (.iconst 0, 1) := by decide +kernel
theorem dX0_mergeRuns_60 : decode cX0_mergeRuns 60 = .ok (.aload_n 0, 1) := by decide +kernel
theorem dX0_mergeRuns_61 : decode cX0_mergeRuns 61 = .ok (.getfield 9, 3) := by decide +kernel
theorem dX0_mergeRuns_64 : decode cX0_mergeRuns 64 = .ok (.iconst 0, 1) := by decide +kernel
theorem dX0_mergeRuns_65 : decode cX0_mergeRuns 65 = .ok (.aload_n 0, 1) := by decide +kernel
theorem dX0_mergeRuns_66 : decode cX0_mergeRuns 66 = .ok (.getfield 18, 3) := by decide +kernel
theorem dX0_mergeRuns_69 : decode cX0_mergeRuns 69 = .ok (.invokestatic 42, 3) := by decide +kernel
theorem dX0_mergeRuns_72 : decode cX0_mergeRuns 72 = .ok (.return_, 1) := by decide +kernel
theorem dX0_mergeTwo_0 : decode cX0_mergeTwo 0 = .ok (.iload_n 2, 1) := by decide +kernel
theorem dX0_mergeTwo_1 : decode cX0_mergeTwo 1 = .ok (.istore 5, 2) := by decide +kernel
theorem dX0_mergeTwo_3 : decode cX0_mergeTwo 3 = .ok (.iload_n 3, 1) := by decide +kernel
theorem dX0_mergeTwo_4 : decode cX0_mergeTwo 4 = .ok (.istore 6, 2) := by decide +kernel
theorem dX0_mergeTwo_6 : decode cX0_mergeTwo 6 = .ok (.iload_n 2, 1) := by decide +kernel
theorem dX0_mergeTwo_7 : decode cX0_mergeTwo 7 = .ok (.istore 7, 2) := by decide +kernel
theorem dX0_mergeTwo_9 : decode cX0_mergeTwo 9 = .ok (.iload 7, 2) := by decide +kernel
theorem dX0_mergeTwo_11 : decode cX0_mergeTwo 11 = .ok (.iload 4, 2) := by decide +kernel
theorem dX0_mergeTwo_13 : decode cX0_mergeTwo 13 = .ok (.if_icmp .ge 100, 3) := by decide +kernel
theorem dX0_mergeTwo_16 : decode cX0_mergeTwo 16 = .ok (.iload 6, 2) := by decide +kernel
theorem dX0_mergeTwo_18 : decode cX0_mergeTwo 18 = .ok (.iload 4, 2) := by decide +kernel
theorem dX0_mergeTwo_20 : decode cX0_mergeTwo 20 = .ok (.if_icmp .ge 37, 3) := by decide +kernel
theorem dX0_mergeTwo_23 : decode cX0_mergeTwo 23 = .ok (.iload 5, 2) := by decide +kernel
theorem dX0_mergeTwo_25 : decode cX0_mergeTwo 25 = .ok (.iload_n 3, 1) := by decide +kernel
theorem dX0_mergeTwo_26 : decode cX0_mergeTwo 26 = .ok (.if_icmp .ge 35, 3) := by decide +kernel
theorem dX0_mergeTwo_29 : decode cX0_mergeTwo 29 = .ok (.aload_n 1, 1) := by decide +kernel
theorem dX0_mergeTwo_30 : decode cX0_mergeTwo 30 = .ok (.getfield 48, 3) := by decide +kernel
theorem dX0_mergeTwo_33 : decode cX0_mergeTwo 33 = .ok (.aload_n 0, 1) := by decide +kernel
theorem dX0_mergeTwo_34 : decode cX0_mergeTwo 34 = .ok (.getfield 9, 3) := by decide +kernel
theorem dX0_mergeTwo_37 : decode cX0_mergeTwo 37 = .ok (.iload 5, 2) := by decide +kernel
theorem dX0_mergeTwo_39 : decode cX0_mergeTwo 39 = .ok (.iaload, 1) := by decide +kernel
theorem dX0_mergeTwo_40 : decode cX0_mergeTwo 40 = .ok (.laload, 1) := by decide +kernel
theorem dX0_mergeTwo_41 : decode cX0_mergeTwo 41 = .ok (.aload_n 1, 1) := by decide +kernel
theorem dX0_mergeTwo_42 : decode cX0_mergeTwo 42 = .ok (.getfield 48, 3) := by decide +kernel
theorem dX0_mergeTwo_45 : decode cX0_mergeTwo 45 = .ok (.aload_n 0, 1) := by decide +kernel
theorem dX0_mergeTwo_46 : decode cX0_mergeTwo 46 = .ok (.getfield 9, 3) := by decide +kernel
theorem dX0_mergeTwo_49 : decode cX0_mergeTwo 49 = .ok (.iload 6, 2) := by decide +kernel
theorem dX0_mergeTwo_51 : decode cX0_mergeTwo 51 = .ok (.iaload, 1) := by decide +kernel
theorem dX0_mergeTwo_52 : decode cX0_mergeTwo 52 = .ok (.laload, 1) := by decide +kernel
theorem dX0_mergeTwo_53 : decode cX0_mergeTwo 53 = .ok (.lcmp, 1) := by decide +kernel
theorem dX0_mergeTwo_54 : decode cX0_mergeTwo 54 = .ok (.ifCond .lt 7, 3) := by decide +kernel
theorem dX0_mergeTwo_57 : decode cX0_mergeTwo 57 = .ok (.iconst 1, 1) := by decide +kernel
theorem dX0_mergeTwo_58 : decode cX0_mergeTwo 58 = .ok (.goto 4, 3) := by decide +kernel
theorem dX0_mergeTwo_61 : decode cX0_mergeTwo 61 = .ok (.iconst 0, 1) := by decide +kernel
theorem dX0_mergeTwo_62 : decode cX0_mergeTwo 62 = .ok (.istore 8, 2) := by decide +kernel
theorem dX0_mergeTwo_64 : decode cX0_mergeTwo 64 = .ok (.aload_n 0, 1) := by decide +kernel
theorem dX0_mergeTwo_65 : decode cX0_mergeTwo 65 = .ok (.getfield 15, 3) := by decide +kernel
theorem dX0_mergeTwo_68 : decode cX0_mergeTwo 68 = .ok (.iload 7, 2) := by decide +kernel
theorem dX0_mergeTwo_70 : decode cX0_mergeTwo 70 = .ok (.iload 8, 2) := by decide +kernel
theorem dX0_mergeTwo_72 : decode cX0_mergeTwo 72 = .ok (.ifCond .eq 13, 3) := by decide +kernel
theorem dX0_mergeTwo_75 : decode cX0_mergeTwo 75 = .ok (.aload_n 0, 1) := by decide +kernel
theorem dX0_mergeTwo_76 : decode cX0_mergeTwo 76 = .ok (.getfield 9, 3) := by decide +kernel
theorem dX0_mergeTwo_79 : decode cX0_mergeTwo 79 = .ok (.iload 5, 2) := by decide +kernel
theorem dX0_mergeTwo_81 : decode cX0_mergeTwo 81 = .ok (.iaload, 1) := by decide +kernel
theorem dX0_mergeTwo_82 : decode cX0_mergeTwo 82 = .ok (.goto 10, 3) := by decide +kernel
theorem dX0_mergeTwo_85 : decode cX0_mergeTwo 85 = .ok (.aload_n 0, 1) := by decide +kernel
theorem dX0_mergeTwo_86 : decode cX0_mergeTwo 86 = .ok (.getfield 9, 3) := by decide +kernel
theorem dX0_mergeTwo_89 : decode cX0_mergeTwo 89 = .ok (.iload 6, 2) := by decide +kernel
theorem dX0_mergeTwo_91 : decode cX0_mergeTwo 91 = .ok (.iaload, 1) := by decide +kernel
theorem dX0_mergeTwo_92 : decode cX0_mergeTwo 92 = .ok (.iastore, 1) := by decide +kernel
theorem dX0_mergeTwo_93 : decode cX0_mergeTwo 93 = .ok (.iload 8, 2) := by decide +kernel
theorem dX0_mergeTwo_95 : decode cX0_mergeTwo 95 = .ok (.ifCond .eq 9, 3) := by decide +kernel
theorem dX0_mergeTwo_98 : decode cX0_mergeTwo 98 = .ok (.iinc 5 1, 3) := by decide +kernel
theorem dX0_mergeTwo_101 : decode cX0_mergeTwo 101 = .ok (.goto 6, 3) := by decide +kernel
theorem dX0_mergeTwo_104 : decode cX0_mergeTwo 104 = .ok (.iinc 6 1, 3) := by decide +kernel
theorem dX0_mergeTwo_107 : decode cX0_mergeTwo 107 = .ok (.iinc 7 1, 3) := by decide +kernel
theorem dX0_mergeTwo_110 : decode cX0_mergeTwo 110 = .ok (.goto (-101), 3) := by decide +kernel
theorem dX0_mergeTwo_113 : decode cX0_mergeTwo 113 = .ok (.return_, 1) := by decide +kernel
theorem dX1_init_0 : decode cX1_init 0 = .ok (.aload_n 0, 1) := by decide +kernel
theorem dX1_init_1 : decode cX1_init 1 = .ok (.invokespecial 3, 3) := by decide +kernel
theorem dX1_init_4 : decode cX1_init 4 = .ok (.aload_n 0, 1) := by decide +kernel
theorem dX1_init_5 : decode cX1_init 5 = .ok (.iload_n 1, 1) := by decide +kernel
theorem dX1_init_6 : decode cX1_init 6 = .ok (.newarray .int, 2) := by decide +kernel
theorem dX1_init_8 : decode cX1_init 8 = .ok (.putfield 9, 3) := by decide +kernel
theorem dX1_init_11 : decode cX1_init 11 = .ok (.aload_n 0, 1) := by decide +kernel
theorem dX1_init_12 : decode cX1_init 12 = .ok (.iload_n 1, 1) := by decide +kernel
theorem dX1_init_13 : decode cX1_init 13 = .ok (.newarray .int, 2) := by decide +kernel
theorem dX1_init_15 : decode cX1_init 15 = .ok (.putfield 15, 3) := by decide +kernel
theorem dX1_init_18 : decode cX1_init 18 = .ok (.aload_n 0, 1) := by decide +kernel
theorem dX1_init_19 : decode cX1_init 19 = .ok (.iload_n 1, 1) := by decide +kernel
theorem dX1_init_20 : decode cX1_init 20 = .ok (.newarray .int, 2) := by decide +kernel
theorem dX1_init_22 : decode cX1_init 22 = .ok (.putfield 18, 3) := by decide +kernel
theorem dX1_init_25 : decode cX1_init 25 = .ok (.aload_n 0, 1) := by decide +kernel
theorem dX1_init_26 : decode cX1_init 26 = .ok (.iload_n 1, 1) := by decide +kernel
theorem dX1_init_27 : decode cX1_init 27 = .ok (.newarray .int, 2) := by decide +kernel
theorem dX1_init_29 : decode cX1_init 29 = .ok (.putfield 21, 3) := by decide +kernel
theorem dX1_init_32 : decode cX1_init 32 = .ok (.aload_n 0, 1) := by decide +kernel
theorem dX1_init_33 : decode cX1_init 33 = .ok (.iload_n 1, 1) := by decide +kernel
theorem dX1_init_34 : decode cX1_init 34 = .ok (.newarray .int, 2) := by decide +kernel
theorem dX1_init_36 : decode cX1_init 36 = .ok (.putfield 24, 3) := by decide +kernel
theorem dX1_init_39 : decode cX1_init 39 = .ok (.aload_n 0, 1) := by decide +kernel
theorem dX1_init_40 : decode cX1_init 40 = .ok (.iload_n 1, 1) := by decide +kernel
theorem dX1_init_41 : decode cX1_init 41 = .ok (.newarray .boolean, 2) := by decide +kernel
theorem dX1_init_43 : decode cX1_init 43 = .ok (.putfield 27, 3) := by decide +kernel
theorem dX1_init_46 : decode cX1_init 46 = .ok (.aload_n 0, 1) := by decide +kernel
theorem dX1_init_47 : decode cX1_init 47 = .ok (.iconst 0, 1) := by decide +kernel
theorem dX1_init_48 : decode cX1_init 48 = .ok (.putfield 31, 3) := by decide +kernel
theorem dX1_init_51 : decode cX1_init 51 = .ok (.return_, 1) := by decide +kernel
theorem dX1_holds_0 : decode cX1_holds 0 = .ok (.iload_n 1, 1) := by decide +kernel
theorem dX1_holds_1 : decode cX1_holds 1 = .ok (.ifCond .lt 15, 3) := by decide +kernel
theorem dX1_holds_4 : decode cX1_holds 4 = .ok (.iload_n 1, 1) := by decide +kernel
theorem dX1_holds_5 : decode cX1_holds 5 = .ok (.aload_n 0, 1) := by decide +kernel
theorem dX1_holds_6 : decode cX1_holds 6 = .ok (.getfield 31, 3) := by decide +kernel
theorem dX1_holds_9 : decode cX1_holds 9 = .ok (.if_icmp .ge 7, 3) := by decide +kernel
theorem dX1_holds_12 : decode cX1_holds 12 = .ok (.iconst 1, 1) := by decide +kernel
theorem dX1_holds_13 : decode cX1_holds 13 = .ok (.goto 4, 3) := by decide +kernel
theorem dX1_holds_16 : decode cX1_holds 16 = .ok (.iconst 0, 1) := by decide +kernel
theorem dX1_holds_17 : decode cX1_holds 17 = .ok (.ireturn, 1) := by decide +kernel
theorem dX1_isRoot_0 : decode cX1_isRoot 0 = .ok (.aload_n 0, 1) := by decide +kernel
theorem dX1_isRoot_1 : decode cX1_isRoot 1 = .ok (.getfield 9, 3) := by decide +kernel
theorem dX1_isRoot_4 : decode cX1_isRoot 4 = .ok (.iload_n 1, 1) := by decide +kernel
theorem dX1_isRoot_5 : decode cX1_isRoot 5 = .ok (.iaload, 1) := by decide +kernel
theorem dX1_isRoot_6 : decode cX1_isRoot 6 = .ok (.iconst 2, 1) := by decide +kernel
theorem dX1_isRoot_7 : decode cX1_isRoot 7 = .ok (.if_icmp .ne 7, 3) := by decide +kernel
theorem dX1_isRoot_10 : decode cX1_isRoot 10 = .ok (.iconst 1, 1) := by decide +kernel
theorem dX1_isRoot_11 : decode cX1_isRoot 11 = .ok (.goto 4, 3) := by decide +kernel
theorem dX1_isRoot_14 : decode cX1_isRoot 14 = .ok (.iconst 0, 1) := by decide +kernel
theorem dX1_isRoot_15 : decode cX1_isRoot 15 = .ok (.ireturn, 1) := by decide +kernel
theorem dX1_append_0 : decode cX1_append 0 = .ok (.aload_n 0, 1) := by decide +kernel
theorem dX1_append_1 : decode cX1_append 1 = .ok (.getfield 9, 3) := by decide +kernel
theorem dX1_append_4 : decode cX1_append 4 = .ok (.aload_n 0, 1) := by decide +kernel
theorem dX1_append_5 : decode cX1_append 5 = .ok (.getfield 31, 3) := by decide +kernel
theorem dX1_append_8 : decode cX1_append 8 = .ok (.iload_n 1, 1) := by decide +kernel
theorem dX1_append_9 : decode cX1_append 9 = .ok (.iastore, 1) := by decide +kernel
theorem dX1_append_10 : decode cX1_append 10 = .ok (.aload_n 0, 1) := by decide +kernel
theorem dX1_append_11 : decode cX1_append 11 = .ok (.getfield 15, 3) := by decide +kernel
theorem dX1_append_14 : decode cX1_append 14 = .ok (.aload_n 0, 1) := by decide +kernel
theorem dX1_append_15 : decode cX1_append 15 = .ok (.getfield 31, 3) := by decide +kernel
theorem dX1_append_18 : decode cX1_append 18 = .ok (.iload_n 2, 1) := by decide +kernel
theorem dX1_append_19 : decode cX1_append 19 = .ok (.iastore, 1) := by decide +kernel
theorem dX1_append_20 : decode cX1_append 20 = .ok (.aload_n 0, 1) := by decide +kernel
theorem dX1_append_21 : decode cX1_append 21 = .ok (.getfield 18, 3) := by decide +kernel
theorem dX1_append_24 : decode cX1_append 24 = .ok (.aload_n 0, 1) := by decide +kernel
theorem dX1_append_25 : decode cX1_append 25 = .ok (.getfield 31, 3) := by decide +kernel
theorem dX1_append_28 : decode cX1_append 28 = .ok (.iload_n 3, 1) := by decide +kernel
theorem dX1_append_29 : decode cX1_append 29 = .ok (.iastore, 1) := by decide +kernel
theorem dX1_append_30 : decode cX1_append 30 = .ok (.aload_n 0, 1) := by decide +kernel
theorem dX1_append_31 : decode cX1_append 31 = .ok (.getfield 21, 3) := by decide +kernel
theorem dX1_append_34 : decode cX1_append 34 = .ok (.aload_n 0, 1) := by decide +kernel
theorem dX1_append_35 : decode cX1_append 35 = .ok (.getfield 31, 3) := by decide +kernel
theorem dX1_append_38 : decode cX1_append 38 = .ok (.iload 4, 2) := by decide +kernel
theorem dX1_append_40 : decode cX1_append 40 = .ok (.iastore, 1) := by decide +kernel
theorem dX1_append_41 : decode cX1_append 41 = .ok (.aload_n 0, 1) := by decide +kernel
end
section
theorem dX1_append_42 : decode cX1_append 42 = .ok (.getfield 24, 3) := by decide +kernel
theorem dX1_append_45 : decode cX1_append 45 = .ok (.aload_n 0, 1) := by decide +kernel
theorem dX1_append_46 : decode cX1_append 46 = .ok (.getfield 31, 3) := by decide +kernel
theorem dX1_append_49 : decode cX1_append 49 = .ok (.iload 5, 2) := by decide +kernel
theorem dX1_append_51 : decode cX1_append 51 = .ok (.iastore, 1) := by decide +kernel
theorem dX1_append_52 : decode cX1_append 52 = .ok (.aload_n 0, 1) := by decide +kernel
theorem dX1_append_53 : decode cX1_append 53 = .ok (.getfield 27, 3) := by decide +kernel
theorem dX1_append_56 : decode cX1_append 56 = .ok (.aload_n 0, 1) := by decide +kernel
theorem dX1_append_57 : decode cX1_append 57 = .ok (.getfield 31, 3) := by decide +kernel
theorem dX1_append_60 : decode cX1_append 60 = .ok (.iconst 1, 1) := by decide +kernel
theorem dX1_append_61 : decode cX1_append 61 = .ok (.bastore, 1) := by decide +kernel
theorem dX1_append_62 : decode cX1_append 62 = .ok (.aload_n 0, 1) := by decide +kernel
theorem dX1_append_63 : decode cX1_append 63 = .ok (.dup, 1) := by decide +kernel
theorem dX1_append_64 : decode cX1_append 64 = .ok (.getfield 31, 3) := by decide +kernel
theorem dX1_append_67 : decode cX1_append 67 = .ok (.iconst 1, 1) := by decide +kernel
theorem dX1_append_68 : decode cX1_append 68 = .ok (.iadd, 1) := by decide +kernel
theorem dX1_append_69 : decode cX1_append 69 = .ok (.putfield 31, 3) := by decide +kernel
theorem dX1_append_72 : decode cX1_append 72 = .ok (.return_, 1) := by decide +kernel
set_option maxRecDepth 20000 in
theorem ggX1_appendFrom_X1_append : GoodIn wsX1_appendFrom wsX1_append := goodIn_r _ [10, 1, 11, 2, 3, 4, 5, 12, 13, 14, 15, 16, 17, 18, 19] (by decide +kernel) (by decide +kernel)
set_option maxRecDepth 20000 in
theorem gX1_appendFrom_X1_append : GoodIn wsX1_appendFrom (wsV RX1 35 RX1 yX1_append wsX1_append) := goodIn_app (goodIn_of _ (by decide +kernel)) ggX1_appendFrom_X1_append
theorem dX1_appendFrom_0 : decode cX1_appendFrom 0 = .ok (.aload_n 0, 1) := by decide +kernel
theorem dX1_appendFrom_1 : decode cX1_appendFrom 1 = .ok (.aload_n 1, 1) := by decide +kernel
theorem dX1_appendFrom_2 : decode cX1_appendFrom 2 = .ok (.getfield 9, 3) := by decide +kernel
theorem dX1_appendFrom_5 : decode cX1_appendFrom 5 = .ok (.iload_n 2, 1) := by decide +kernel
theorem dX1_appendFrom_6 : decode cX1_appendFrom 6 = .ok (.iaload, 1) := by decide +kernel
theorem dX1_appendFrom_7 : decode cX1_appendFrom 7 = .ok (.aload_n 1, 1) := by decide +kernel
theorem dX1_appendFrom_8 : decode cX1_appendFrom 8 = .ok (.getfield 15, 3) := by decide +kernel
theorem dX1_appendFrom_11 : decode cX1_appendFrom 11 = .ok (.iload_n 2, 1) := by decide +kernel
theorem dX1_appendFrom_12 : decode cX1_appendFrom 12 = .ok (.iaload, 1) := by decide +kernel
theorem dX1_appendFrom_13 : decode cX1_appendFrom 13 = .ok (.aload_n 1, 1) := by decide +kernel
theorem dX1_appendFrom_14 : decode cX1_appendFrom 14 = .ok (.getfield 18, 3) := by decide +kernel
theorem dX1_appendFrom_17 : decode cX1_appendFrom 17 = .ok (.iload_n 2, 1) := by decide +kernel
theorem dX1_appendFrom_18 : decode cX1_appendFrom 18 = .ok (.iaload, 1) := by decide +kernel
theorem dX1_appendFrom_19 : decode cX1_appendFrom 19 = .ok (.aload_n 1, 1) := by decide +kernel
theorem dX1_appendFrom_20 : decode cX1_appendFrom 20 = .ok (.getfield 21, 3) := by decide +kernel
theorem dX1_appendFrom_23 : decode cX1_appendFrom 23 = .ok (.iload_n 2, 1) := by decide +kernel
theorem dX1_appendFrom_24 : decode cX1_appendFrom 24 = .ok (.iaload, 1) := by decide +kernel
theorem dX1_appendFrom_25 : decode cX1_appendFrom 25 = .ok (.aload_n 1, 1) := by decide +kernel
theorem dX1_appendFrom_26 : decode cX1_appendFrom 26 = .ok (.getfield 24, 3) := by decide +kernel
theorem dX1_appendFrom_29 : decode cX1_appendFrom 29 = .ok (.iload_n 2, 1) := by decide +kernel
theorem dX1_appendFrom_30 : decode cX1_appendFrom 30 = .ok (.iaload, 1) := by decide +kernel
theorem dX1_appendFrom_31 : decode cX1_appendFrom 31 = .ok (.invokevirtual 35, 3) := by decide +kernel
theorem dX1_appendFrom_34 : decode cX1_appendFrom 34 = .ok (.return_, 1) := by decide +kernel
set_option maxRecDepth 20000 in
theorem ggX1_appendAll_X1_appendFrom : GoodIn wsX1_appendAll wsX1_appendFrom := goodIn_r _ [6, 7, 8, 9, 10, 11, 12, 13, 14, 5, 15, 1, 16, 17, 18, 19, 20, 21, 22, 23] (by decide +kernel) (by decide +kernel)
set_option maxRecDepth 20000 in
theorem gX1_appendAll_X1_appendFrom : GoodIn wsX1_appendAll (wsV RX1 39 RX1 yX1_appendFrom wsX1_appendFrom) := goodIn_app (goodIn_of _ (by decide +kernel)) ggX1_appendAll_X1_appendFrom
theorem dX1_appendAll_0 : decode cX1_appendAll 0 = .ok (.iconst 0, 1) := by decide +kernel
theorem dX1_appendAll_1 : decode cX1_appendAll 1 = .ok (.istore_n 2, 1) := by decide +kernel
theorem dX1_appendAll_2 : decode cX1_appendAll 2 = .ok (.iload_n 2, 1) := by decide +kernel
theorem dX1_appendAll_3 : decode cX1_appendAll 3 = .ok (.aload_n 1, 1) := by decide +kernel
theorem dX1_appendAll_4 : decode cX1_appendAll 4 = .ok (.getfield 31, 3) := by decide +kernel
theorem dX1_appendAll_7 : decode cX1_appendAll 7 = .ok (.if_icmp .ge 15, 3) := by decide +kernel
theorem dX1_appendAll_10 : decode cX1_appendAll 10 = .ok (.aload_n 0, 1) := by decide +kernel
theorem dX1_appendAll_11 : decode cX1_appendAll 11 = .ok (.aload_n 1, 1) := by decide +kernel
theorem dX1_appendAll_12 : decode cX1_appendAll 12 = .ok (.iload_n 2, 1) := by decide +kernel
theorem dX1_appendAll_13 : decode cX1_appendAll 13 = .ok (.invokevirtual 39, 3) := by decide +kernel
theorem dX1_appendAll_16 : decode cX1_appendAll 16 = .ok (.iinc 2 1, 3) := by decide +kernel
theorem dX1_appendAll_19 : decode cX1_appendAll 19 = .ok (.goto (-17), 3) := by decide +kernel
theorem dX1_appendAll_22 : decode cX1_appendAll 22 = .ok (.return_, 1) := by decide +kernel
set_option maxRecDepth 20000 in
theorem ggX1_keepLiving_X1_appendFrom : GoodIn wsX1_keepLiving wsX1_appendFrom := goodIn_r _ [7, 8, 9, 10, 11, 12, 13, 14, 15, 6, 16, 1, 2, 17, 18, 19, 20, 21, 22, 23] (by decide +kernel) (by decide +kernel)
set_option maxRecDepth 20000 in
theorem gX1_keepLiving_X1_appendFrom : GoodIn wsX1_keepLiving (wsV RX1 39 RX1 yX1_appendFrom wsX1_appendFrom) := goodIn_app (goodIn_of _ (by decide +kernel)) ggX1_keepLiving_X1_appendFrom
theorem dX1_keepLiving_0 : decode cX1_keepLiving 0 = .ok (.aload_n 0, 1) := by decide +kernel
theorem dX1_keepLiving_1 : decode cX1_keepLiving 1 = .ok (.getfield 31, 3) := by decide +kernel
theorem dX1_keepLiving_4 : decode cX1_keepLiving 4 = .ok (.istore_n 1, 1) := by decide +kernel
theorem dX1_keepLiving_5 : decode cX1_keepLiving 5 = .ok (.aload_n 0, 1) := by decide +kernel
theorem dX1_keepLiving_6 : decode cX1_keepLiving 6 = .ok (.iconst 0, 1) := by decide +kernel
theorem dX1_keepLiving_7 : decode cX1_keepLiving 7 = .ok (.putfield 31, 3) := by decide +kernel
theorem dX1_keepLiving_10 : decode cX1_keepLiving 10 = .ok (.iconst 0, 1) := by decide +kernel
theorem dX1_keepLiving_11 : decode cX1_keepLiving 11 = .ok (.istore_n 2, 1) := by decide +kernel
theorem dX1_keepLiving_12 : decode cX1_keepLiving 12 = .ok (.iload_n 2, 1) := by decide +kernel
theorem dX1_keepLiving_13 : decode cX1_keepLiving 13 = .ok (.iload_n 1, 1) := by decide +kernel
theorem dX1_keepLiving_14 : decode cX1_keepLiving 14 = .ok (.if_icmp .ge 24, 3) := by decide +kernel
theorem dX1_keepLiving_17 : decode cX1_keepLiving 17 = .ok (.aload_n 0, 1) := by decide +kernel
theorem dX1_keepLiving_18 : decode cX1_keepLiving 18 = .ok (.getfield 27, 3) := by decide +kernel
theorem dX1_keepLiving_21 : decode cX1_keepLiving 21 = .ok (.iload_n 2, 1) := by decide +kernel
theorem dX1_keepLiving_22 : decode cX1_keepLiving 22 = .ok (.baload, 1) := by decide +kernel
theorem dX1_keepLiving_23 : decode cX1_keepLiving 23 = .ok (.ifCond .eq 9, 3) := by decide +kernel
theorem dX1_keepLiving_26 : decode cX1_keepLiving 26 = .ok (.aload_n 0, 1) := by decide +kernel
theorem dX1_keepLiving_27 : decode cX1_keepLiving 27 = .ok (.aload_n 0, 1) := by decide +kernel
theorem dX1_keepLiving_28 : decode cX1_keepLiving 28 = .ok (.iload_n 2, 1) := by decide +kernel
theorem dX1_keepLiving_29 : decode cX1_keepLiving 29 = .ok (.invokevirtual 39, 3) := by decide +kernel
theorem dX1_keepLiving_32 : decode cX1_keepLiving 32 = .ok (.iinc 2 1, 3) := by decide +kernel
theorem dX1_keepLiving_35 : decode cX1_keepLiving 35 = .ok (.goto (-23), 3) := by decide +kernel
theorem dX1_keepLiving_38 : decode cX1_keepLiving 38 = .ok (.return_, 1) := by decide +kernel
set_option maxRecDepth 20000 in
theorem ggX1_livingRoot_X1_isRoot : GoodIn wsX1_livingRoot wsX1_isRoot := goodIn_r _ [8, 9, 10, 11, 12, 13, 14, 15, 16] (by decide +kernel) (by decide +kernel)
set_option maxRecDepth 20000 in
theorem gX1_livingRoot_X1_isRoot : GoodIn wsX1_livingRoot (wsV RX1 43 RX1 yX1_isRoot wsX1_isRoot) := goodIn_app (goodIn_of _ (by decide +kernel)) ggX1_livingRoot_X1_isRoot
theorem dX1_livingRoot_0 : decode cX1_livingRoot 0 = .ok (.iconst 0, 1) := by decide +kernel
theorem dX1_livingRoot_1 : decode cX1_livingRoot 1 = .ok (.istore_n 2, 1) := by decide +kernel
theorem dX1_livingRoot_2 : decode cX1_livingRoot 2 = .ok (.iload_n 2, 1) := by decide +kernel
theorem dX1_livingRoot_3 : decode cX1_livingRoot 3 = .ok (.aload_n 0, 1) := by decide +kernel
theorem dX1_livingRoot_4 : decode cX1_livingRoot 4 = .ok (.getfield 31, 3) := by decide +kernel
theorem dX1_livingRoot_7 : decode cX1_livingRoot 7 = .ok (.if_icmp .ge 38, 3) := by decide +kernel
theorem dX1_livingRoot_10 : decode cX1_livingRoot 10 = .ok (.aload_n 0, 1) := by decide +kernel
theorem dX1_livingRoot_11 : decode cX1_livingRoot 11 = .ok (.getfield 27, 3) := by decide +kernel
theorem dX1_livingRoot_14 : decode cX1_livingRoot 14 = .ok (.iload_n 2, 1) := by decide +kernel
theorem dX1_livingRoot_15 : decode cX1_livingRoot 15 = .ok (.baload, 1) := by decide +kernel
theorem dX1_livingRoot_16 : decode cX1_livingRoot 16 = .ok (.ifCond .eq 23, 3) := by decide +kernel
theorem dX1_livingRoot_19 : decode cX1_livingRoot 19 = .ok (.aload_n 0, 1) := by decide +kernel
theorem dX1_livingRoot_20 : decode cX1_livingRoot 20 = .ok (.iload_n 2, 1) := by decide +kernel
theorem dX1_livingRoot_21 : decode cX1_livingRoot 21 = .ok (.invokevirtual 43, 3) := by decide +kernel
theorem dX1_livingRoot_24 : decode cX1_livingRoot 24 = .ok (.ifCond .eq 15, 3) := by decide +kernel
theorem dX1_livingRoot_27 : decode cX1_livingRoot 27 = .ok (.aload_n 0, 1) := by decide +kernel
theorem dX1_livingRoot_28 : decode cX1_livingRoot 28 = .ok (.getfield 24, 3) := by decide +kernel
theorem dX1_livingRoot_31 : decode cX1_livingRoot 31 = .ok (.iload_n 2, 1) := by decide +kernel
theorem dX1_livingRoot_32 : decode cX1_livingRoot 32 = .ok (.iaload, 1) := by decide +kernel
theorem dX1_livingRoot_33 : decode cX1_livingRoot 33 = .ok (.iload_n 1, 1) := by decide +kernel
theorem dX1_livingRoot_34 : decode cX1_livingRoot 34 = .ok (.if_icmp .ne 5, 3) := by decide +kernel
theorem dX1_livingRoot_37 : decode cX1_livingRoot 37 = .ok (.iload_n 2, 1) := by decide +kernel
theorem dX1_livingRoot_38 : decode cX1_livingRoot 38 = .ok (.ireturn, 1) := by decide +kernel
theorem dX1_livingRoot_39 : decode cX1_livingRoot 39 = .ok (.iinc 2 1, 3) := by decide +kernel
theorem dX1_livingRoot_42 : decode cX1_livingRoot 42 = .ok (.goto (-40), 3) := by decide +kernel
theorem dX1_livingRoot_45 : decode cX1_livingRoot 45 = .ok (.iconst (-1), 1) := by decide +kernel
theorem dX1_livingRoot_46 : decode cX1_livingRoot 46 = .ok (.ireturn, 1) := by decide +kernel
set_option maxRecDepth 20000 in
theorem ggX1_killBlock_X1_firstBelow : GoodIn wsX1_killBlock wsX1_firstBelow := goodIn_r _ [6, 7, 8, 9, 10, 11, 12, 13, 14] (by decide +kernel) (by decide +kernel)
set_option maxRecDepth 20000 in
theorem gX1_killBlock_X1_firstBelow : GoodIn wsX1_killBlock (wsV RX1 47 RX1 yX1_firstBelow wsX1_firstBelow) := goodIn_app (goodIn_of _ (by decide +kernel)) ggX1_killBlock_X1_firstBelow
theorem dX1_killBlock_0 : decode cX1_killBlock 0 = .ok (.aload_n 0, 1) := by decide +kernel
theorem dX1_killBlock_1 : decode cX1_killBlock 1 = .ok (.iload_n 1, 1) := by decide +kernel
theorem dX1_killBlock_2 : decode cX1_killBlock 2 = .ok (.invokevirtual 47, 3) := by decide +kernel
theorem dX1_killBlock_5 : decode cX1_killBlock 5 = .ok (.istore_n 2, 1) := by decide +kernel
theorem dX1_killBlock_6 : decode cX1_killBlock 6 = .ok (.iload_n 2, 1) := by decide +kernel
theorem dX1_killBlock_7 : decode cX1_killBlock 7 = .ok (.istore_n 3, 1) := by decide +kernel
theorem dX1_killBlock_8 : decode cX1_killBlock 8 = .ok (.iload_n 3, 1) := by decide +kernel
theorem dX1_killBlock_9 : decode cX1_killBlock 9 = .ok (.iload_n 1, 1) := by decide +kernel
theorem dX1_killBlock_10 : decode cX1_killBlock 10 = .ok (.if_icmp .gt 16, 3) := by decide +kernel
theorem dX1_killBlock_13 : decode cX1_killBlock 13 = .ok (.aload_n 0, 1) := by decide +kernel
theorem dX1_killBlock_14 : decode cX1_killBlock 14 = .ok (.getfield 27, 3) := by decide +kernel
theorem dX1_killBlock_17 : decode cX1_killBlock 17 = .ok (.iload_n 3, 1) := by decide +kernel
theorem dX1_killBlock_18 : decode cX1_killBlock 18 = .ok (.iconst 0, 1) := by decide +kernel
theorem dX1_killBlock_19 : decode cX1_killBlock 19 = .ok (.bastore, 1) := by decide +kernel
theorem dX1_killBlock_20 : decode cX1_killBlock 20 = .ok (.iinc 3 1, 3) := by decide +kernel
theorem dX1_killBlock_23 : decode cX1_killBlock 23 = .ok (.goto (-15), 3) := by decide +kernel
theorem dX1_killBlock_26 : decode cX1_killBlock 26 = .ok (.iload_n 1, 1) := by decide +kernel
theorem dX1_killBlock_27 : decode cX1_killBlock 27 = .ok (.iload_n 2, 1) := by decide +kernel
theorem dX1_killBlock_28 : decode cX1_killBlock 28 = .ok (.isub, 1) := by decide +kernel
theorem dX1_killBlock_29 : decode cX1_killBlock 29 = .ok (.iconst 1, 1) := by decide +kernel
theorem dX1_killBlock_30 : decode cX1_killBlock 30 = .ok (.iadd, 1) := by decide +kernel
theorem dX1_killBlock_31 : decode cX1_killBlock 31 = .ok (.ireturn, 1) := by decide +kernel
theorem dX1_countLiving_0 : decode cX1_countLiving 0 = .ok (.iconst 0, 1) := by decide +kernel
theorem dX1_countLiving_1 : decode cX1_countLiving 1 = .ok (.istore_n 2, 1) := by decide +kernel
theorem dX1_countLiving_2 : decode cX1_countLiving 2 = .ok (.iconst 0, 1) := by decide +kernel
theorem dX1_countLiving_3 : decode cX1_countLiving 3 = .ok (.istore_n 3, 1) := by decide +kernel
theorem dX1_countLiving_4 : decode cX1_countLiving 4 = .ok (.iload_n 3, 1) := by decide +kernel
theorem dX1_countLiving_5 : decode cX1_countLiving 5 = .ok (.aload_n 0, 1) := by decide +kernel
theorem dX1_countLiving_6 : decode cX1_countLiving 6 = .ok (.getfield 31, 3) := by decide +kernel
theorem dX1_countLiving_9 : decode cX1_countLiving 9 = .ok (.if_icmp .ge 31, 3) := by decide +kernel
theorem dX1_countLiving_12 : decode cX1_countLiving 12 = .ok (.aload_n 0, 1) := by decide +kernel
theorem dX1_countLiving_13 : decode cX1_countLiving 13 = .ok (.getfield 27, 3) := by decide +kernel
theorem dX1_countLiving_16 : decode cX1_countLiving 16 = .ok (.iload_n 3, 1) := by decide +kernel
theorem dX1_countLiving_17 : decode cX1_countLiving 17 = .ok (.baload, 1) := by decide +kernel
theorem dX1_countLiving_18 : decode cX1_countLiving 18 = .ok (.ifCond .eq 16, 3) := by decide +kernel
theorem dX1_countLiving_21 : decode cX1_countLiving 21 = .ok (.aload_n 0, 1) := by decide +kernel
theorem dX1_countLiving_22 : decode cX1_countLiving 22 = .ok (.getfield 9, 3) := by decide +kernel
theorem dX1_countLiving_25 : decode cX1_countLiving 25 = .ok (.iload_n 3, 1) := by decide +kernel
theorem dX1_countLiving_26 : decode cX1_countLiving 26 = .ok (.iaload, 1) := by decide +kernel
theorem dX1_countLiving_27 : decode cX1_countLiving 27 = .ok (.iload_n 1, 1) := by decide +kernel
theorem dX1_countLiving_28 : decode cX1_countLiving 28 = .ok (.if_icmp .lt 6, 3) := by decide +kernel
theorem dX1_countLiving_31 : decode cX1_countLiving 31 = .ok (.iinc 2 1, 3) := by decide +kernel
theorem dX1_countLiving_34 : decode cX1_countLiving 34 = .ok (.iinc 3 1, 3) := by decide +kernel
theorem dX1_countLiving_37 : decode cX1_countLiving 37 = .ok (.goto (-33), 3) := by decide +kernel
theorem dX1_countLiving_40 : decode cX1_countLiving 40 = .ok (.iload_n 2, 1) := by decide +kernel
theorem dX1_countLiving_41 : decode cX1_countLiving 41 = .ok (.ireturn, 1) := by decide +kernel
theorem dX1_parentOf_0 : decode cX1_parentOf 0 = .ok (.iload_n 1, 1) := by decide +kernel
theorem dX1_parentOf_1 : decode cX1_parentOf 1 = .ok (.iconst 1, 1) := by decide +kernel
theorem dX1_parentOf_2 : decode cX1_parentOf 2 = .ok (.iadd, 1) := by decide +kernel
theorem dX1_parentOf_3 : decode cX1_parentOf 3 = .ok (.istore_n 2, 1) := by decide +kernel
theorem dX1_parentOf_4 : decode cX1_parentOf 4 = .ok (.iload_n 2, 1) := by decide +kernel
theorem dX1_parentOf_5 : decode cX1_parentOf 5 = .ok (.aload_n 0, 1) := by decide +kernel
theorem dX1_parentOf_6 : decode cX1_parentOf 6 = .ok (.getfield 31, 3) := by decide +kernel
theorem dX1_parentOf_9 : decode cX1_parentOf 9 = .ok (.if_icmp .ge 26, 3) := by decide +kernel
theorem dX1_parentOf_12 : decode cX1_parentOf 12 = .ok (.aload_n 0, 1) := by decide +kernel
theorem dX1_parentOf_13 : decode cX1_parentOf 13 = .ok (.getfield 9, 3) := by decide +kernel
theorem dX1_parentOf_16 : decode cX1_parentOf 16 = .ok (.iload_n 2, 1) := by decide +kernel
theorem dX1_parentOf_17 : decode cX1_parentOf 17 = .ok (.iaload, 1) := by decide +kernel
theorem dX1_parentOf_18 : decode cX1_parentOf 18 = .ok (.aload_n 0, 1) := by decide +kernel
theorem dX1_parentOf_19 : decode cX1_parentOf 19 = .ok (.getfield 9, 3) := by decide +kernel
theorem dX1_parentOf_22 : decode cX1_parentOf 22 = .ok (.iload_n 1, 1) := by decide +kernel
theorem dX1_parentOf_23 : decode cX1_parentOf 23 = .ok (.iaload, 1) := by decide +kernel
theorem dX1_parentOf_24 : decode cX1_parentOf 24 = .ok (.if_icmp .le 5, 3) := by decide +kernel
theorem dX1_parentOf_27 : decode cX1_parentOf 27 = .ok (.iload_n 2, 1) := by decide +kernel
theorem dX1_parentOf_28 : decode cX1_parentOf 28 = .ok (.ireturn, 1) := by decide +kernel
theorem dX1_parentOf_29 : decode cX1_parentOf 29 = .ok (.iinc 2 1, 3) := by decide +kernel
theorem dX1_parentOf_32 : decode cX1_parentOf 32 = .ok (.goto (-28), 3) := by decide +kernel
theorem dX1_parentOf_35 : decode cX1_parentOf 35 = .ok (.iconst (-1), 1) := by decide +kernel
theorem dX1_parentOf_36 : decode cX1_parentOf 36 = .ok (.ireturn, 1) := by decide +kernel
theorem dX1_firstBelow_0 : decode cX1_firstBelow 0 = .ok (.iload_n 1, 1) := by decide +kernel
theorem dX1_firstBelow_1 : decode cX1_firstBelow 1 = .ok (.istore_n 2, 1) := by decide +kernel
theorem dX1_firstBelow_2 : decode cX1_firstBelow 2 = .ok (.iload_n 2, 1) := by decide +kernel
theorem dX1_firstBelow_3 : decode cX1_firstBelow 3 = .ok (.ifCond .le 26, 3) := by decide +kernel
theorem dX1_firstBelow_6 : decode cX1_firstBelow 6 = .ok (.aload_n 0, 1) := by decide +kernel
theorem dX1_firstBelow_7 : decode cX1_firstBelow 7 = .ok (.getfield 9, 3) := by decide +kernel
theorem dX1_firstBelow_10 : decode cX1_firstBelow 10 = .ok (.iload_n 2, 1) := by decide +kernel
theorem dX1_firstBelow_11 : decode cX1_firstBelow 11 = .ok (.iconst 1, 1) := by decide +kernel
theorem dX1_firstBelow_12 : decode cX1_firstBelow 12 = .ok (.isub, 1) := by decide +kernel
theorem dX1_firstBelow_13 : decode cX1_firstBelow 13 = .ok (.iaload, 1) := by decide +kernel
theorem dX1_firstBelow_14 : decode cX1_firstBelow 14 = .ok (.aload_n 0, 1) := by decide +kernel
theorem dX1_firstBelow_15 : decode cX1_firstBelow 15 = .ok (.getfield 9, 3) := by decide +kernel
theorem dX1_firstBelow_18 : decode cX1_firstBelow 18 = .ok (.iload_n 1, 1) := by decide +kernel
theorem dX1_firstBelow_19 : decode cX1_firstBelow 19 = .ok (.iaload, 1) := by decide +kernel
theorem dX1_firstBelow_20 : decode cX1_firstBelow 20 = .ok (.if_icmp .ge 9, 3) := by decide +kernel
theorem dX1_firstBelow_23 : decode cX1_firstBelow 23 = .ok (.iinc 2 (-1), 3) := by decide +kernel
theorem dX1_firstBelow_26 : decode cX1_firstBelow 26 = .ok (.goto (-24), 3) := by decide +kernel
theorem dX1_firstBelow_29 : decode cX1_firstBelow 29 = .ok (.iload_n 2, 1) := by decide +kernel
theorem dX1_firstBelow_30 : decode cX1_firstBelow 30 = .ok (.ireturn, 1) := by decide +kernel
theorem dX2_init_0 : decode cX2_init 0 = .ok (.aload_n 0, 1) := by decide +kernel
theorem dX2_init_1 : decode cX2_init 1 = .ok (.invokespecial 3, 3) := by decide +kernel
theorem dX2_init_4 : decode cX2_init 4 = .ok (.aload_n 0, 1) := by decide +kernel
theorem dX2_init_5 : decode cX2_init 5 = .ok (.sipush 200, 3) := by decide +kernel
theorem dX2_init_8 : decode cX2_init 8 = .ok (.newarray .boolean, 2) := by decide +kernel
theorem dX2_init_10 : decode cX2_init 10 = .ok (.putfield 9, 3) := by decide +kernel
theorem dX2_init_13 : decode cX2_init 13 = .ok (.aload_n 0, 1) := by decide +kernel
theorem dX2_init_14 : decode cX2_init 14 = .ok (.sipush 200, 3) := by decide +kernel
theorem dX2_init_17 : decode cX2_init 17 = .ok (.newarray .long, 2) := by decide +kernel
theorem dX2_init_19 : decode cX2_init 19 = .ok (.putfield 15, 3) := by decide +kernel
theorem dX2_init_22 : decode cX2_init 22 = .ok (.aload_n 0, 1) := by decide +kernel
theorem dX2_init_23 : decode cX2_init 23 = .ok (.iconst 0, 1) := by decide +kernel
theorem dX2_init_24 : decode cX2_init 24 = .ok (.putfield 19, 3) := by decide +kernel
theorem dX2_init_27 : decode cX2_init 27 = .ok (.return_, 1) := by decide +kernel
theorem dX2_has_0 : decode cX2_has 0 = .ok (.iload_n 1, 1) := by decide +kernel
theorem dX2_has_1 : decode cX2_has 1 = .ok (.ifCond .lt 23, 3) := by decide +kernel
theorem dX2_has_4 : decode cX2_has 4 = .ok (.iload_n 1, 1) := by decide +kernel
theorem dX2_has_5 : decode cX2_has 5 = .ok (.sipush 200, 3) := by decide +kernel
theorem dX2_has_8 : decode cX2_has 8 = .ok (.if_icmp .ge 16, 3) := by decide +kernel
theorem dX2_has_11 : decode cX2_has 11 = .ok (.aload_n 0, 1) := by decide +kernel
theorem dX2_has_12 : decode cX2_has 12 = .ok (.getfield 9, 3) := by decide +kernel
theorem dX2_has_15 : decode cX2_has 15 = .ok (.iload_n 1, 1) := by decide +kernel
theorem dX2_has_16 : decode cX2_has 16 = .ok (.baload, 1) := by decide +kernel
theorem dX2_has_17 : decode cX2_has 17 = .ok (.ifCond .eq 7, 3) := by decide +kernel
theorem dX2_has_20 : decode cX2_has 20 = .ok (.iconst 1, 1) := by decide +kernel
theorem dX2_has_21 : decode cX2_has 21 = .ok (.goto 4, 3) := by decide +kernel
theorem dX2_has_24 : decode cX2_has 24 = .ok (.iconst 0, 1) := by decide +kernel
theorem dX2_has_25 : decode cX2_has 25 = .ok (.ireturn, 1) := by decide +kernel
theorem dX2_clear_0 : decode cX2_clear 0 = .ok (.iconst 0, 1) := by decide +kernel
theorem dX2_clear_1 : decode cX2_clear 1 = .ok (.istore_n 1, 1) := by decide +kernel
theorem dX2_clear_2 : decode cX2_clear 2 = .ok (.iload_n 1, 1) := by decide +kernel
theorem dX2_clear_3 : decode cX2_clear 3 = .ok (.sipush 200, 3) := by decide +kernel
theorem dX2_clear_6 : decode cX2_clear 6 = .ok (.if_icmp .ge 16, 3) := by decide +kernel
theorem dX2_clear_9 : decode cX2_clear 9 = .ok (.aload_n 0, 1) := by decide +kernel
theorem dX2_clear_10 : decode cX2_clear 10 = .ok (.getfield 9, 3) := by decide +kernel
theorem dX2_clear_13 : decode cX2_clear 13 = .ok (.iload_n 1, 1) := by decide +kernel
theorem dX2_clear_14 : decode cX2_clear 14 = .ok (.iconst 0, 1) := by decide +kernel
theorem dX2_clear_15 : decode cX2_clear 15 = .ok (.bastore, 1) := by decide +kernel
theorem dX2_clear_16 : decode cX2_clear 16 = .ok (.iinc 1 1, 3) := by decide +kernel
theorem dX2_clear_19 : decode cX2_clear 19 = .ok (.goto (-17), 3) := by decide +kernel
theorem dX2_clear_22 : decode cX2_clear 22 = .ok (.aload_n 0, 1) := by decide +kernel
theorem dX2_clear_23 : decode cX2_clear 23 = .ok (.iconst 0, 1) := by decide +kernel
theorem dX2_clear_24 : decode cX2_clear 24 = .ok (.putfield 19, 3) := by decide +kernel
theorem dX2_clear_27 : decode cX2_clear 27 = .ok (.return_, 1) := by decide +kernel
theorem dX2_put_0 : decode cX2_put 0 = .ok (.aload_n 0, 1) := by decide +kernel
theorem dX2_put_1 : decode cX2_put 1 = .ok (.getfield 9, 3) := by decide +kernel
theorem dX2_put_4 : decode cX2_put 4 = .ok (.iload_n 1, 1) := by decide +kernel
theorem dX2_put_5 : decode cX2_put 5 = .ok (.baload, 1) := by decide +kernel
theorem dX2_put_6 : decode cX2_put 6 = .ok (.ifCond .ne 20, 3) := by decide +kernel
theorem dX2_put_9 : decode cX2_put 9 = .ok (.aload_n 0, 1) := by decide +kernel
theorem dX2_put_10 : decode cX2_put 10 = .ok (.getfield 9, 3) := by decide +kernel
theorem dX2_put_13 : decode cX2_put 13 = .ok (.iload_n 1, 1) := by decide +kernel
theorem dX2_put_14 : decode cX2_put 14 = .ok (.iconst 1, 1) := by decide +kernel
theorem dX2_put_15 : decode cX2_put 15 = .ok (.bastore, 1) := by decide +kernel
theorem dX2_put_16 : decode cX2_put 16 = .ok (.aload_n 0, 1) := by decide +kernel
theorem dX2_put_17 : decode cX2_put 17 = .ok (.dup, 1) := by decide +kernel
theorem dX2_put_18 : decode cX2_put 18 = .ok (.getfield 19, 3) := by decide +kernel
theorem dX2_put_21 : decode cX2_put 21 = .ok (.iconst 1, 1) := by decide +kernel
theorem dX2_put_22 : decode cX2_put 22 = .ok (.iadd, 1) := by decide +kernel
theorem dX2_put_23 : decode cX2_put 23 = .ok (.putfield 19, 3) := by decide +kernel
theorem dX2_put_26 : decode cX2_put 26 = .ok (.aload_n 0, 1) := by decide +kernel
theorem dX2_put_27 : decode cX2_put 27 = .ok (.getfield 15, 3) := by decide +kernel
theorem dX2_put_30 : decode cX2_put 30 = .ok (.iload_n 1, 1) := by decide +kernel
theorem dX2_put_31 : decode cX2_put 31 = .ok (.lload_n 2, 1) := by decide +kernel
theorem dX2_put_32 : decode cX2_put 32 = .ok (.lastore, 1) := by decide +kernel
theorem dX2_put_33 : decode cX2_put 33 = .ok (.return_, 1) := by decide +kernel
set_option maxRecDepth 20000 in
theorem ggX2_add_X2_put : GoodIn wsX2_add wsX2_put := goodIn_r _ [7, 1, 8, 2, 9, 10, 11] (by decide +kernel) (by decide +kernel)
set_option maxRecDepth 20000 in
theorem gX2_add_X2_put : GoodIn wsX2_add (wsV RX2 23 RX2 yX2_put wsX2_put) := goodIn_app (goodIn_of _ (by decide +kernel)) ggX2_add_X2_put
theorem dX2_add_0 : decode cX2_add 0 = .ok (.aload_n 0, 1) := by decide +kernel
theorem dX2_add_1 : decode cX2_add 1 = .ok (.iload_n 1, 1) := by decide +kernel
theorem dX2_add_2 : decode cX2_add 2 = .ok (.aload_n 0, 1) := by decide +kernel
theorem dX2_add_3 : decode cX2_add 3 = .ok (.getfield 9, 3) := by decide +kernel
theorem dX2_add_6 : decode cX2_add 6 = .ok (.iload_n 1, 1) := by decide +kernel
theorem dX2_add_7 : decode cX2_add 7 = .ok (.baload, 1) := by decide +kernel
theorem dX2_add_8 : decode cX2_add 8 = .ok (.ifCond .eq 14, 3) := by decide +kernel
theorem dX2_add_11 : decode cX2_add 11 = .ok (.aload_n 0, 1) := by decide +kernel
theorem dX2_add_12 : decode cX2_add 12 = .ok (.getfield 15, 3) := by decide +kernel
theorem dX2_add_15 : decode cX2_add 15 = .ok (.iload_n 1, 1) := by decide +kernel
theorem dX2_add_16 : decode cX2_add 16 = .ok (.laload, 1) := by decide +kernel
theorem dX2_add_17 : decode cX2_add 17 = .ok (.lload_n 2, 1) := by decide +kernel
theorem dX2_add_18 : decode cX2_add 18 = .ok (.ladd, 1) := by decide +kernel
theorem dX2_add_19 : decode cX2_add 19 = .ok (.goto 4, 3) := by decide +kernel
theorem dX2_add_22 : decode cX2_add 22 = .ok (.lload_n 2, 1) := by decide +kernel
theorem dX2_add_23 : decode cX2_add 23 = .ok (.invokevirtual 23, 3) := by decide +kernel
theorem dX2_add_26 : decode cX2_add 26 = .ok (.return_, 1) := by decide +kernel
theorem dX2_remove_0 : decode cX2_remove 0 = .ok (.aload_n 0, 1) := by decide +kernel
theorem dX2_remove_1 : decode cX2_remove 1 = .ok (.getfield 9, 3) := by decide +kernel
theorem dX2_remove_4 : decode cX2_remove 4 = .ok (.iload_n 1, 1) := by decide +kernel
theorem dX2_remove_5 : decode cX2_remove 5 = .ok (.baload, 1) := by decide +kernel
theorem dX2_remove_6 : decode cX2_remove 6 = .ok (.ifCond .eq 20, 3) := by decide +kernel
theorem dX2_remove_9 : decode cX2_remove 9 = .ok (.aload_n 0, 1) := by decide +kernel
theorem dX2_remove_10 : decode cX2_remove 10 = .ok (.getfield 9, 3) := by decide +kernel
theorem dX2_remove_13 : decode cX2_remove 13 = .ok (.iload_n 1, 1) := by decide +kernel
theorem dX2_remove_14 : decode cX2_remove 14 = .ok (.iconst 0, 1) := by decide +kernel
theorem dX2_remove_15 : decode cX2_remove 15 = .ok (.bastore, 1) := by decide +kernel
theorem dX2_remove_16 : decode cX2_remove 16 = .ok (.aload_n 0, 1) := by decide +kernel
theorem dX2_remove_17 : decode cX2_remove 17 = .ok (.dup, 1) := by decide +kernel
theorem dX2_remove_18 : decode cX2_remove 18 = .ok (.getfield 19, 3) := by decide +kernel
theorem dX2_remove_21 : decode cX2_remove 21 = .ok (.iconst 1, 1) := by decide +kernel
theorem dX2_remove_22 : decode cX2_remove 22 = .ok (.isub, 1) := by decide +kernel
theorem dX2_remove_23 : decode cX2_remove 23 = .ok (.putfield 19, 3) := by decide +kernel
theorem dX2_remove_26 : decode cX2_remove 26 = .ok (.return_, 1) := by decide +kernel
set_option maxRecDepth 20000 in
theorem ggX2_addAll_X2_add : GoodIn wsX2_addAll wsX2_add := goodIn_r _ [7, 1, 2, 8, 9, 10, 6, 11, 12, 13, 14, 15] (by decide +kernel) (by decide +kernel)
set_option maxRecDepth 20000 in
theorem gX2_addAll_X2_add : GoodIn wsX2_addAll (wsV RX2 27 RX2 yX2_add wsX2_add) := goodIn_app (goodIn_of _ (by decide +kernel)) ggX2_addAll_X2_add
theorem dX2_addAll_0 : decode cX2_addAll 0 = .ok (.iconst 0, 1) := by decide +kernel
theorem dX2_addAll_1 : decode cX2_addAll 1 = .ok (.istore_n 2, 1) := by decide +kernel
theorem dX2_addAll_2 : decode cX2_addAll 2 = .ok (.iload_n 2, 1) := by decide +kernel
theorem dX2_addAll_3 : decode cX2_addAll 3 = .ok (.sipush 200, 3) := by decide +kernel
theorem dX2_addAll_6 : decode cX2_addAll 6 = .ok (.if_icmp .ge 29, 3) := by decide +kernel
theorem dX2_addAll_9 : decode cX2_addAll 9 = .ok (.aload_n 1, 1) := by decide +kernel
theorem dX2_addAll_10 : decode cX2_addAll 10 = .ok (.getfield 9, 3) := by decide +kernel
theorem dX2_addAll_13 : decode cX2_addAll 13 = .ok (.iload_n 2, 1) := by decide +kernel
theorem dX2_addAll_14 : decode cX2_addAll 14 = .ok (.baload, 1) := by decide +kernel
theorem dX2_addAll_15 : decode cX2_addAll 15 = .ok (.ifCond .eq 14, 3) := by decide +kernel
theorem dX2_addAll_18 : decode cX2_addAll 18 = .ok (.aload_n 0, 1) := by decide +kernel
theorem dX2_addAll_19 : decode cX2_addAll 19 = .ok (.iload_n 2, 1) := by decide +kernel
theorem dX2_addAll_20 : decode cX2_addAll 20 = .ok (.aload_n 1, 1) := by decide +kernel
theorem dX2_addAll_21 : decode cX2_addAll 21 = .ok (.getfield 15, 3) := by decide +kernel
theorem dX2_addAll_24 : decode cX2_addAll 24 = .ok (.iload_n 2, 1) := by decide +kernel
theorem dX2_addAll_25 : decode cX2_addAll 25 = .ok (.laload, 1) := by decide +kernel
theorem dX2_addAll_26 : decode cX2_addAll 26 = .ok (.invokevirtual 27, 3) := by decide +kernel
theorem dX2_addAll_29 : decode cX2_addAll 29 = .ok (.iinc 2 1, 3) := by decide +kernel
theorem dX2_addAll_32 : decode cX2_addAll 32 = .ok (.goto (-30), 3) := by decide +kernel
theorem dX2_addAll_35 : decode cX2_addAll 35 = .ok (.return_, 1) := by decide +kernel
set_option maxRecDepth 20000 in
theorem ggX2_removeAll_X2_remove : GoodIn wsX2_removeAll wsX2_remove := goodIn_r _ [6, 1, 7, 8, 9, 10] (by decide +kernel) (by decide +kernel)
set_option maxRecDepth 20000 in
theorem gX2_removeAll_X2_remove : GoodIn wsX2_removeAll (wsV RX2 30 RX2 yX2_remove wsX2_remove) := goodIn_app (goodIn_of _ (by decide +kernel)) ggX2_removeAll_X2_remove
theorem dX2_removeAll_0 : decode cX2_removeAll 0 = .ok (.iconst 0, 1) := by decide +kernel
theorem dX2_removeAll_1 : decode cX2_removeAll 1 = .ok (.istore_n 2, 1) := by decide +kernel
theorem dX2_removeAll_2 : decode cX2_removeAll 2 = .ok (.iload_n 2, 1) := by decide +kernel
theorem dX2_removeAll_3 : decode cX2_removeAll 3 = .ok (.sipush 200, 3) := by decide +kernel
theorem dX2_removeAll_6 : decode cX2_removeAll 6 = .ok (.if_icmp .ge 23, 3) := by decide +kernel
theorem dX2_removeAll_9 : decode cX2_removeAll 9 = .ok (.aload_n 1, 1) := by decide +kernel
theorem dX2_removeAll_10 : decode cX2_removeAll 10 = .ok (.getfield 9, 3) := by decide +kernel
theorem dX2_removeAll_13 : decode cX2_removeAll 13 = .ok (.iload_n 2, 1) := by decide +kernel
theorem dX2_removeAll_14 : decode cX2_removeAll 14 = .ok (.baload, 1) := by decide +kernel
theorem dX2_removeAll_15 : decode cX2_removeAll 15 = .ok (.ifCond .eq 8, 3) := by decide +kernel
theorem dX2_removeAll_18 : decode cX2_removeAll 18 = .ok (.aload_n 0, 1) := by decide +kernel
theorem dX2_removeAll_19 : decode cX2_removeAll 19 = .ok (.iload_n 2, 1) := by decide +kernel
theorem dX2_removeAll_20 : decode cX2_removeAll 20 = .ok (.invokevirtual 30, 3) := by decide +kernel
theorem dX2_removeAll_23 : decode cX2_removeAll 23 = .ok (.iinc 2 1, 3) := by decide +kernel
theorem dX2_removeAll_26 : decode cX2_removeAll 26 = .ok (.goto (-24), 3) := by decide +kernel
theorem dX2_removeAll_29 : decode cX2_removeAll 29 = .ok (.return_, 1) := by decide +kernel
set_option maxRecDepth 20000 in
theorem ggX2_keepCommon_X2_remove : GoodIn wsX2_keepCommon wsX2_remove := goodIn_r _ [7, 1, 8, 17, 18, 19] (by decide +kernel) (by decide +kernel)
set_option maxRecDepth 20000 in
theorem gX2_keepCommon_X2_remove : GoodIn wsX2_keepCommon (wsV RX2 30 RX2 yX2_remove wsX2_remove) := goodIn_app (goodIn_of _ (by decide +kernel)) ggX2_keepCommon_X2_remove
set_option maxRecDepth 20000 in
theorem ggX2_keepCommon_X2_add : GoodIn wsX2_keepCommon wsX2_add := goodIn_r _ [12, 1, 2, 13, 14, 15, 6, 16, 8, 17, 18, 19] (by decide +kernel) (by decide +kernel)
set_option maxRecDepth 20000 in
theorem gX2_keepCommon_X2_add : GoodIn wsX2_keepCommon (wsV RX2 27 RX2 yX2_add wsX2_add) := goodIn_app (goodIn_of _ (by decide +kernel)) ggX2_keepCommon_X2_add
theorem dX2_keepCommon_0 : decode cX2_keepCommon 0 = .ok (.iconst 0, 1) := by decide +kernel
theorem dX2_keepCommon_1 : decode cX2_keepCommon 1 = .ok (.istore_n 2, 1) := by decide +kernel
theorem dX2_keepCommon_2 : decode cX2_keepCommon 2 = .ok (.iload_n 2, 1) := by decide +kernel
theorem dX2_keepCommon_3 : decode cX2_keepCommon 3 = .ok (.sipush 200, 3) := by decide +kernel
theorem dX2_keepCommon_6 : decode cX2_keepCommon 6 = .ok (.if_icmp .ge 46, 3) := by decide +kernel
theorem dX2_keepCommon_9 : decode cX2_keepCommon 9 = .ok (.aload_n 1, 1) := by decide +kernel
theorem dX2_keepCommon_10 : decode cX2_keepCommon 10 = .ok (.getfield 9, 3) := by decide +kernel
theorem dX2_keepCommon_13 : decode cX2_keepCommon 13 = .ok (.iload_n 2, 1) := by decide +kernel
theorem dX2_keepCommon_14 : decode cX2_keepCommon 14 = .ok (.baload, 1) := by decide +kernel
theorem dX2_keepCommon_15 : decode cX2_keepCommon 15 = .ok (.ifCond .ne 11, 3) := by decide +kernel
theorem dX2_keepCommon_18 : decode cX2_keepCommon 18 = .ok (.aload_n 0, 1) := by decide +kernel
theorem dX2_keepCommon_19 : decode cX2_keepCommon 19 = .ok (.iload_n 2, 1) := by decide +kernel
theorem dX2_keepCommon_20 : decode cX2_keepCommon 20 = .ok (.invokevirtual 30, 3) := by decide +kernel
theorem dX2_keepCommon_23 : decode cX2_keepCommon 23 = .ok (.goto 23, 3) := by decide +kernel
theorem dX2_keepCommon_26 : decode cX2_keepCommon 26 = .ok (.aload_n 0, 1) := by decide +kernel
theorem dX2_keepCommon_27 : decode cX2_keepCommon 27 = .ok (.getfield 9, 3) := by decide +kernel
theorem dX2_keepCommon_30 : decode cX2_keepCommon 30 = .ok (.iload_n 2, 1) := by decide +kernel
theorem dX2_keepCommon_31 : decode cX2_keepCommon 31 = .ok (.baload, 1) := by decide +kernel
theorem dX2_keepCommon_32 : decode cX2_keepCommon 32 = .ok (.ifCond .eq 14, 3) := by decide +kernel
theorem dX2_keepCommon_35 : decode cX2_keepCommon 35 = .ok (.aload_n 0, 1) := by decide +kernel
theorem dX2_keepCommon_36 : decode cX2_keepCommon 36 = .ok (.iload_n 2, 1) := by decide +kernel
theorem dX2_keepCommon_37 : decode cX2_keepCommon 37 = .ok (.aload_n 1, 1) := by decide +kernel
theorem dX2_keepCommon_38 : decode cX2_keepCommon 38 = .ok (.getfield 15, 3) := by decide +kernel
theorem dX2_keepCommon_41 : decode cX2_keepCommon 41 = .ok (.iload_n 2, 1) := by decide +kernel
theorem dX2_keepCommon_42 : decode cX2_keepCommon 42 = .ok (.laload, 1) := by decide +kernel
theorem dX2_keepCommon_43 : decode cX2_keepCommon 43 = .ok (.invokevirtual 27, 3) := by decide +kernel
theorem dX2_keepCommon_46 : decode cX2_keepCommon 46 = .ok (.iinc 2 1, 3) := by decide +kernel
theorem dX2_keepCommon_49 : decode cX2_keepCommon 49 = .ok (.goto (-47), 3) := by decide +kernel
theorem dX2_keepCommon_52 : decode cX2_keepCommon 52 = .ok (.return_, 1) := by decide +kernel
set_option maxRecDepth 20000 in
theorem ggX2_moveTo_X2_clear : GoodIn wsX2_moveTo wsX2_clear := goodIn_r _ [5, 6, 7, 21, 22, 23] (by decide +kernel) (by decide +kernel)
set_option maxRecDepth 20000 in
theorem gX2_moveTo_X2_clear : GoodIn wsX2_moveTo (wsV RX2 34 RX2 yX2_clear wsX2_clear) := goodIn_app (goodIn_of _ (by decide +kernel)) ggX2_moveTo_X2_clear
set_option maxRecDepth 20000 in
theorem ggX2_moveTo_X2_addAll : GoodIn wsX2_moveTo wsX2_addAll := goodIn_r _ [11, 6, 12, 13, 14, 15, 4, 16, 17, 18, 19, 20, 7, 21, 22, 23] (by decide +kernel) (by decide +kernel)
set_option maxRecDepth 20000 in
theorem gX2_moveTo_X2_addAll : GoodIn wsX2_moveTo (wsV RX2 37 RX2 yX2_addAll wsX2_addAll) := goodIn_app (goodIn_of _ (by decide +kernel)) ggX2_moveTo_X2_addAll
theorem dX2_moveTo_0 : decode cX2_moveTo 0 = .ok (.aload_n 1, 1) := by decide +kernel
theorem dX2_moveTo_1 : decode cX2_moveTo 1 = .ok (.invokevirtual 34, 3) := by decide +kernel
theorem dX2_moveTo_4 : decode cX2_moveTo 4 = .ok (.aload_n 1, 1) := by decide +kernel
theorem dX2_moveTo_5 : decode cX2_moveTo 5 = .ok (.aload_n 0, 1) := by decide +kernel
theorem dX2_moveTo_6 : decode cX2_moveTo 6 = .ok (.invokevirtual 37, 3) := by decide +kernel
theorem dX2_moveTo_9 : decode cX2_moveTo 9 = .ok (.aload_n 0, 1) := by decide +kernel
theorem dX2_moveTo_10 : decode cX2_moveTo 10 = .ok (.invokevirtual 34, 3) := by decide +kernel
theorem dX2_moveTo_13 : decode cX2_moveTo 13 = .ok (.return_, 1) := by decide +kernel
set_option maxRecDepth 20000 in
theorem ggX3_init_X1_init : GoodIn wsX3_init wsX1_init := goodIn_r _ [23, 24, 2, 3, 25, 26, 27, 28, 29, 30, 31, 32, 33, 49, 50, 51, 52, 53, 54, 55] (by decide +kernel) (by decide +kernel)
set_option maxRecDepth 20000 in
theorem gX3_init_X1_init : GoodIn wsX3_init (wsX1_init) := ggX3_init_X1_init
set_option maxRecDepth 20000 in
theorem ggX3_init_X2_init : GoodIn wsX3_init wsX2_init := goodIn_r _ [36, 37, 2, 3, 31, 38, 39, 40, 41, 64, 65, 66] (by decide +kernel) (by decide +kernel)
set_option maxRecDepth 20000 in
theorem gX3_init_X2_init : GoodIn wsX3_init (wsX2_init) := ggX3_init_X2_init
set_option maxRecDepth 20000 in
theorem ggX3_init_X0_init : GoodIn wsX3_init wsX0_init := goodIn_r _ [44, 45, 2, 3, 25, 46, 47, 48, 67, 68, 69] (by decide +kernel) (by decide +kernel)
set_option maxRecDepth 20000 in
theorem gX3_init_X0_init : GoodIn wsX3_init (wsX0_init) := ggX3_init_X0_init
theorem dX3_init_0 : decode cX3_init 0 = .ok (.aload_n 0, 1) := by decide +kernel
theorem dX3_init_1 : decode cX3_init 1 = .ok (.invokespecial 3, 3) := by decide +kernel
theorem dX3_init_4 : decode cX3_init 4 = .ok (.aload_n 0, 1) := by decide +kernel
theorem dX3_init_5 : decode cX3_init 5 = .ok (.new 9, 3) := by decide +kernel
theorem dX3_init_8 : decode cX3_init 8 = .ok (.dup, 1) := by decide +kernel
theorem dX3_init_9 : decode cX3_init 9 = .ok (.bipush 60, 2) := by decide +kernel
theorem dX3_init_11 : decode cX3_init 11 = .ok (.invokespecial 13, 3) := by decide +kernel
theorem dX3_init_14 : decode cX3_init 14 = .ok (.putfield 16, 3) := by decide +kernel
theorem dX3_init_17 : decode cX3_init 17 = .ok (.aload_n 0, 1) := by decide +kernel
theorem dX3_init_18 : decode cX3_init 18 = .ok (.new 9, 3) := by decide +kernel
theorem dX3_init_21 : decode cX3_init 21 = .ok (.dup, 1) := by decide +kernel
theorem dX3_init_22 : decode cX3_init 22 = .ok (.sipush 200, 3) := by decide +kernel
theorem dX3_init_25 : decode cX3_init 25 = .ok (.invokespecial 13, 3) := by decide +kernel
theorem dX3_init_28 : decode cX3_init 28 = .ok (.putfield 20, 3) := by decide +kernel
theorem dX3_init_31 : decode cX3_init 31 = .ok (.aload_n 0, 1) := by decide +kernel
theorem dX3_init_32 : decode cX3_init 32 = .ok (.bipush 8, 2) := by decide +kernel
theorem dX3_init_34 : decode cX3_init 34 = .ok (.anewarray 23, 3) := by decide +kernel
theorem dX3_init_37 : decode cX3_init 37 = .ok (.putfield 25, 3) := by decide +kernel
theorem dX3_init_40 : decode cX3_init 40 = .ok (.iconst 0, 1) := by decide +kernel
theorem dX3_init_41 : decode cX3_init 41 = .ok (.istore_n 1, 1) := by decide +kernel
theorem dX3_init_42 : decode cX3_init 42 = .ok (.iload_n 1, 1) := by decide +kernel
theorem dX3_init_43 : decode cX3_init 43 = .ok (.bipush 8, 2) := by decide +kernel
theorem dX3_init_45 : decode cX3_init 45 = .ok (.if_icmp .ge 22, 3) := by decide +kernel
theorem dX3_init_48 : decode cX3_init 48 = .ok (.aload_n 0, 1) := by decide +kernel
theorem dX3_init_49 : decode cX3_init 49 = .ok (.getfield 25, 3) := by decide +kernel
theorem dX3_init_52 : decode cX3_init 52 = .ok (.iload_n 1, 1) := by decide +kernel
theorem dX3_init_53 : decode cX3_init 53 = .ok (.new 23, 3) := by decide +kernel
theorem dX3_init_56 : decode cX3_init 56 = .ok (.dup, 1) := by decide +kernel
theorem dX3_init_57 : decode cX3_init 57 = .ok (.invokespecial 29, 3) := by decide +kernel
theorem dX3_init_60 : decode cX3_init 60 = .ok (.aastore, 1) := by decide +kernel
theorem dX3_init_61 : decode cX3_init 61 = .ok (.iinc 1 1, 3) := by decide +kernel
theorem dX3_init_64 : decode cX3_init 64 = .ok (.goto (-22), 3) := by decide +kernel
theorem dX3_init_67 : decode cX3_init 67 = .ok (.aload_n 0, 1) := by decide +kernel
theorem dX3_init_68 : decode cX3_init 68 = .ok (.new 23, 3) := by decide +kernel
theorem dX3_init_71 : decode cX3_init 71 = .ok (.dup, 1) := by decide +kernel
theorem dX3_init_72 : decode cX3_init 72 = .ok (.invokespecial 29, 3) := by decide +kernel
theorem dX3_init_75 : decode cX3_init 75 = .ok (.putfield 30, 3) := by decide +kernel
theorem dX3_init_78 : decode cX3_init 78 = .ok (.aload_n 0, 1) := by decide +kernel
theorem dX3_init_79 : decode cX3_init 79 = .ok (.new 23, 3) := by decide +kernel
theorem dX3_init_82 : decode cX3_init 82 = .ok (.dup, 1) := by decide +kernel
theorem dX3_init_83 : decode cX3_init 83 = .ok (.invokespecial 29, 3) := by decide +kernel
theorem dX3_init_86 : decode cX3_init 86 = .ok (.putfield 34, 3) := by decide +kernel
theorem dX3_init_89 : decode cX3_init 89 = .ok (.aload_n 0, 1) := by decide +kernel
theorem dX3_init_90 : decode cX3_init 90 = .ok (.new 37, 3) := by decide +kernel
theorem dX3_init_93 : decode cX3_init 93 = .ok (.dup, 1) := by decide +kernel
theorem dX3_init_94 : decode cX3_init 94 = .ok (.invokespecial 39, 3) := by decide +kernel
theorem dX3_init_97 : decode cX3_init 97 = .ok (.putfield 40, 3) := by decide +kernel
theorem dX3_init_100 : decode cX3_init 100 = .ok (.aload_n 0, 1) := by decide +kernel
theorem dX3_init_101 : decode cX3_init 101 = .ok (.iconst 0, 1) := by decide +kernel
theorem dX3_init_102 : decode cX3_init 102 = .ok (.putfield 44, 3) := by decide +kernel
theorem dX3_init_105 : decode cX3_init 105 = .ok (.aload_n 0, 1) := by decide +kernel
theorem dX3_init_106 : decode cX3_init 106 = .ok (.iconst 0, 1) := by decide +kernel
theorem dX3_init_107 : decode cX3_init 107 = .ok (.putfield 48, 3) := by decide +kernel
theorem dX3_init_110 : decode cX3_init 110 = .ok (.return_, 1) := by decide +kernel
set_option maxRecDepth 20000 in
theorem ggX3_child_X3_isWithin : GoodIn wsX3_child wsX3_isWithin := goodIn_r _ [6] (by decide +kernel) (by decide +kernel)
set_option maxRecDepth 20000 in
theorem gX3_child_X3_isWithin : GoodIn wsX3_child (va_wsS RX3 52 yX3_isWithin wsX3_isWithin) := goodIn_app (goodIn_of _ (by decide +kernel)) ggX3_child_X3_isWithin
set_option maxRecDepth 20000 in
theorem ggX3_child_X3_areTold : GoodIn wsX3_child wsX3_areTold := goodIn_r _ [9, 10, 11, 5, 12, 3, 4, 6] (by decide +kernel) (by decide +kernel)
set_option maxRecDepth 20000 in
theorem gX3_child_X3_areTold : GoodIn wsX3_child (va_wsS RX3 56 yX3_areTold wsX3_areTold) := goodIn_app (goodIn_of _ (by decide +kernel)) ggX3_child_X3_areTold
set_option maxRecDepth 20000 in
theorem ggX3_child_X1_append : GoodIn wsX3_child wsX1_append := goodIn_r _ [17, 18, 19, 20, 21, 22, 23, 24, 33, 34, 35, 36, 37, 38, 39] (by decide +kernel) (by decide +kernel)
set_option maxRecDepth 20000 in
theorem gX3_child_X1_append : GoodIn wsX3_child (wsV RX3 62 RX1 yX1_append wsX1_append) := goodIn_app (goodIn_of _ (by decide +kernel)) ggX3_child_X1_append
theorem dX3_child_0 : decode cX3_child 0 = .ok (.iload_n 1, 1) := by decide +kernel
theorem dX3_child_1 : decode cX3_child 1 = .ok (.iconst 0, 1) := by decide +kernel
theorem dX3_child_2 : decode cX3_child 2 = .ok (.iconst 1, 1) := by decide +kernel
theorem dX3_child_3 : decode cX3_child 3 = .ok (.invokestatic 52, 3) := by decide +kernel
theorem dX3_child_6 : decode cX3_child 6 = .ok (.ifCond .eq 13, 3) := by decide +kernel
theorem dX3_child_9 : decode cX3_child 9 = .ok (.iload_n 2, 1) := by decide +kernel
theorem dX3_child_10 : decode cX3_child 10 = .ok (.iload_n 3, 1) := by decide +kernel
theorem dX3_child_11 : decode cX3_child 11 = .ok (.iload 4, 2) := by decide +kernel
theorem dX3_child_13 : decode cX3_child 13 = .ok (.invokestatic 56, 3) := by decide +kernel
theorem dX3_child_16 : decode cX3_child 16 = .ok (.ifCond .ne 6, 3) := by decide +kernel
theorem dX3_child_19 : decode cX3_child 19 = .ok (.bipush (-2), 2) := by decide +kernel
theorem dX3_child_21 : decode cX3_child 21 = .ok (.ireturn, 1) := by decide +kernel
theorem dX3_child_22 : decode cX3_child 22 = .ok (.aload_n 0, 1) := by decide +kernel
theorem dX3_child_23 : decode cX3_child 23 = .ok (.getfield 16, 3) := by decide +kernel
theorem dX3_child_26 : decode cX3_child 26 = .ok (.getfield 59, 3) := by decide +kernel
theorem dX3_child_29 : decode cX3_child 29 = .ok (.bipush 60, 2) := by decide +kernel
theorem dX3_child_31 : decode cX3_child 31 = .ok (.if_icmp .lt 6, 3) := by decide +kernel
theorem dX3_child_34 : decode cX3_child 34 = .ok (.bipush (-4), 2) := by decide +kernel
theorem dX3_child_36 : decode cX3_child 36 = .ok (.ireturn, 1) := by decide +kernel
theorem dX3_child_37 : decode cX3_child 37 = .ok (.aload_n 0, 1) := by decide +kernel
theorem dX3_child_38 : decode cX3_child 38 = .ok (.getfield 16, 3) := by decide +kernel
theorem dX3_child_41 : decode cX3_child 41 = .ok (.iload_n 1, 1) := by decide +kernel
theorem dX3_child_42 : decode cX3_child 42 = .ok (.iload_n 2, 1) := by decide +kernel
theorem dX3_child_43 : decode cX3_child 43 = .ok (.iload_n 3, 1) := by decide +kernel
theorem dX3_child_44 : decode cX3_child 44 = .ok (.iload 4, 2) := by decide +kernel
theorem dX3_child_46 : decode cX3_child 46 = .ok (.iconst (-1), 1) := by decide +kernel
theorem dX3_child_47 : decode cX3_child 47 = .ok (.invokevirtual 62, 3) := by decide +kernel
theorem dX3_child_50 : decode cX3_child 50 = .ok (.aload_n 0, 1) := by decide +kernel
theorem dX3_child_51 : decode cX3_child 51 = .ok (.getfield 16, 3) := by decide +kernel
theorem dX3_child_54 : decode cX3_child 54 = .ok (.getfield 59, 3) := by decide +kernel
theorem dX3_child_57 : decode cX3_child 57 = .ok (.ireturn, 1) := by decide +kernel
set_option maxRecDepth 20000 in
theorem ggX3_close_X3_isKey : GoodIn wsX3_close wsX3_isKey := goodIn_r _ [7, 8, 9, 6, 10] (by decide +kernel) (by decide +kernel)
set_option maxRecDepth 20000 in
theorem gX3_close_X3_isKey : GoodIn wsX3_close (va_wsS RX3 66 yX3_isKey wsX3_isKey) := goodIn_app (goodIn_of _ (by decide +kernel)) ggX3_close_X3_isKey
set_option maxRecDepth 20000 in
theorem ggX3_close_X3_areTold : GoodIn wsX3_close wsX3_areTold := goodIn_r _ [13, 14, 15, 6, 16, 8, 9, 10] (by decide +kernel) (by decide +kernel)
set_option maxRecDepth 20000 in
theorem gX3_close_X3_areTold : GoodIn wsX3_close (va_wsS RX3 56 yX3_areTold wsX3_areTold) := goodIn_app (goodIn_of _ (by decide +kernel)) ggX3_close_X3_areTold
set_option maxRecDepth 20000 in
theorem ggX3_close_X1_livingRoot : GoodIn wsX3_close wsX1_livingRoot := goodIn_r _ [21, 22, 23, 24, 25, 26, 27, 20, 28, 29, 68, 69, 70, 71, 72, 73, 74] (by decide +kernel) (by decide +kernel)
set_option maxRecDepth 20000 in
theorem gX3_close_X1_livingRoot : GoodIn wsX3_close (wsV RX3 70 RX1 yX1_livingRoot wsX1_livingRoot) := goodIn_app (goodIn_of _ (by decide +kernel)) ggX3_close_X1_livingRoot
set_option maxRecDepth 20000 in
theorem ggX3_close_X1_killBlock : GoodIn wsX3_close wsX1_killBlock := goodIn_r _ [33, 23, 34, 35, 36, 20, 37, 29, 68, 69, 70, 71, 72, 73, 74] (by decide +kernel) (by decide +kernel)
set_option maxRecDepth 20000 in
theorem gX3_close_X1_killBlock : GoodIn wsX3_close (wsV RX3 74 RX1 yX1_killBlock wsX1_killBlock) := goodIn_app (goodIn_of _ (by decide +kernel)) ggX3_close_X1_killBlock
set_option maxRecDepth 20000 in
theorem ggX3_close_X3_forgetSets : GoodIn wsX3_close wsX3_forgetSets := goodIn_r _ [41, 42, 43, 60, 61, 62, 63, 64, 65, 66, 67] (by decide +kernel) (by decide +kernel)
set_option maxRecDepth 20000 in
theorem gX3_close_X3_forgetSets : GoodIn wsX3_close (wsV RX3 77 RX3 yX3_forgetSets wsX3_forgetSets) := goodIn_app (goodIn_of _ (by decide +kernel)) ggX3_close_X3_forgetSets
set_option maxRecDepth 20000 in
theorem ggX3_close_X1_appendAll : GoodIn wsX3_close wsX1_appendAll := goodIn_r _ [47, 22, 48, 49, 50, 20, 51, 29, 52, 53, 54, 24, 55, 56, 57, 58, 23, 68, 69, 70, 71, 72, 73, 74] (by decide +kernel) (by decide +kernel)
set_option maxRecDepth 20000 in
theorem gX3_close_X1_appendAll : GoodIn wsX3_close (wsV RX3 80 RX1 yX1_appendAll wsX1_appendAll) := goodIn_app (goodIn_of _ (by decide +kernel)) ggX3_close_X1_appendAll
set_option maxRecDepth 20000 in
theorem ggX3_close_X1_append : GoodIn wsX3_close wsX1_append := goodIn_r _ [58, 29, 22, 52, 53, 54, 24, 23, 68, 69, 70, 71, 72, 73, 74] (by decide +kernel) (by decide +kernel)
set_option maxRecDepth 20000 in
theorem gX3_close_X1_append : GoodIn wsX3_close (wsV RX3 62 RX1 yX1_append wsX1_append) := goodIn_app (goodIn_of _ (by decide +kernel)) ggX3_close_X1_append
theorem dX3_close_0 : decode cX3_close 0 = .ok (.iload_n 1, 1) := by decide +kernel
theorem dX3_close_1 : decode cX3_close 1 = .ok (.invokestatic 66, 3) := by decide +kernel
theorem dX3_close_4 : decode cX3_close 4 = .ok (.ifCond .eq 13, 3) := by decide +kernel
theorem dX3_close_7 : decode cX3_close 7 = .ok (.iload_n 2, 1) := by decide +kernel
theorem dX3_close_8 : decode cX3_close 8 = .ok (.iload_n 3, 1) := by decide +kernel
theorem dX3_close_9 : decode cX3_close 9 = .ok (.iload 4, 2) := by decide +kernel
theorem dX3_close_11 : decode cX3_close 11 = .ok (.invokestatic 56, 3) := by decide +kernel
theorem dX3_close_14 : decode cX3_close 14 = .ok (.ifCond .ne 6, 3) := by decide +kernel
theorem dX3_close_17 : decode cX3_close 17 = .ok (.bipush (-2), 2) := by decide +kernel
theorem dX3_close_19 : decode cX3_close 19 = .ok (.ireturn, 1) := by decide +kernel
theorem dX3_close_20 : decode cX3_close 20 = .ok (.aload_n 0, 1) := by decide +kernel
theorem dX3_close_21 : decode cX3_close 21 = .ok (.getfield 20, 3) := by decide +kernel
theorem dX3_close_24 : decode cX3_close 24 = .ok (.getfield 59, 3) := by decide +kernel
theorem dX3_close_27 : decode cX3_close 27 = .ok (.aload_n 0, 1) := by decide +kernel
theorem dX3_close_28 : decode cX3_close 28 = .ok (.getfield 16, 3) := by decide +kernel
theorem dX3_close_31 : decode cX3_close 31 = .ok (.getfield 59, 3) := by decide +kernel
theorem dX3_close_34 : decode cX3_close 34 = .ok (.iadd, 1) := by decide +kernel
theorem dX3_close_35 : decode cX3_close 35 = .ok (.iconst 1, 1) := by decide +kernel
theorem dX3_close_36 : decode cX3_close 36 = .ok (.iadd, 1) := by decide +kernel
theorem dX3_close_37 : decode cX3_close 37 = .ok (.sipush 200, 3) := by decide +kernel
theorem dX3_close_40 : decode cX3_close 40 = .ok (.if_icmp .le 6, 3) := by decide +kernel
theorem dX3_close_43 : decode cX3_close 43 = .ok (.bipush (-4), 2) := by decide +kernel
theorem dX3_close_45 : decode cX3_close 45 = .ok (.ireturn, 1) := by decide +kernel
theorem dX3_close_46 : decode cX3_close 46 = .ok (.aload_n 0, 1) := by decide +kernel
theorem dX3_close_47 : decode cX3_close 47 = .ok (.getfield 20, 3) := by decide +kernel
theorem dX3_close_50 : decode cX3_close 50 = .ok (.iload_n 1, 1) := by decide +kernel
theorem dX3_close_51 : decode cX3_close 51 = .ok (.invokevirtual 70, 3) := by decide +kernel
theorem dX3_close_54 : decode cX3_close 54 = .ok (.istore 5, 2) := by decide +kernel
theorem dX3_close_56 : decode cX3_close 56 = .ok (.iload 5, 2) := by decide +kernel
theorem dX3_close_58 : decode cX3_close 58 = .ok (.iconst (-1), 1) := by decide +kernel
theorem dX3_close_59 : decode cX3_close 59 = .ok (.if_icmp .eq 17, 3) := by decide +kernel
theorem dX3_close_62 : decode cX3_close 62 = .ok (.aload_n 0, 1) := by decide +kernel
theorem dX3_close_63 : decode cX3_close 63 = .ok (.getfield 20, 3) := by decide +kernel
theorem dX3_close_66 : decode cX3_close 66 = .ok (.iload 5, 2) := by decide +kernel
theorem dX3_close_68 : decode cX3_close 68 = .ok (.invokevirtual 74, 3) := by decide +kernel
theorem dX3_close_71 : decode cX3_close 71 = .ok (.pop, 1) := by decide +kernel
theorem dX3_close_72 : decode cX3_close 72 = .ok (.aload_n 0, 1) := by decide +kernel
theorem dX3_close_73 : decode cX3_close 73 = .ok (.invokevirtual 77, 3) := by decide +kernel
theorem dX3_close_76 : decode cX3_close 76 = .ok (.aload_n 0, 1) := by decide +kernel
theorem dX3_close_77 : decode cX3_close 77 = .ok (.getfield 20, 3) := by decide +kernel
theorem dX3_close_80 : decode cX3_close 80 = .ok (.aload_n 0, 1) := by decide +kernel
theorem dX3_close_81 : decode cX3_close 81 = .ok (.getfield 16, 3) := by decide +kernel
theorem dX3_close_84 : decode cX3_close 84 = .ok (.invokevirtual 80, 3) := by decide +kernel
theorem dX3_close_87 : decode cX3_close 87 = .ok (.aload_n 0, 1) := by decide +kernel
theorem dX3_close_88 : decode cX3_close 88 = .ok (.getfield 20, 3) := by decide +kernel
theorem dX3_close_91 : decode cX3_close 91 = .ok (.iconst 2, 1) := by decide +kernel
theorem dX3_close_92 : decode cX3_close 92 = .ok (.iload_n 2, 1) := by decide +kernel
theorem dX3_close_93 : decode cX3_close 93 = .ok (.iload_n 3, 1) := by decide +kernel
theorem dX3_close_94 : decode cX3_close 94 = .ok (.iload 4, 2) := by decide +kernel
theorem dX3_close_96 : decode cX3_close 96 = .ok (.iload_n 1, 1) := by decide +kernel
theorem dX3_close_97 : decode cX3_close 97 = .ok (.invokevirtual 62, 3) := by decide +kernel
theorem dX3_close_100 : decode cX3_close 100 = .ok (.aload_n 0, 1) := by decide +kernel
theorem dX3_close_101 : decode cX3_close 101 = .ok (.getfield 16, 3) := by decide +kernel
theorem dX3_close_104 : decode cX3_close 104 = .ok (.iconst 0, 1) := by decide +kernel
theorem dX3_close_105 : decode cX3_close 105 = .ok (.putfield 59, 3) := by decide +kernel
theorem dX3_close_108 : decode cX3_close 108 = .ok (.aload_n 0, 1) := by decide +kernel
theorem dX3_close_109 : decode cX3_close 109 = .ok (.getfield 20, 3) := by decide +kernel
theorem dX3_close_112 : decode cX3_close 112 = .ok (.getfield 59, 3) := by decide +kernel
theorem dX3_close_115 : decode cX3_close 115 = .ok (.iconst 1, 1) := by decide +kernel
theorem dX3_close_116 : decode cX3_close 116 = .ok (.isub, 1) := by decide +kernel
theorem dX3_close_117 : decode cX3_close 117 = .ok (.ireturn, 1) := by decide +kernel
theorem dX3_drop_0 : decode cX3_drop 0 = .ok (.aload_n 0, 1) := by decide +kernel
theorem dX3_drop_1 : decode cX3_drop 1 = .ok (.getfield 16, 3) := by decide +kernel
theorem dX3_drop_4 : decode cX3_drop 4 = .ok (.getfield 59, 3) := by decide +kernel
theorem dX3_drop_7 : decode cX3_drop 7 = .ok (.istore_n 1, 1) := by decide +kernel
theorem dX3_drop_8 : decode cX3_drop 8 = .ok (.aload_n 0, 1) := by decide +kernel
theorem dX3_drop_9 : decode cX3_drop 9 = .ok (.getfield 16, 3) := by decide +kernel
theorem dX3_drop_12 : decode cX3_drop 12 = .ok (.iconst 0, 1) := by decide +kernel
theorem dX3_drop_13 : decode cX3_drop 13 = .ok (.putfield 59, 3) := by decide +kernel
theorem dX3_drop_16 : decode cX3_drop 16 = .ok (.iload_n 1, 1) := by decide +kernel
theorem dX3_drop_17 : decode cX3_drop 17 = .ok (.ireturn, 1) := by decide +kernel
set_option maxRecDepth 20000 in
theorem ggX3_kill_X1_livingRoot : GoodIn wsX3_kill wsX1_livingRoot := goodIn_r _ [6, 7, 8, 9, 10, 11, 12, 5, 13, 14, 38, 39, 40, 41, 42, 43, 44] (by decide +kernel) (by decide +kernel)
set_option maxRecDepth 20000 in
theorem gX3_kill_X1_livingRoot : GoodIn wsX3_kill (wsV RX3 70 RX1 yX1_livingRoot wsX1_livingRoot) := goodIn_app (goodIn_of _ (by decide +kernel)) ggX3_kill_X1_livingRoot
set_option maxRecDepth 20000 in
theorem ggX3_kill_X3_forgetSets : GoodIn wsX3_kill wsX3_forgetSets := goodIn_r _ [19, 20, 21, 30, 31, 32, 33, 34, 35, 36, 37] (by decide +kernel) (by decide +kernel)
set_option maxRecDepth 20000 in
theorem gX3_kill_X3_forgetSets : GoodIn wsX3_kill (wsV RX3 77 RX3 yX3_forgetSets wsX3_forgetSets) := goodIn_app (goodIn_of _ (by decide +kernel)) ggX3_kill_X3_forgetSets
set_option maxRecDepth 20000 in
theorem ggX3_kill_X1_killBlock : GoodIn wsX3_kill wsX1_killBlock := goodIn_r _ [25, 8, 26, 27, 28, 5, 29, 14, 38, 39, 40, 41, 42, 43, 44] (by decide +kernel) (by decide +kernel)
set_option maxRecDepth 20000 in
theorem gX3_kill_X1_killBlock : GoodIn wsX3_kill (wsV RX3 74 RX1 yX1_killBlock wsX1_killBlock) := goodIn_app (goodIn_of _ (by decide +kernel)) ggX3_kill_X1_killBlock
theorem dX3_kill_0 : decode cX3_kill 0 = .ok (.aload_n 0, 1) := by decide +kernel
theorem dX3_kill_1 : decode cX3_kill 1 = .ok (.getfield 20, 3) := by decide +kernel
theorem dX3_kill_4 : decode cX3_kill 4 = .ok (.iload_n 1, 1) := by decide +kernel
theorem dX3_kill_5 : decode cX3_kill 5 = .ok (.invokevirtual 70, 3) := by decide +kernel
theorem dX3_kill_8 : decode cX3_kill 8 = .ok (.istore_n 2, 1) := by decide +kernel
theorem dX3_kill_9 : decode cX3_kill 9 = .ok (.iload_n 2, 1) := by decide +kernel
theorem dX3_kill_10 : decode cX3_kill 10 = .ok (.iconst (-1), 1) := by decide +kernel
theorem dX3_kill_11 : decode cX3_kill 11 = .ok (.if_icmp .ne 5, 3) := by decide +kernel
theorem dX3_kill_14 : decode cX3_kill 14 = .ok (.iconst (-1), 1) := by decide +kernel
theorem dX3_kill_15 : decode cX3_kill 15 = .ok (.ireturn, 1) := by decide +kernel
theorem dX3_kill_16 : decode cX3_kill 16 = .ok (.aload_n 0, 1) := by decide +kernel
theorem dX3_kill_17 : decode cX3_kill 17 = .ok (.invokevirtual 77, 3) := by decide +kernel
theorem dX3_kill_20 : decode cX3_kill 20 = .ok (.aload_n 0, 1) := by decide +kernel
theorem dX3_kill_21 : decode cX3_kill 21 = .ok (.getfield 20, 3) := by decide +kernel
theorem dX3_kill_24 : decode cX3_kill 24 = .ok (.iload_n 2, 1) := by decide +kernel
theorem dX3_kill_25 : decode cX3_kill 25 = .ok (.invokevirtual 74, 3) := by decide +kernel
theorem dX3_kill_28 : decode cX3_kill 28 = .ok (.ireturn, 1) := by decide +kernel
set_option maxRecDepth 20000 in
theorem ggX3_merge_X1_keepLiving : GoodIn wsX3_merge wsX1_keepLiving := goodIn_r _ [7, 8, 9, 10, 11, 12, 6, 13, 14, 15, 16, 17, 18, 19, 20, 21, 22, 38, 39, 40, 41, 42, 43, 44] (by decide +kernel) (by decide +kernel)
set_option maxRecDepth 20000 in
theorem gX3_merge_X1_keepLiving : GoodIn wsX3_merge (wsV RX3 84 RX1 yX1_keepLiving wsX1_keepLiving) := goodIn_app (goodIn_of _ (by decide +kernel)) ggX3_merge_X1_keepLiving
set_option maxRecDepth 20000 in
theorem ggX3_merge_X3_forgetSets : GoodIn wsX3_merge wsX3_forgetSets := goodIn_r _ [27, 28, 29, 30, 31, 32, 33, 34, 35, 36, 37] (by decide +kernel) (by decide +kernel)
set_option maxRecDepth 20000 in
theorem gX3_merge_X3_forgetSets : GoodIn wsX3_merge (wsV RX3 77 RX3 yX3_forgetSets wsX3_forgetSets) := goodIn_app (goodIn_of _ (by decide +kernel)) ggX3_merge_X3_forgetSets
theorem dX3_merge_0 : decode cX3_merge 0 = .ok (.aload_n 0, 1) := by decide +kernel
theorem dX3_merge_1 : decode cX3_merge 1 = .ok (.getfield 20, 3) := by decide +kernel
theorem dX3_merge_4 : decode cX3_merge 4 = .ok (.invokevirtual 84, 3) := by decide +kernel
theorem dX3_merge_7 : decode cX3_merge 7 = .ok (.aload_n 0, 1) := by decide +kernel
theorem dX3_merge_8 : decode cX3_merge 8 = .ok (.invokevirtual 77, 3) := by decide +kernel
theorem dX3_merge_11 : decode cX3_merge 11 = .ok (.aload_n 0, 1) := by decide +kernel
theorem dX3_merge_12 : decode cX3_merge 12 = .ok (.getfield 20, 3) := by decide +kernel
theorem dX3_merge_15 : decode cX3_merge 15 = .ok (.getfield 59, 3) := by decide +kernel
theorem dX3_merge_18 : decode cX3_merge 18 = .ok (.ireturn, 1) := by decide +kernel
set_option maxRecDepth 20000 in
theorem ggX3_object_X1_holds : GoodIn wsX3_object wsX1_holds := goodIn_r _ [12, 13, 35, 36, 37, 38, 39, 40, 41] (by decide +kernel) (by decide +kernel)
set_option maxRecDepth 20000 in
theorem gX3_object_X1_holds : GoodIn wsX3_object (wsV RX3 87 RX1 yX1_holds wsX1_holds) := goodIn_app (goodIn_of _ (by decide +kernel)) ggX3_object_X1_holds
set_option maxRecDepth 20000 in
theorem ggX3_object_X1_isRoot : GoodIn wsX3_object wsX1_isRoot := goodIn_r _ [17, 18, 35, 36, 37, 38, 39, 40, 41] (by decide +kernel) (by decide +kernel)
set_option maxRecDepth 20000 in
theorem gX3_object_X1_isRoot : GoodIn wsX3_object (wsV RX3 103 RX1 yX1_isRoot wsX1_isRoot) := goodIn_app (goodIn_of _ (by decide +kernel)) ggX3_object_X1_isRoot
set_option maxRecDepth 20000 in
theorem ggX3_object_X1_parentOf : GoodIn wsX3_object wsX1_parentOf := goodIn_r _ [22, 13, 18, 35, 36, 37, 38, 39, 40, 41] (by decide +kernel) (by decide +kernel)
set_option maxRecDepth 20000 in
theorem gX3_object_X1_parentOf : GoodIn wsX3_object (wsV RX3 109 RX1 yX1_parentOf wsX1_parentOf) := goodIn_app (goodIn_of _ (by decide +kernel)) ggX3_object_X1_parentOf
set_option maxRecDepth 20000 in
theorem ggX3_object_X1_firstBelow : GoodIn wsX3_object wsX1_firstBelow := goodIn_r _ [26, 18, 35, 36, 37, 38, 39, 40, 41] (by decide +kernel) (by decide +kernel)
set_option maxRecDepth 20000 in
theorem gX3_object_X1_firstBelow : GoodIn wsX3_object (wsV RX3 116 RX1 yX1_firstBelow wsX1_firstBelow) := goodIn_app (goodIn_of _ (by decide +kernel)) ggX3_object_X1_firstBelow
theorem dX3_object_0 : decode cX3_object 0 = .ok (.aload_n 0, 1) := by decide +kernel
theorem dX3_object_1 : decode cX3_object 1 = .ok (.getfield 20, 3) := by decide +kernel
theorem dX3_object_4 : decode cX3_object 4 = .ok (.iload_n 1, 1) := by decide +kernel
theorem dX3_object_5 : decode cX3_object 5 = .ok (.invokevirtual 87, 3) := by decide +kernel
theorem dX3_object_8 : decode cX3_object 8 = .ok (.ifCond .ne 5, 3) := by decide +kernel
theorem dX3_object_11 : decode cX3_object 11 = .ok (.iconst (-1), 1) := by decide +kernel
theorem dX3_object_12 : decode cX3_object 12 = .ok (.ireturn, 1) := by decide +kernel
theorem dX3_object_13 : decode cX3_object 13 = .ok (.iload_n 2, 1) := by decide +kernel
theorem dX3_object_14 : decode cX3_object 14 = .ok (.tableswitch 166 0 7 #[46, 56, 66, 76, 86, 112, 137, 155], 46) := by decide +kernel
theorem dX3_object_60 : decode cX3_object 60 = .ok (.aload_n 0, 1) := by decide +kernel
theorem dX3_object_61 : decode cX3_object 61 = .ok (.getfield 20, 3) := by decide +kernel
theorem dX3_object_64 : decode cX3_object 64 = .ok (.getfield 90, 3) := by decide +kernel
theorem dX3_object_67 : decode cX3_object 67 = .ok (.iload_n 1, 1) := by decide +kernel
theorem dX3_object_68 : decode cX3_object 68 = .ok (.iaload, 1) := by decide +kernel
theorem dX3_object_69 : decode cX3_object 69 = .ok (.ireturn, 1) := by decide +kernel
theorem dX3_object_70 : decode cX3_object 70 = .ok (.aload_n 0, 1) := by decide +kernel
theorem dX3_object_71 : decode cX3_object 71 = .ok (.getfield 20, 3) := by decide +kernel
theorem dX3_object_74 : decode cX3_object 74 = .ok (.getfield 94, 3) := by decide +kernel
theorem dX3_object_77 : decode cX3_object 77 = .ok (.iload_n 1, 1) := by decide +kernel
theorem dX3_object_78 : decode cX3_object 78 = .ok (.iaload, 1) := by decide +kernel
theorem dX3_object_79 : decode cX3_object 79 = .ok (.ireturn, 1) := by decide +kernel
theorem dX3_object_80 : decode cX3_object 80 = .ok (.aload_n 0, 1) := by decide +kernel
theorem dX3_object_81 : decode cX3_object 81 = .ok (.getfield 20, 3) := by decide +kernel
theorem dX3_object_84 : decode cX3_object 84 = .ok (.getfield 97, 3) := by decide +kernel
theorem dX3_object_87 : decode cX3_object 87 = .ok (.iload_n 1, 1) := by decide +kernel
theorem dX3_object_88 : decode cX3_object 88 = .ok (.iaload, 1) := by decide +kernel
theorem dX3_object_89 : decode cX3_object 89 = .ok (.ireturn, 1) := by decide +kernel
theorem dX3_object_90 : decode cX3_object 90 = .ok (.aload_n 0, 1) := by decide +kernel
theorem dX3_object_91 : decode cX3_object 91 = .ok (.getfield 20, 3) := by decide +kernel
theorem dX3_object_94 : decode cX3_object 94 = .ok (.getfield 100, 3) := by decide +kernel
theorem dX3_object_97 : decode cX3_object 97 = .ok (.iload_n 1, 1) := by decide +kernel
theorem dX3_object_98 : decode cX3_object 98 = .ok (.iaload, 1) := by decide +kernel
theorem dX3_object_99 : decode cX3_object 99 = .ok (.ireturn, 1) := by decide +kernel
theorem dX3_object_100 : decode cX3_object 100 = .ok (.aload_n 0, 1) := by decide +kernel
theorem dX3_object_101 : decode cX3_object 101 = .ok (.getfield 20, 3) := by decide +kernel
theorem dX3_object_104 : decode cX3_object 104 = .ok (.iload_n 1, 1) := by decide +kernel
theorem dX3_object_105 : decode cX3_object 105 = .ok (.invokevirtual 103, 3) := by decide +kernel
theorem dX3_object_108 : decode cX3_object 108 = .ok (.ifCond .eq 15, 3) := by decide +kernel
theorem dX3_object_111 : decode cX3_object 111 = .ok (.aload_n 0, 1) := by decide +kernel
theorem dX3_object_112 : decode cX3_object 112 = .ok (.getfield 20, 3) := by decide +kernel
theorem dX3_object_115 : decode cX3_object 115 = .ok (.getfield 106, 3) := by decide +kernel
theorem dX3_object_118 : decode cX3_object 118 = .ok (.iload_n 1, 1) := by decide +kernel
theorem dX3_object_119 : decode cX3_object 119 = .ok (.iaload, 1) := by decide +kernel
theorem dX3_object_120 : decode cX3_object 120 = .ok (.goto 5, 3) := by decide +kernel
theorem dX3_object_123 : decode cX3_object 123 = .ok (.bipush (-3), 2) := by decide +kernel
theorem dX3_object_125 : decode cX3_object 125 = .ok (.ireturn, 1) := by decide +kernel
theorem dX3_object_126 : decode cX3_object 126 = .ok (.aload_n 0, 1) := by decide +kernel
theorem dX3_object_127 : decode cX3_object 127 = .ok (.getfield 20, 3) := by decide +kernel
theorem dX3_object_130 : decode cX3_object 130 = .ok (.iload_n 1, 1) := by decide +kernel
theorem dX3_object_131 : decode cX3_object 131 = .ok (.invokevirtual 103, 3) := by decide +kernel
theorem dX3_object_134 : decode cX3_object 134 = .ok (.ifCond .eq 8, 3) := by decide +kernel
theorem dX3_object_137 : decode cX3_object 137 = .ok (.bipush (-3), 2) := by decide +kernel
theorem dX3_object_139 : decode cX3_object 139 = .ok (.goto 11, 3) := by decide +kernel
theorem dX3_object_142 : decode cX3_object 142 = .ok (.aload_n 0, 1) := by decide +kernel
theorem dX3_object_143 : decode cX3_object 143 = .ok (.getfield 20, 3) := by decide +kernel
theorem dX3_object_146 : decode cX3_object 146 = .ok (.iload_n 1, 1) := by decide +kernel
theorem dX3_object_147 : decode cX3_object 147 = .ok (.invokevirtual 109, 3) := by decide +kernel
theorem dX3_object_150 : decode cX3_object 150 = .ok (.ireturn, 1) := by decide +kernel
theorem dX3_object_151 : decode cX3_object 151 = .ok (.aload_n 0, 1) := by decide +kernel
theorem dX3_object_152 : decode cX3_object 152 = .ok (.getfield 20, 3) := by decide +kernel
theorem dX3_object_155 : decode cX3_object 155 = .ok (.getfield 112, 3) := by decide +kernel
theorem dX3_object_158 : decode cX3_object 158 = .ok (.iload_n 1, 1) := by decide +kernel
theorem dX3_object_159 : decode cX3_object 159 = .ok (.baload, 1) := by decide +kernel
theorem dX3_object_160 : decode cX3_object 160 = .ok (.ifCond .eq 7, 3) := by decide +kernel
theorem dX3_object_163 : decode cX3_object 163 = .ok (.iconst 1, 1) := by decide +kernel
theorem dX3_object_164 : decode cX3_object 164 = .ok (.goto 4, 3) := by decide +kernel
theorem dX3_object_167 : decode cX3_object 167 = .ok (.iconst 0, 1) := by decide +kernel
theorem dX3_object_168 : decode cX3_object 168 = .ok (.ireturn, 1) := by decide +kernel
theorem dX3_object_169 : decode cX3_object 169 = .ok (.iload_n 1, 1) := by decide +kernel
theorem dX3_object_170 : decode cX3_object 170 = .ok (.aload_n 0, 1) := by decide +kernel
theorem dX3_object_171 : decode cX3_object 171 = .ok (.getfield 20, 3) := by decide +kernel
theorem dX3_object_174 : decode cX3_object 174 = .ok (.iload_n 1, 1) := by decide +kernel
theorem dX3_object_175 : decode cX3_object 175 = .ok (.invokevirtual 116, 3) := by decide +kernel
theorem dX3_object_178 : decode cX3_object 178 = .ok (.isub, 1) := by decide +kernel
theorem dX3_object_179 : decode cX3_object 179 = .ok (.ireturn, 1) := by decide +kernel
theorem dX3_object_180 : decode cX3_object 180 = .ok (.bipush (-2), 2) := by decide +kernel
theorem dX3_object_182 : decode cX3_object 182 = .ok (.ireturn, 1) := by decide +kernel
set_option maxRecDepth 20000 in
theorem ggX3_count_X1_countLiving : GoodIn wsX3_count wsX1_countLiving := goodIn_r _ [9, 10, 11, 12, 21, 22, 23, 24, 25, 26, 27] (by decide +kernel) (by decide +kernel)
set_option maxRecDepth 20000 in
theorem gX3_count_X1_countLiving : GoodIn wsX3_count (wsV RX3 119 RX1 yX1_countLiving wsX1_countLiving) := goodIn_app (goodIn_of _ (by decide +kernel)) ggX3_count_X1_countLiving
theorem dX3_count_0 : decode cX3_count 0 = .ok (.iload_n 1, 1) := by decide +kernel
theorem dX3_count_1 : decode cX3_count 1 = .ok (.tableswitch 74 0 4 #[35, 43, 52, 61, 69], 35) := by decide +kernel
theorem dX3_count_36 : decode cX3_count 36 = .ok (.aload_n 0, 1) := by decide +kernel
theorem dX3_count_37 : decode cX3_count 37 = .ok (.getfield 20, 3) := by decide +kernel
theorem dX3_count_40 : decode cX3_count 40 = .ok (.getfield 59, 3) := by decide +kernel
theorem dX3_count_43 : decode cX3_count 43 = .ok (.ireturn, 1) := by decide +kernel
theorem dX3_count_44 : decode cX3_count 44 = .ok (.aload_n 0, 1) := by decide +kernel
theorem dX3_count_45 : decode cX3_count 45 = .ok (.getfield 20, 3) := by decide +kernel
theorem dX3_count_48 : decode cX3_count 48 = .ok (.iconst 0, 1) := by decide +kernel
theorem dX3_count_49 : decode cX3_count 49 = .ok (.invokevirtual 119, 3) := by decide +kernel
theorem dX3_count_52 : decode cX3_count 52 = .ok (.ireturn, 1) := by decide +kernel
theorem dX3_count_53 : decode cX3_count 53 = .ok (.aload_n 0, 1) := by decide +kernel
theorem dX3_count_54 : decode cX3_count 54 = .ok (.getfield 20, 3) := by decide +kernel
theorem dX3_count_57 : decode cX3_count 57 = .ok (.iconst 2, 1) := by decide +kernel
theorem dX3_count_58 : decode cX3_count 58 = .ok (.invokevirtual 119, 3) := by decide +kernel
theorem dX3_count_61 : decode cX3_count 61 = .ok (.ireturn, 1) := by decide +kernel
theorem dX3_count_62 : decode cX3_count 62 = .ok (.aload_n 0, 1) := by decide +kernel
theorem dX3_count_63 : decode cX3_count 63 = .ok (.getfield 16, 3) := by decide +kernel
theorem dX3_count_66 : decode cX3_count 66 = .ok (.getfield 59, 3) := by decide +kernel
theorem dX3_count_69 : decode cX3_count 69 = .ok (.ireturn, 1) := by decide +kernel
theorem dX3_count_70 : decode cX3_count 70 = .ok (.aload_n 0, 1) := by decide +kernel
theorem dX3_count_71 : decode cX3_count 71 = .ok (.getfield 44, 3) := by decide +kernel
theorem dX3_count_74 : decode cX3_count 74 = .ok (.ireturn, 1) := by decide +kernel
theorem dX3_count_75 : decode cX3_count 75 = .ok (.bipush (-2), 2) := by decide +kernel
theorem dX3_count_77 : decode cX3_count 77 = .ok (.ireturn, 1) := by decide +kernel
set_option maxRecDepth 20000 in
theorem ggX3_root_X1_livingRoot : GoodIn wsX3_root wsX1_livingRoot := goodIn_r _ [6, 7, 8, 9, 10, 11, 12, 5, 13, 14, 23, 24, 25, 26, 27, 28, 29] (by decide +kernel) (by decide +kernel)
set_option maxRecDepth 20000 in
theorem gX3_root_X1_livingRoot : GoodIn wsX3_root (wsV RX3 70 RX1 yX1_livingRoot wsX1_livingRoot) := goodIn_app (goodIn_of _ (by decide +kernel)) ggX3_root_X1_livingRoot
theorem dX3_root_0 : decode cX3_root 0 = .ok (.aload_n 0, 1) := by decide +kernel
theorem dX3_root_1 : decode cX3_root 1 = .ok (.getfield 20, 3) := by decide +kernel
theorem dX3_root_4 : decode cX3_root 4 = .ok (.iload_n 1, 1) := by decide +kernel
theorem dX3_root_5 : decode cX3_root 5 = .ok (.invokevirtual 70, 3) := by decide +kernel
theorem dX3_root_8 : decode cX3_root 8 = .ok (.istore_n 2, 1) := by decide +kernel
theorem dX3_root_9 : decode cX3_root 9 = .ok (.iload_n 2, 1) := by decide +kernel
theorem dX3_root_10 : decode cX3_root 10 = .ok (.iconst (-1), 1) := by decide +kernel
theorem dX3_root_11 : decode cX3_root 11 = .ok (.if_icmp .ne 7, 3) := by decide +kernel
theorem dX3_root_14 : decode cX3_root 14 = .ok (.iconst (-1), 1) := by decide +kernel
theorem dX3_root_15 : decode cX3_root 15 = .ok (.goto 4, 3) := by decide +kernel
theorem dX3_root_18 : decode cX3_root 18 = .ok (.iload_n 2, 1) := by decide +kernel
theorem dX3_root_19 : decode cX3_root 19 = .ok (.ireturn, 1) := by decide +kernel
set_option maxRecDepth 20000 in
theorem ggX3_find_X3_canBeFound : GoodIn wsX3_find wsX3_canBeFound := goodIn_r _ [10, 11, 12, 9, 13, 14, 15, 16, 17, 18, 19] (by decide +kernel) (by decide +kernel)
set_option maxRecDepth 20000 in
theorem gX3_find_X3_canBeFound : GoodIn wsX3_find (va_wsS RX3 122 yX3_canBeFound wsX3_canBeFound) := goodIn_app (goodIn_of _ (by decide +kernel)) ggX3_find_X3_canBeFound
set_option maxRecDepth 20000 in
theorem ggX3_find_X2_clear : GoodIn wsX3_find wsX2_clear := goodIn_r _ [24, 25, 26, 73, 74, 75] (by decide +kernel) (by decide +kernel)
set_option maxRecDepth 20000 in
theorem gX3_find_X2_clear : GoodIn wsX3_find (wsV RX3 125 RX2 yX2_clear wsX2_clear) := goodIn_app (goodIn_of _ (by decide +kernel)) ggX3_find_X2_clear
set_option maxRecDepth 20000 in
theorem ggX3_find_X3_isFound : GoodIn wsX3_find wsX3_isFound := goodIn_r _ [30, 3, 31, 32, 33, 34, 35, 11, 12, 9, 13, 36, 37, 38, 39, 40, 41, 58, 59, 60, 61, 62, 63, 64, 65, 66, 67, 68, 69, 70, 71, 72] (by decide +kernel) (by decide +kernel)
set_option maxRecDepth 20000 in
theorem gX3_find_X3_isFound : GoodIn wsX3_find (wsV RX3 128 RX3 yX3_isFound wsX3_isFound) := goodIn_app (goodIn_of _ (by decide +kernel)) ggX3_find_X3_isFound
set_option maxRecDepth 20000 in
theorem ggX3_find_X3_scoreFound : GoodIn wsX3_find wsX3_scoreFound := goodIn_r _ [45, 3, 32, 46, 47, 48, 49, 50, 51, 52, 58, 59, 60, 61, 62, 63, 64, 65, 66, 67, 68, 69, 70, 71, 72] (by decide +kernel) (by decide +kernel)
set_option maxRecDepth 20000 in
theorem gX3_find_X3_scoreFound : GoodIn wsX3_find (wsV RX3 132 RX3 yX3_scoreFound wsX3_scoreFound) := goodIn_app (goodIn_of _ (by decide +kernel)) ggX3_find_X3_scoreFound
set_option maxRecDepth 20000 in
theorem ggX3_find_X2_put : GoodIn wsX3_find wsX2_put := goodIn_r _ [56, 25, 26, 57, 73, 74, 75] (by decide +kernel) (by decide +kernel)
set_option maxRecDepth 20000 in
theorem gX3_find_X2_put : GoodIn wsX3_find (wsV RX3 136 RX2 yX2_put wsX2_put) := goodIn_app (goodIn_of _ (by decide +kernel)) ggX3_find_X2_put
theorem dX3_find_0 : decode cX3_find 0 = .ok (.iload_n 1, 1) := by decide +kernel
theorem dX3_find_1 : decode cX3_find 1 = .ok (.iload_n 2, 1) := by decide +kernel
theorem dX3_find_2 : decode cX3_find 2 = .ok (.iload_n 3, 1) := by decide +kernel
theorem dX3_find_3 : decode cX3_find 3 = .ok (.invokestatic 122, 3) := by decide +kernel
theorem dX3_find_6 : decode cX3_find 6 = .ok (.ifCond .ne 6, 3) := by decide +kernel
theorem dX3_find_9 : decode cX3_find 9 = .ok (.bipush (-2), 2) := by decide +kernel
theorem dX3_find_11 : decode cX3_find 11 = .ok (.ireturn, 1) := by decide +kernel
theorem dX3_find_12 : decode cX3_find 12 = .ok (.aload_n 0, 1) := by decide +kernel
theorem dX3_find_13 : decode cX3_find 13 = .ok (.getfield 44, 3) := by decide +kernel
theorem dX3_find_16 : decode cX3_find 16 = .ok (.bipush 8, 2) := by decide +kernel
theorem dX3_find_18 : decode cX3_find 18 = .ok (.if_icmp .lt 6, 3) := by decide +kernel
theorem dX3_find_21 : decode cX3_find 21 = .ok (.bipush (-4), 2) := by decide +kernel
theorem dX3_find_23 : decode cX3_find 23 = .ok (.ireturn, 1) := by decide +kernel
theorem dX3_find_24 : decode cX3_find 24 = .ok (.aload_n 0, 1) := by decide +kernel
theorem dX3_find_25 : decode cX3_find 25 = .ok (.getfield 25, 3) := by decide +kernel
theorem dX3_find_28 : decode cX3_find 28 = .ok (.aload_n 0, 1) := by decide +kernel
theorem dX3_find_29 : decode cX3_find 29 = .ok (.getfield 44, 3) := by decide +kernel
theorem dX3_find_32 : decode cX3_find 32 = .ok (.aaload, 1) := by decide +kernel
theorem dX3_find_33 : decode cX3_find 33 = .ok (.astore 4, 2) := by decide +kernel
theorem dX3_find_35 : decode cX3_find 35 = .ok (.aload 4, 2) := by decide +kernel
theorem dX3_find_37 : decode cX3_find 37 = .ok (.invokevirtual 125, 3) := by decide +kernel
theorem dX3_find_40 : decode cX3_find 40 = .ok (.iconst 0, 1) := by decide +kernel
theorem dX3_find_41 : decode cX3_find 41 = .ok (.istore 5, 2) := by decide +kernel
theorem dX3_find_43 : decode cX3_find 43 = .ok (.iload 5, 2) := by decide +kernel
theorem dX3_find_45 : decode cX3_find 45 = .ok (.aload_n 0, 1) := by decide +kernel
theorem dX3_find_46 : decode cX3_find 46 = .ok (.getfield 20, 3) := by decide +kernel
theorem dX3_find_49 : decode cX3_find 49 = .ok (.getfield 59, 3) := by decide +kernel
theorem dX3_find_52 : decode cX3_find 52 = .ok (.if_icmp .ge 49, 3) := by decide +kernel
theorem dX3_find_55 : decode cX3_find 55 = .ok (.aload_n 0, 1) := by decide +kernel
theorem dX3_find_56 : decode cX3_find 56 = .ok (.getfield 20, 3) := by decide +kernel
theorem dX3_find_59 : decode cX3_find 59 = .ok (.getfield 112, 3) := by decide +kernel
theorem dX3_find_62 : decode cX3_find 62 = .ok (.iload 5, 2) := by decide +kernel
theorem dX3_find_64 : decode cX3_find 64 = .ok (.baload, 1) := by decide +kernel
theorem dX3_find_65 : decode cX3_find 65 = .ok (.ifCond .eq 30, 3) := by decide +kernel
theorem dX3_find_68 : decode cX3_find 68 = .ok (.aload_n 0, 1) := by decide +kernel
theorem dX3_find_69 : decode cX3_find 69 = .ok (.iload 5, 2) := by decide +kernel
theorem dX3_find_71 : decode cX3_find 71 = .ok (.iload_n 1, 1) := by decide +kernel
theorem dX3_find_72 : decode cX3_find 72 = .ok (.iload_n 2, 1) := by decide +kernel
theorem dX3_find_73 : decode cX3_find 73 = .ok (.iload_n 3, 1) := by decide +kernel
theorem dX3_find_74 : decode cX3_find 74 = .ok (.invokevirtual 128, 3) := by decide +kernel
theorem dX3_find_77 : decode cX3_find 77 = .ok (.ifCond .eq 18, 3) := by decide +kernel
theorem dX3_find_80 : decode cX3_find 80 = .ok (.aload 4, 2) := by decide +kernel
theorem dX3_find_82 : decode cX3_find 82 = .ok (.iload 5, 2) := by decide +kernel
theorem dX3_find_84 : decode cX3_find 84 = .ok (.aload_n 0, 1) := by decide +kernel
theorem dX3_find_85 : decode cX3_find 85 = .ok (.iload 5, 2) := by decide +kernel
theorem dX3_find_87 : decode cX3_find 87 = .ok (.iload_n 1, 1) := by decide +kernel
theorem dX3_find_88 : decode cX3_find 88 = .ok (.iload_n 2, 1) := by decide +kernel
theorem dX3_find_89 : decode cX3_find 89 = .ok (.invokevirtual 132, 3) := by decide +kernel
theorem dX3_find_92 : decode cX3_find 92 = .ok (.invokevirtual 136, 3) := by decide +kernel
theorem dX3_find_95 : decode cX3_find 95 = .ok (.iinc 5 1, 3) := by decide +kernel
theorem dX3_find_98 : decode cX3_find 98 = .ok (.goto (-55), 3) := by decide +kernel
theorem dX3_find_101 : decode cX3_find 101 = .ok (.aload_n 0, 1) := by decide +kernel
theorem dX3_find_102 : decode cX3_find 102 = .ok (.dup, 1) := by decide +kernel
theorem dX3_find_103 : decode cX3_find 103 = .ok (.getfield 44, 3) := by decide +kernel
theorem dX3_find_106 : decode cX3_find 106 = .ok (.iconst 1, 1) := by decide +kernel
theorem dX3_find_107 : decode cX3_find 107 = .ok (.iadd, 1) := by decide +kernel
theorem dX3_find_108 : decode cX3_find 108 = .ok (.putfield 44, 3) := by decide +kernel
theorem dX3_find_111 : decode cX3_find 111 = .ok (.aload 4, 2) := by decide +kernel
theorem dX3_find_113 : decode cX3_find 113 = .ok (.getfield 140, 3) := by decide +kernel
theorem dX3_find_116 : decode cX3_find 116 = .ok (.ireturn, 1) := by decide +kernel
set_option maxRecDepth 20000 in
theorem ggX3_join_X3_isWithin : GoodIn wsX3_join wsX3_isWithin := goodIn_r _ [7] (by decide +kernel) (by decide +kernel)
set_option maxRecDepth 20000 in
theorem gX3_join_X3_isWithin : GoodIn wsX3_join (va_wsS RX3 52 yX3_isWithin wsX3_isWithin) := goodIn_app (goodIn_of _ (by decide +kernel)) ggX3_join_X3_isWithin
set_option maxRecDepth 20000 in
theorem ggX3_join_X2_keepCommon : GoodIn wsX3_join wsX2_keepCommon := goodIn_r _ [12, 13, 14, 15, 16, 17, 11, 18, 19, 20, 21, 22, 23, 24, 25, 26, 27, 44, 45, 46] (by decide +kernel) (by decide +kernel)
set_option maxRecDepth 20000 in
theorem gX3_join_X2_keepCommon : GoodIn wsX3_join (wsV RX3 141 RX2 yX2_keepCommon wsX2_keepCommon) := goodIn_app (goodIn_of _ (by decide +kernel)) ggX3_join_X2_keepCommon
set_option maxRecDepth 20000 in
theorem ggX3_join_X2_addAll : GoodIn wsX3_join wsX2_addAll := goodIn_r _ [31, 13, 14, 20, 21, 22, 11, 23, 24, 25, 26, 27, 19, 44, 45, 46] (by decide +kernel) (by decide +kernel)
set_option maxRecDepth 20000 in
theorem gX3_join_X2_addAll : GoodIn wsX3_join (wsV RX3 145 RX2 yX2_addAll wsX2_addAll) := goodIn_app (goodIn_of _ (by decide +kernel)) ggX3_join_X2_addAll
set_option maxRecDepth 20000 in
theorem ggX3_join_X2_removeAll : GoodIn wsX3_join wsX2_removeAll := goodIn_r _ [35, 13, 15, 16, 17, 11, 18, 19, 44, 45, 46] (by decide +kernel) (by decide +kernel)
set_option maxRecDepth 20000 in
theorem gX3_join_X2_removeAll : GoodIn wsX3_join (wsV RX3 148 RX2 yX2_removeAll wsX2_removeAll) := goodIn_app (goodIn_of _ (by decide +kernel)) ggX3_join_X2_removeAll
theorem dX3_join_0 : decode cX3_join 0 = .ok (.iload_n 1, 1) := by decide +kernel
theorem dX3_join_1 : decode cX3_join 1 = .ok (.iconst 0, 1) := by decide +kernel
theorem dX3_join_2 : decode cX3_join 2 = .ok (.iconst 2, 1) := by decide +kernel
theorem dX3_join_3 : decode cX3_join 3 = .ok (.invokestatic 52, 3) := by decide +kernel
theorem dX3_join_6 : decode cX3_join 6 = .ok (.ifCond .ne 6, 3) := by decide +kernel
theorem dX3_join_9 : decode cX3_join 9 = .ok (.bipush (-2), 2) := by decide +kernel
theorem dX3_join_11 : decode cX3_join 11 = .ok (.ireturn, 1) := by decide +kernel
theorem dX3_join_12 : decode cX3_join 12 = .ok (.aload_n 0, 1) := by decide +kernel
theorem dX3_join_13 : decode cX3_join 13 = .ok (.getfield 44, 3) := by decide +kernel
theorem dX3_join_16 : decode cX3_join 16 = .ok (.iconst 2, 1) := by decide +kernel
theorem dX3_join_17 : decode cX3_join 17 = .ok (.if_icmp .ge 6, 3) := by decide +kernel
theorem dX3_join_20 : decode cX3_join 20 = .ok (.bipush (-3), 2) := by decide +kernel
theorem dX3_join_22 : decode cX3_join 22 = .ok (.ireturn, 1) := by decide +kernel
theorem dX3_join_23 : decode cX3_join 23 = .ok (.aload_n 0, 1) := by decide +kernel
theorem dX3_join_24 : decode cX3_join 24 = .ok (.getfield 25, 3) := by decide +kernel
theorem dX3_join_27 : decode cX3_join 27 = .ok (.aload_n 0, 1) := by decide +kernel
theorem dX3_join_28 : decode cX3_join 28 = .ok (.getfield 44, 3) := by decide +kernel
theorem dX3_join_31 : decode cX3_join 31 = .ok (.iconst 2, 1) := by decide +kernel
theorem dX3_join_32 : decode cX3_join 32 = .ok (.isub, 1) := by decide +kernel
theorem dX3_join_33 : decode cX3_join 33 = .ok (.aaload, 1) := by decide +kernel
theorem dX3_join_34 : decode cX3_join 34 = .ok (.astore_n 2, 1) := by decide +kernel
theorem dX3_join_35 : decode cX3_join 35 = .ok (.aload_n 0, 1) := by decide +kernel
theorem dX3_join_36 : decode cX3_join 36 = .ok (.getfield 25, 3) := by decide +kernel
theorem dX3_join_39 : decode cX3_join 39 = .ok (.aload_n 0, 1) := by decide +kernel
theorem dX3_join_40 : decode cX3_join 40 = .ok (.getfield 44, 3) := by decide +kernel
theorem dX3_join_43 : decode cX3_join 43 = .ok (.iconst 1, 1) := by decide +kernel
theorem dX3_join_44 : decode cX3_join 44 = .ok (.isub, 1) := by decide +kernel
theorem dX3_join_45 : decode cX3_join 45 = .ok (.aaload, 1) := by decide +kernel
theorem dX3_join_46 : decode cX3_join 46 = .ok (.astore_n 3, 1) := by decide +kernel
theorem dX3_join_47 : decode cX3_join 47 = .ok (.iload_n 1, 1) := by decide +kernel
theorem dX3_join_48 : decode cX3_join 48 = .ok (.lookupswitch 44 #[(0, 28), (1, 36)], 28) := by decide +kernel
theorem dX3_join_76 : decode cX3_join 76 = .ok (.aload_n 2, 1) := by decide +kernel
theorem dX3_join_77 : decode cX3_join 77 = .ok (.aload_n 3, 1) := by decide +kernel
theorem dX3_join_78 : decode cX3_join 78 = .ok (.invokevirtual 141, 3) := by decide +kernel
theorem dX3_join_81 : decode cX3_join 81 = .ok (.goto 16, 3) := by decide +kernel
theorem dX3_join_84 : decode cX3_join 84 = .ok (.aload_n 2, 1) := by decide +kernel
theorem dX3_join_85 : decode cX3_join 85 = .ok (.aload_n 3, 1) := by decide +kernel
theorem dX3_join_86 : decode cX3_join 86 = .ok (.invokevirtual 145, 3) := by decide +kernel
theorem dX3_join_89 : decode cX3_join 89 = .ok (.goto 8, 3) := by decide +kernel
theorem dX3_join_92 : decode cX3_join 92 = .ok (.aload_n 2, 1) := by decide +kernel
theorem dX3_join_93 : decode cX3_join 93 = .ok (.aload_n 3, 1) := by decide +kernel
theorem dX3_join_94 : decode cX3_join 94 = .ok (.invokevirtual 148, 3) := by decide +kernel
theorem dX3_join_97 : decode cX3_join 97 = .ok (.aload_n 0, 1) := by decide +kernel
theorem dX3_join_98 : decode cX3_join 98 = .ok (.dup, 1) := by decide +kernel
theorem dX3_join_99 : decode cX3_join 99 = .ok (.getfield 44, 3) := by decide +kernel
theorem dX3_join_102 : decode cX3_join 102 = .ok (.iconst 1, 1) := by decide +kernel
theorem dX3_join_103 : decode cX3_join 103 = .ok (.isub, 1) := by decide +kernel
theorem dX3_join_104 : decode cX3_join 104 = .ok (.putfield 44, 3) := by decide +kernel
theorem dX3_join_107 : decode cX3_join 107 = .ok (.aload_n 2, 1) := by decide +kernel
theorem dX3_join_108 : decode cX3_join 108 = .ok (.getfield 140, 3) := by decide +kernel
theorem dX3_join_111 : decode cX3_join 111 = .ok (.ireturn, 1) := by decide +kernel
set_option maxRecDepth 20000 in
theorem ggX3_up_X3_isWithin : GoodIn wsX3_up wsX3_isWithin := goodIn_r _ [12] (by decide +kernel) (by decide +kernel)
set_option maxRecDepth 20000 in
theorem gX3_up_X3_isWithin : GoodIn wsX3_up (va_wsS RX3 52 yX3_isWithin wsX3_isWithin) := goodIn_app (goodIn_of _ (by decide +kernel)) ggX3_up_X3_isWithin
set_option maxRecDepth 20000 in
theorem ggX3_up_X2_moveTo : GoodIn wsX3_up wsX2_moveTo := goodIn_r _ [17, 18, 19, 20, 16, 21, 22, 23, 24, 25, 26, 27, 28, 29, 30, 31, 32, 33, 34, 35, 36, 78, 79, 80] (by decide +kernel) (by decide +kernel)
set_option maxRecDepth 20000 in
theorem gX3_up_X2_moveTo : GoodIn wsX3_up (wsV RX3 151 RX2 yX2_moveTo wsX2_moveTo) := goodIn_app (goodIn_of _ (by decide +kernel)) ggX3_up_X2_moveTo
set_option maxRecDepth 20000 in
theorem ggX3_up_X3_gatherBelow : GoodIn wsX3_up wsX3_gatherBelow := goodIn_r _ [40, 5, 3, 41, 42, 43, 44, 45, 46, 47, 48, 49, 50, 16, 51, 22, 52, 53, 11, 54, 55, 56, 57, 58, 59, 60, 61, 62, 34, 35, 36, 23, 28, 63, 64, 65, 66, 67, 68, 69, 70, 78, 79, 80, 71, 72, 73, 74, 75, 76, 77] (by decide +kernel) (by decide +kernel)
set_option maxRecDepth 20000 in
theorem gX3_up_X3_gatherBelow : GoodIn wsX3_up (wsV RX3 154 RX3 yX3_gatherBelow wsX3_gatherBelow) := goodIn_app (goodIn_of _ (by decide +kernel)) ggX3_up_X3_gatherBelow
theorem dX3_up_0 : decode cX3_up 0 = .ok (.iload_n 1, 1) := by decide +kernel
theorem dX3_up_1 : decode cX3_up 1 = .ok (.iconst 1, 1) := by decide +kernel
theorem dX3_up_2 : decode cX3_up 2 = .ok (.iconst 2, 1) := by decide +kernel
theorem dX3_up_3 : decode cX3_up 3 = .ok (.invokestatic 52, 3) := by decide +kernel
theorem dX3_up_6 : decode cX3_up 6 = .ok (.ifCond .eq 12, 3) := by decide +kernel
theorem dX3_up_9 : decode cX3_up 9 = .ok (.iload_n 2, 1) := by decide +kernel
theorem dX3_up_10 : decode cX3_up 10 = .ok (.iconst 0, 1) := by decide +kernel
theorem dX3_up_11 : decode cX3_up 11 = .ok (.iconst 4, 1) := by decide +kernel
theorem dX3_up_12 : decode cX3_up 12 = .ok (.invokestatic 52, 3) := by decide +kernel
theorem dX3_up_15 : decode cX3_up 15 = .ok (.ifCond .ne 6, 3) := by decide +kernel
theorem dX3_up_18 : decode cX3_up 18 = .ok (.bipush (-2), 2) := by decide +kernel
theorem dX3_up_20 : decode cX3_up 20 = .ok (.ireturn, 1) := by decide +kernel
theorem dX3_up_21 : decode cX3_up 21 = .ok (.aload_n 0, 1) := by decide +kernel
theorem dX3_up_22 : decode cX3_up 22 = .ok (.getfield 44, 3) := by decide +kernel
theorem dX3_up_25 : decode cX3_up 25 = .ok (.iconst 1, 1) := by decide +kernel
theorem dX3_up_26 : decode cX3_up 26 = .ok (.if_icmp .ge 6, 3) := by decide +kernel
theorem dX3_up_29 : decode cX3_up 29 = .ok (.bipush (-3), 2) := by decide +kernel
theorem dX3_up_31 : decode cX3_up 31 = .ok (.ireturn, 1) := by decide +kernel
theorem dX3_up_32 : decode cX3_up 32 = .ok (.aload_n 0, 1) := by decide +kernel
theorem dX3_up_33 : decode cX3_up 33 = .ok (.getfield 25, 3) := by decide +kernel
theorem dX3_up_36 : decode cX3_up 36 = .ok (.aload_n 0, 1) := by decide +kernel
theorem dX3_up_37 : decode cX3_up 37 = .ok (.getfield 44, 3) := by decide +kernel
theorem dX3_up_40 : decode cX3_up 40 = .ok (.iconst 1, 1) := by decide +kernel
theorem dX3_up_41 : decode cX3_up 41 = .ok (.isub, 1) := by decide +kernel
theorem dX3_up_42 : decode cX3_up 42 = .ok (.aaload, 1) := by decide +kernel
theorem dX3_up_43 : decode cX3_up 43 = .ok (.astore_n 3, 1) := by decide +kernel
theorem dX3_up_44 : decode cX3_up 44 = .ok (.aload_n 3, 1) := by decide +kernel
theorem dX3_up_45 : decode cX3_up 45 = .ok (.aload_n 0, 1) := by decide +kernel
theorem dX3_up_46 : decode cX3_up 46 = .ok (.getfield 34, 3) := by decide +kernel
theorem dX3_up_49 : decode cX3_up 49 = .ok (.invokevirtual 151, 3) := by decide +kernel
theorem dX3_up_52 : decode cX3_up 52 = .ok (.aload_n 0, 1) := by decide +kernel
theorem dX3_up_53 : decode cX3_up 53 = .ok (.iconst 1, 1) := by decide +kernel
theorem dX3_up_54 : decode cX3_up 54 = .ok (.putfield 48, 3) := by decide +kernel
theorem dX3_up_57 : decode cX3_up 57 = .ok (.iconst 0, 1) := by decide +kernel
theorem dX3_up_58 : decode cX3_up 58 = .ok (.istore 4, 2) := by decide +kernel
theorem dX3_up_60 : decode cX3_up 60 = .ok (.iload 4, 2) := by decide +kernel
theorem dX3_up_62 : decode cX3_up 62 = .ok (.aload_n 0, 1) := by decide +kernel
theorem dX3_up_63 : decode cX3_up 63 = .ok (.getfield 20, 3) := by decide +kernel
theorem dX3_up_66 : decode cX3_up 66 = .ok (.getfield 59, 3) := by decide +kernel
theorem dX3_up_69 : decode cX3_up 69 = .ok (.if_icmp .ge 31, 3) := by decide +kernel
theorem dX3_up_72 : decode cX3_up 72 = .ok (.aload_n 0, 1) := by decide +kernel
theorem dX3_up_73 : decode cX3_up 73 = .ok (.getfield 20, 3) := by decide +kernel
theorem dX3_up_76 : decode cX3_up 76 = .ok (.getfield 90, 3) := by decide +kernel
theorem dX3_up_79 : decode cX3_up 79 = .ok (.iload 4, 2) := by decide +kernel
theorem dX3_up_81 : decode cX3_up 81 = .ok (.iaload, 1) := by decide +kernel
theorem dX3_up_82 : decode cX3_up 82 = .ok (.iload_n 1, 1) := by decide +kernel
theorem dX3_up_83 : decode cX3_up 83 = .ok (.if_icmp .ne 11, 3) := by decide +kernel
theorem dX3_up_86 : decode cX3_up 86 = .ok (.aload_n 0, 1) := by decide +kernel
theorem dX3_up_87 : decode cX3_up 87 = .ok (.iload 4, 2) := by decide +kernel
theorem dX3_up_89 : decode cX3_up 89 = .ok (.iload_n 2, 1) := by decide +kernel
theorem dX3_up_90 : decode cX3_up 90 = .ok (.aload_n 3, 1) := by decide +kernel
theorem dX3_up_91 : decode cX3_up 91 = .ok (.invokevirtual 154, 3) := by decide +kernel
theorem dX3_up_94 : decode cX3_up 94 = .ok (.iinc 4 1, 3) := by decide +kernel
theorem dX3_up_97 : decode cX3_up 97 = .ok (.goto (-37), 3) := by decide +kernel
theorem dX3_up_100 : decode cX3_up 100 = .ok (.aload_n 3, 1) := by decide +kernel
theorem dX3_up_101 : decode cX3_up 101 = .ok (.getfield 140, 3) := by decide +kernel
theorem dX3_up_104 : decode cX3_up 104 = .ok (.ireturn, 1) := by decide +kernel
set_option maxRecDepth 20000 in
theorem ggX3_down_X3_isWithin : GoodIn wsX3_down wsX3_isWithin := goodIn_r _ [10] (by decide +kernel) (by decide +kernel)
set_option maxRecDepth 20000 in
theorem gX3_down_X3_isWithin : GoodIn wsX3_down (va_wsS RX3 52 yX3_isWithin wsX3_isWithin) := goodIn_app (goodIn_of _ (by decide +kernel)) ggX3_down_X3_isWithin
set_option maxRecDepth 20000 in
theorem ggX3_down_X2_moveTo : GoodIn wsX3_down wsX2_moveTo := goodIn_r _ [15, 16, 17, 18, 14, 19, 20, 21, 22, 23, 24, 25, 26, 27, 28, 29, 30, 31, 32, 33, 34, 67, 68, 69] (by decide +kernel) (by decide +kernel)
set_option maxRecDepth 20000 in
theorem gX3_down_X2_moveTo : GoodIn wsX3_down (wsV RX3 151 RX2 yX2_moveTo wsX2_moveTo) := goodIn_app (goodIn_of _ (by decide +kernel)) ggX3_down_X2_moveTo
set_option maxRecDepth 20000 in
theorem ggX3_down_X2_has : GoodIn wsX3_down wsX2_has := goodIn_r _ [38, 20, 67, 68, 69] (by decide +kernel) (by decide +kernel)
set_option maxRecDepth 20000 in
theorem gX3_down_X2_has : GoodIn wsX3_down (wsV RX3 158 RX2 yX2_has wsX2_has) := goodIn_app (goodIn_of _ (by decide +kernel)) ggX3_down_X2_has
set_option maxRecDepth 20000 in
theorem ggX3_down_X3_spreadBelow : GoodIn wsX3_down wsX3_spreadBelow := goodIn_r _ [42, 4, 43, 3, 44, 45, 46, 47, 48, 49, 50, 51, 28, 29, 14, 30, 20, 26, 31, 32, 33, 34, 21, 52, 53, 54, 55, 56, 57, 58, 59, 60, 61, 62, 63, 64, 65, 66, 67, 68, 69] (by decide +kernel) (by decide +kernel)
set_option maxRecDepth 20000 in
theorem gX3_down_X3_spreadBelow : GoodIn wsX3_down (wsV RX3 161 RX3 yX3_spreadBelow wsX3_spreadBelow) := goodIn_app (goodIn_of _ (by decide +kernel)) ggX3_down_X3_spreadBelow
theorem dX3_down_0 : decode cX3_down 0 = .ok (.iload_n 1, 1) := by decide +kernel
theorem dX3_down_1 : decode cX3_down 1 = .ok (.iconst 0, 1) := by decide +kernel
theorem dX3_down_2 : decode cX3_down 2 = .ok (.iconst 1, 1) := by decide +kernel
theorem dX3_down_3 : decode cX3_down 3 = .ok (.invokestatic 52, 3) := by decide +kernel
theorem dX3_down_6 : decode cX3_down 6 = .ok (.ifCond .ne 6, 3) := by decide +kernel
theorem dX3_down_9 : decode cX3_down 9 = .ok (.bipush (-2), 2) := by decide +kernel
theorem dX3_down_11 : decode cX3_down 11 = .ok (.ireturn, 1) := by decide +kernel
theorem dX3_down_12 : decode cX3_down 12 = .ok (.aload_n 0, 1) := by decide +kernel
theorem dX3_down_13 : decode cX3_down 13 = .ok (.getfield 44, 3) := by decide +kernel
theorem dX3_down_16 : decode cX3_down 16 = .ok (.iconst 1, 1) := by decide +kernel
theorem dX3_down_17 : decode cX3_down 17 = .ok (.if_icmp .ge 6, 3) := by decide +kernel
theorem dX3_down_20 : decode cX3_down 20 = .ok (.bipush (-3), 2) := by decide +kernel
theorem dX3_down_22 : decode cX3_down 22 = .ok (.ireturn, 1) := by decide +kernel
theorem dX3_down_23 : decode cX3_down 23 = .ok (.aload_n 0, 1) := by decide +kernel
theorem dX3_down_24 : decode cX3_down 24 = .ok (.getfield 25, 3) := by decide +kernel
theorem dX3_down_27 : decode cX3_down 27 = .ok (.aload_n 0, 1) := by decide +kernel
theorem dX3_down_28 : decode cX3_down 28 = .ok (.getfield 44, 3) := by decide +kernel
theorem dX3_down_31 : decode cX3_down 31 = .ok (.iconst 1, 1) := by decide +kernel
theorem dX3_down_32 : decode cX3_down 32 = .ok (.isub, 1) := by decide +kernel
theorem dX3_down_33 : decode cX3_down 33 = .ok (.aaload, 1) := by decide +kernel
theorem dX3_down_34 : decode cX3_down 34 = .ok (.astore_n 2, 1) := by decide +kernel
theorem dX3_down_35 : decode cX3_down 35 = .ok (.aload_n 2, 1) := by decide +kernel
theorem dX3_down_36 : decode cX3_down 36 = .ok (.aload_n 0, 1) := by decide +kernel
theorem dX3_down_37 : decode cX3_down 37 = .ok (.getfield 30, 3) := by decide +kernel
theorem dX3_down_40 : decode cX3_down 40 = .ok (.invokevirtual 151, 3) := by decide +kernel
theorem dX3_down_43 : decode cX3_down 43 = .ok (.iconst 0, 1) := by decide +kernel
theorem dX3_down_44 : decode cX3_down 44 = .ok (.istore_n 3, 1) := by decide +kernel
theorem dX3_down_45 : decode cX3_down 45 = .ok (.iload_n 3, 1) := by decide +kernel
theorem dX3_down_46 : decode cX3_down 46 = .ok (.aload_n 0, 1) := by decide +kernel
theorem dX3_down_47 : decode cX3_down 47 = .ok (.getfield 20, 3) := by decide +kernel
theorem dX3_down_50 : decode cX3_down 50 = .ok (.getfield 59, 3) := by decide +kernel
theorem dX3_down_53 : decode cX3_down 53 = .ok (.if_icmp .ge 27, 3) := by decide +kernel
theorem dX3_down_56 : decode cX3_down 56 = .ok (.aload_n 0, 1) := by decide +kernel
theorem dX3_down_57 : decode cX3_down 57 = .ok (.getfield 30, 3) := by decide +kernel
theorem dX3_down_60 : decode cX3_down 60 = .ok (.iload_n 3, 1) := by decide +kernel
theorem dX3_down_61 : decode cX3_down 61 = .ok (.invokevirtual 158, 3) := by decide +kernel
theorem dX3_down_64 : decode cX3_down 64 = .ok (.ifCond .eq 10, 3) := by decide +kernel
theorem dX3_down_67 : decode cX3_down 67 = .ok (.aload_n 0, 1) := by decide +kernel
theorem dX3_down_68 : decode cX3_down 68 = .ok (.iload_n 3, 1) := by decide +kernel
theorem dX3_down_69 : decode cX3_down 69 = .ok (.iload_n 1, 1) := by decide +kernel
theorem dX3_down_70 : decode cX3_down 70 = .ok (.aload_n 2, 1) := by decide +kernel
theorem dX3_down_71 : decode cX3_down 71 = .ok (.invokevirtual 161, 3) := by decide +kernel
theorem dX3_down_74 : decode cX3_down 74 = .ok (.iinc 3 1, 3) := by decide +kernel
theorem dX3_down_77 : decode cX3_down 77 = .ok (.goto (-32), 3) := by decide +kernel
theorem dX3_down_80 : decode cX3_down 80 = .ok (.aload_n 2, 1) := by decide +kernel
theorem dX3_down_81 : decode cX3_down 81 = .ok (.getfield 140, 3) := by decide +kernel
theorem dX3_down_84 : decode cX3_down 84 = .ok (.ireturn, 1) := by decide +kernel
set_option maxRecDepth 20000 in
theorem ggX3_over_X2_moveTo : GoodIn wsX3_over wsX2_moveTo := goodIn_r _ [11, 12, 13, 14, 10, 15, 16, 17, 18, 19, 20, 21, 22, 23, 24, 25, 26, 27, 28, 29, 30, 66, 67, 68] (by decide +kernel) (by decide +kernel)
set_option maxRecDepth 20000 in
theorem gX3_over_X2_moveTo : GoodIn wsX3_over (wsV RX3 151 RX2 yX2_moveTo wsX2_moveTo) := goodIn_app (goodIn_of _ (by decide +kernel)) ggX3_over_X2_moveTo
set_option maxRecDepth 20000 in
theorem ggX3_over_X2_has : GoodIn wsX3_over wsX2_has := goodIn_r _ [34, 16, 66, 67, 68] (by decide +kernel) (by decide +kernel)
set_option maxRecDepth 20000 in
theorem gX3_over_X2_has : GoodIn wsX3_over (wsV RX3 158 RX2 yX2_has wsX2_has) := goodIn_app (goodIn_of _ (by decide +kernel)) ggX3_over_X2_has
set_option maxRecDepth 20000 in
theorem ggX3_over_X1_isRoot : GoodIn wsX3_over wsX1_isRoot := goodIn_r _ [39, 40, 59, 60, 61, 62, 63, 64, 65] (by decide +kernel) (by decide +kernel)
set_option maxRecDepth 20000 in
theorem gX3_over_X1_isRoot : GoodIn wsX3_over (wsV RX3 103 RX1 yX1_isRoot wsX1_isRoot) := goodIn_app (goodIn_of _ (by decide +kernel)) ggX3_over_X1_isRoot
set_option maxRecDepth 20000 in
theorem ggX3_over_X3_spreadToLinked : GoodIn wsX3_over wsX3_spreadToLinked := goodIn_r _ [45, 4, 5, 46, 47, 48, 3, 49, 50, 28, 29, 10, 30, 16, 17, 22, 51, 52, 53, 54, 55, 56, 57, 58, 59, 60, 61, 62, 63, 64, 65, 66, 67, 68] (by decide +kernel) (by decide +kernel)
set_option maxRecDepth 20000 in
theorem gX3_over_X3_spreadToLinked : GoodIn wsX3_over (wsV RX3 164 RX3 yX3_spreadToLinked wsX3_spreadToLinked) := goodIn_app (goodIn_of _ (by decide +kernel)) ggX3_over_X3_spreadToLinked
theorem dX3_over_0 : decode cX3_over 0 = .ok (.aload_n 0, 1) := by decide +kernel
theorem dX3_over_1 : decode cX3_over 1 = .ok (.getfield 44, 3) := by decide +kernel
theorem dX3_over_4 : decode cX3_over 4 = .ok (.iconst 1, 1) := by decide +kernel
theorem dX3_over_5 : decode cX3_over 5 = .ok (.if_icmp .ge 6, 3) := by decide +kernel
theorem dX3_over_8 : decode cX3_over 8 = .ok (.bipush (-3), 2) := by decide +kernel
theorem dX3_over_10 : decode cX3_over 10 = .ok (.ireturn, 1) := by decide +kernel
theorem dX3_over_11 : decode cX3_over 11 = .ok (.aload_n 0, 1) := by decide +kernel
theorem dX3_over_12 : decode cX3_over 12 = .ok (.getfield 25, 3) := by decide +kernel
theorem dX3_over_15 : decode cX3_over 15 = .ok (.aload_n 0, 1) := by decide +kernel
theorem dX3_over_16 : decode cX3_over 16 = .ok (.getfield 44, 3) := by decide +kernel
theorem dX3_over_19 : decode cX3_over 19 = .ok (.iconst 1, 1) := by decide +kernel
theorem dX3_over_20 : decode cX3_over 20 = .ok (.isub, 1) := by decide +kernel
theorem dX3_over_21 : decode cX3_over 21 = .ok (.aaload, 1) := by decide +kernel
theorem dX3_over_22 : decode cX3_over 22 = .ok (.astore_n 1, 1) := by decide +kernel
theorem dX3_over_23 : decode cX3_over 23 = .ok (.aload_n 1, 1) := by decide +kernel
theorem dX3_over_24 : decode cX3_over 24 = .ok (.aload_n 0, 1) := by decide +kernel
theorem dX3_over_25 : decode cX3_over 25 = .ok (.getfield 30, 3) := by decide +kernel
theorem dX3_over_28 : decode cX3_over 28 = .ok (.invokevirtual 151, 3) := by decide +kernel
theorem dX3_over_31 : decode cX3_over 31 = .ok (.iconst 0, 1) := by decide +kernel
theorem dX3_over_32 : decode cX3_over 32 = .ok (.istore_n 2, 1) := by decide +kernel
theorem dX3_over_33 : decode cX3_over 33 = .ok (.iload_n 2, 1) := by decide +kernel
theorem dX3_over_34 : decode cX3_over 34 = .ok (.aload_n 0, 1) := by decide +kernel
theorem dX3_over_35 : decode cX3_over 35 = .ok (.getfield 20, 3) := by decide +kernel
theorem dX3_over_38 : decode cX3_over 38 = .ok (.getfield 59, 3) := by decide +kernel
theorem dX3_over_41 : decode cX3_over 41 = .ok (.if_icmp .ge 37, 3) := by decide +kernel
theorem dX3_over_44 : decode cX3_over 44 = .ok (.aload_n 0, 1) := by decide +kernel
theorem dX3_over_45 : decode cX3_over 45 = .ok (.getfield 30, 3) := by decide +kernel
theorem dX3_over_48 : decode cX3_over 48 = .ok (.iload_n 2, 1) := by decide +kernel
theorem dX3_over_49 : decode cX3_over 49 = .ok (.invokevirtual 158, 3) := by decide +kernel
theorem dX3_over_52 : decode cX3_over 52 = .ok (.ifCond .eq 20, 3) := by decide +kernel
theorem dX3_over_55 : decode cX3_over 55 = .ok (.aload_n 0, 1) := by decide +kernel
theorem dX3_over_56 : decode cX3_over 56 = .ok (.getfield 20, 3) := by decide +kernel
theorem dX3_over_59 : decode cX3_over 59 = .ok (.iload_n 2, 1) := by decide +kernel
theorem dX3_over_60 : decode cX3_over 60 = .ok (.invokevirtual 103, 3) := by decide +kernel
theorem dX3_over_63 : decode cX3_over 63 = .ok (.ifCond .eq 9, 3) := by decide +kernel
theorem dX3_over_66 : decode cX3_over 66 = .ok (.aload_n 0, 1) := by decide +kernel
theorem dX3_over_67 : decode cX3_over 67 = .ok (.iload_n 2, 1) := by decide +kernel
theorem dX3_over_68 : decode cX3_over 68 = .ok (.aload_n 1, 1) := by decide +kernel
theorem dX3_over_69 : decode cX3_over 69 = .ok (.invokevirtual 164, 3) := by decide +kernel
theorem dX3_over_72 : decode cX3_over 72 = .ok (.iinc 2 1, 3) := by decide +kernel
theorem dX3_over_75 : decode cX3_over 75 = .ok (.goto (-42), 3) := by decide +kernel
theorem dX3_over_78 : decode cX3_over 78 = .ok (.aload_n 1, 1) := by decide +kernel
theorem dX3_over_79 : decode cX3_over 79 = .ok (.getfield 140, 3) := by decide +kernel
theorem dX3_over_82 : decode cX3_over 82 = .ok (.ireturn, 1) := by decide +kernel
set_option maxRecDepth 20000 in
theorem ggX3_again_X2_clear : GoodIn wsX3_again wsX2_clear := goodIn_r _ [7, 8, 9, 31, 32, 33] (by decide +kernel) (by decide +kernel)
set_option maxRecDepth 20000 in
theorem gX3_again_X2_clear : GoodIn wsX3_again (wsV RX3 125 RX2 yX2_clear wsX2_clear) := goodIn_app (goodIn_of _ (by decide +kernel)) ggX3_again_X2_clear
set_option maxRecDepth 20000 in
theorem ggX3_again_X2_addAll : GoodIn wsX3_again wsX2_addAll := goodIn_r _ [13, 8, 14, 15, 16, 17, 6, 18, 19, 20, 21, 22, 9, 31, 32, 33] (by decide +kernel) (by decide +kernel)
set_option maxRecDepth 20000 in
theorem gX3_again_X2_addAll : GoodIn wsX3_again (wsV RX3 145 RX2 yX2_addAll wsX2_addAll) := goodIn_app (goodIn_of _ (by decide +kernel)) ggX3_again_X2_addAll
theorem dX3_again_0 : decode cX3_again 0 = .ok (.aload_n 0, 1) := by decide +kernel
theorem dX3_again_1 : decode cX3_again 1 = .ok (.getfield 44, 3) := by decide +kernel
theorem dX3_again_4 : decode cX3_again 4 = .ok (.iconst 1, 1) := by decide +kernel
theorem dX3_again_5 : decode cX3_again 5 = .ok (.if_icmp .ge 6, 3) := by decide +kernel
theorem dX3_again_8 : decode cX3_again 8 = .ok (.bipush (-3), 2) := by decide +kernel
theorem dX3_again_10 : decode cX3_again 10 = .ok (.ireturn, 1) := by decide +kernel
theorem dX3_again_11 : decode cX3_again 11 = .ok (.aload_n 0, 1) := by decide +kernel
theorem dX3_again_12 : decode cX3_again 12 = .ok (.getfield 44, 3) := by decide +kernel
theorem dX3_again_15 : decode cX3_again 15 = .ok (.bipush 8, 2) := by decide +kernel
theorem dX3_again_17 : decode cX3_again 17 = .ok (.if_icmp .lt 6, 3) := by decide +kernel
theorem dX3_again_20 : decode cX3_again 20 = .ok (.bipush (-4), 2) := by decide +kernel
theorem dX3_again_22 : decode cX3_again 22 = .ok (.ireturn, 1) := by decide +kernel
theorem dX3_again_23 : decode cX3_again 23 = .ok (.aload_n 0, 1) := by decide +kernel
theorem dX3_again_24 : decode cX3_again 24 = .ok (.getfield 25, 3) := by decide +kernel
theorem dX3_again_27 : decode cX3_again 27 = .ok (.aload_n 0, 1) := by decide +kernel
theorem dX3_again_28 : decode cX3_again 28 = .ok (.getfield 44, 3) := by decide +kernel
theorem dX3_again_31 : decode cX3_again 31 = .ok (.aaload, 1) := by decide +kernel
theorem dX3_again_32 : decode cX3_again 32 = .ok (.astore_n 1, 1) := by decide +kernel
theorem dX3_again_33 : decode cX3_again 33 = .ok (.aload_n 1, 1) := by decide +kernel
theorem dX3_again_34 : decode cX3_again 34 = .ok (.invokevirtual 125, 3) := by decide +kernel
theorem dX3_again_37 : decode cX3_again 37 = .ok (.aload_n 1, 1) := by decide +kernel
theorem dX3_again_38 : decode cX3_again 38 = .ok (.aload_n 0, 1) := by decide +kernel
theorem dX3_again_39 : decode cX3_again 39 = .ok (.getfield 25, 3) := by decide +kernel
theorem dX3_again_42 : decode cX3_again 42 = .ok (.aload_n 0, 1) := by decide +kernel
theorem dX3_again_43 : decode cX3_again 43 = .ok (.getfield 44, 3) := by decide +kernel
theorem dX3_again_46 : decode cX3_again 46 = .ok (.iconst 1, 1) := by decide +kernel
theorem dX3_again_47 : decode cX3_again 47 = .ok (.isub, 1) := by decide +kernel
theorem dX3_again_48 : decode cX3_again 48 = .ok (.aaload, 1) := by decide +kernel
theorem dX3_again_49 : decode cX3_again 49 = .ok (.invokevirtual 145, 3) := by decide +kernel
theorem dX3_again_52 : decode cX3_again 52 = .ok (.aload_n 0, 1) := by decide +kernel
theorem dX3_again_53 : decode cX3_again 53 = .ok (.dup, 1) := by decide +kernel
theorem dX3_again_54 : decode cX3_again 54 = .ok (.getfield 44, 3) := by decide +kernel
theorem dX3_again_57 : decode cX3_again 57 = .ok (.iconst 1, 1) := by decide +kernel
theorem dX3_again_58 : decode cX3_again 58 = .ok (.iadd, 1) := by decide +kernel
theorem dX3_again_59 : decode cX3_again 59 = .ok (.putfield 44, 3) := by decide +kernel
theorem dX3_again_62 : decode cX3_again 62 = .ok (.aload_n 0, 1) := by decide +kernel
theorem dX3_again_63 : decode cX3_again 63 = .ok (.getfield 44, 3) := by decide +kernel
theorem dX3_again_66 : decode cX3_again 66 = .ok (.ireturn, 1) := by decide +kernel
theorem dX3_pop_0 : decode cX3_pop 0 = .ok (.aload_n 0, 1) := by decide +kernel
theorem dX3_pop_1 : decode cX3_pop 1 = .ok (.getfield 44, 3) := by decide +kernel
theorem dX3_pop_4 : decode cX3_pop 4 = .ok (.iconst 1, 1) := by decide +kernel
theorem dX3_pop_5 : decode cX3_pop 5 = .ok (.if_icmp .ge 6, 3) := by decide +kernel
theorem dX3_pop_8 : decode cX3_pop 8 = .ok (.bipush (-3), 2) := by decide +kernel
theorem dX3_pop_10 : decode cX3_pop 10 = .ok (.ireturn, 1) := by decide +kernel
theorem dX3_pop_11 : decode cX3_pop 11 = .ok (.aload_n 0, 1) := by decide +kernel
theorem dX3_pop_12 : decode cX3_pop 12 = .ok (.dup, 1) := by decide +kernel
theorem dX3_pop_13 : decode cX3_pop 13 = .ok (.getfield 44, 3) := by decide +kernel
theorem dX3_pop_16 : decode cX3_pop 16 = .ok (.iconst 1, 1) := by decide +kernel
theorem dX3_pop_17 : decode cX3_pop 17 = .ok (.isub, 1) := by decide +kernel
theorem dX3_pop_18 : decode cX3_pop 18 = .ok (.putfield 44, 3) := by decide +kernel
theorem dX3_pop_21 : decode cX3_pop 21 = .ok (.aload_n 0, 1) := by decide +kernel
theorem dX3_pop_22 : decode cX3_pop 22 = .ok (.getfield 44, 3) := by decide +kernel
theorem dX3_pop_25 : decode cX3_pop 25 = .ok (.ireturn, 1) := by decide +kernel
set_option maxRecDepth 20000 in
theorem ggX3_hit_X0_rank : GoodIn wsX3_hit wsX0_rank := goodIn_r _ [10, 11, 12, 13, 14, 15, 16, 17, 18, 19, 20, 21, 9, 22, 23, 24, 25, 26, 27, 28, 29, 30, 31, 32, 33, 34, 35, 36, 59, 60, 61, 62, 63, 64] (by decide +kernel) (by decide +kernel)
set_option maxRecDepth 20000 in
theorem gX3_hit_X0_rank : GoodIn wsX3_hit (wsV RX3 168 RX0 yX0_rank wsX0_rank) := goodIn_app (goodIn_of _ (by decide +kernel)) ggX3_hit_X0_rank
set_option maxRecDepth 20000 in
theorem ggX3_hit_X3_answerRanked : GoodIn wsX3_hit wsX3_answerRanked := goodIn_r _ [41, 2, 42, 43, 44, 45, 46, 47, 48, 49, 50, 51, 59, 60, 61] (by decide +kernel) (by decide +kernel)
set_option maxRecDepth 20000 in
theorem gX3_hit_X3_answerRanked : GoodIn wsX3_hit (wsV RX3 172 RX3 yX3_answerRanked wsX3_answerRanked) := goodIn_app (goodIn_of _ (by decide +kernel)) ggX3_hit_X3_answerRanked
theorem dX3_hit_0 : decode cX3_hit 0 = .ok (.aload_n 0, 1) := by decide +kernel
theorem dX3_hit_1 : decode cX3_hit 1 = .ok (.getfield 44, 3) := by decide +kernel
theorem dX3_hit_4 : decode cX3_hit 4 = .ok (.iconst 1, 1) := by decide +kernel
theorem dX3_hit_5 : decode cX3_hit 5 = .ok (.if_icmp .ge 6, 3) := by decide +kernel
theorem dX3_hit_8 : decode cX3_hit 8 = .ok (.bipush (-3), 2) := by decide +kernel
theorem dX3_hit_10 : decode cX3_hit 10 = .ok (.ireturn, 1) := by decide +kernel
theorem dX3_hit_11 : decode cX3_hit 11 = .ok (.aload_n 0, 1) := by decide +kernel
theorem dX3_hit_12 : decode cX3_hit 12 = .ok (.getfield 40, 3) := by decide +kernel
theorem dX3_hit_15 : decode cX3_hit 15 = .ok (.aload_n 0, 1) := by decide +kernel
theorem dX3_hit_16 : decode cX3_hit 16 = .ok (.getfield 25, 3) := by decide +kernel
theorem dX3_hit_19 : decode cX3_hit 19 = .ok (.aload_n 0, 1) := by decide +kernel
theorem dX3_hit_20 : decode cX3_hit 20 = .ok (.getfield 44, 3) := by decide +kernel
theorem dX3_hit_23 : decode cX3_hit 23 = .ok (.iconst 1, 1) := by decide +kernel
end
section
theorem dX3_hit_24 : decode cX3_hit 24 = .ok (.isub, 1) := by decide +kernel
theorem dX3_hit_25 : decode cX3_hit 25 = .ok (.aaload, 1) := by decide +kernel
theorem dX3_hit_26 : decode cX3_hit 26 = .ok (.iconst 0, 1) := by decide +kernel
theorem dX3_hit_27 : decode cX3_hit 27 = .ok (.aload_n 0, 1) := by decide +kernel
theorem dX3_hit_28 : decode cX3_hit 28 = .ok (.getfield 20, 3) := by decide +kernel
theorem dX3_hit_31 : decode cX3_hit 31 = .ok (.getfield 59, 3) := by decide +kernel
theorem dX3_hit_34 : decode cX3_hit 34 = .ok (.invokevirtual 168, 3) := by decide +kernel
theorem dX3_hit_37 : decode cX3_hit 37 = .ok (.aload_n 0, 1) := by decide +kernel
theorem dX3_hit_38 : decode cX3_hit 38 = .ok (.iload_n 1, 1) := by decide +kernel
theorem dX3_hit_39 : decode cX3_hit 39 = .ok (.invokevirtual 172, 3) := by decide +kernel
theorem dX3_hit_42 : decode cX3_hit 42 = .ok (.ireturn, 1) := by decide +kernel
set_option maxRecDepth 20000 in
theorem ggX3_score_X2_has : GoodIn wsX3_score wsX2_has := goodIn_r _ [9, 10, 19, 20, 21] (by decide +kernel) (by decide +kernel)
set_option maxRecDepth 20000 in
theorem gX3_score_X2_has : GoodIn wsX3_score (wsV RX3 158 RX2 yX2_has wsX2_has) := goodIn_app (goodIn_of _ (by decide +kernel)) ggX3_score_X2_has
theorem dX3_score_0 : decode cX3_score 0 = .ok (.aload_n 0, 1) := by decide +kernel
theorem dX3_score_1 : decode cX3_score 1 = .ok (.getfield 44, 3) := by decide +kernel
theorem dX3_score_4 : decode cX3_score 4 = .ok (.iconst 1, 1) := by decide +kernel
theorem dX3_score_5 : decode cX3_score 5 = .ok (.if_icmp .ge 7, 3) := by decide +kernel
theorem dX3_score_8 : decode cX3_score 8 = .ok (.ldc2_w 175, 3) := by decide +kernel
theorem dX3_score_11 : decode cX3_score 11 = .ok (.lreturn, 1) := by decide +kernel
theorem dX3_score_12 : decode cX3_score 12 = .ok (.aload_n 0, 1) := by decide +kernel
theorem dX3_score_13 : decode cX3_score 13 = .ok (.getfield 25, 3) := by decide +kernel
theorem dX3_score_16 : decode cX3_score 16 = .ok (.aload_n 0, 1) := by decide +kernel
theorem dX3_score_17 : decode cX3_score 17 = .ok (.getfield 44, 3) := by decide +kernel
theorem dX3_score_20 : decode cX3_score 20 = .ok (.iconst 1, 1) := by decide +kernel
theorem dX3_score_21 : decode cX3_score 21 = .ok (.isub, 1) := by decide +kernel
theorem dX3_score_22 : decode cX3_score 22 = .ok (.aaload, 1) := by decide +kernel
theorem dX3_score_23 : decode cX3_score 23 = .ok (.astore_n 2, 1) := by decide +kernel
theorem dX3_score_24 : decode cX3_score 24 = .ok (.aload_n 2, 1) := by decide +kernel
theorem dX3_score_25 : decode cX3_score 25 = .ok (.iload_n 1, 1) := by decide +kernel
theorem dX3_score_26 : decode cX3_score 26 = .ok (.invokevirtual 158, 3) := by decide +kernel
theorem dX3_score_29 : decode cX3_score 29 = .ok (.ifCond .eq 12, 3) := by decide +kernel
theorem dX3_score_32 : decode cX3_score 32 = .ok (.aload_n 2, 1) := by decide +kernel
theorem dX3_score_33 : decode cX3_score 33 = .ok (.getfield 177, 3) := by decide +kernel
theorem dX3_score_36 : decode cX3_score 36 = .ok (.iload_n 1, 1) := by decide +kernel
theorem dX3_score_37 : decode cX3_score 37 = .ok (.laload, 1) := by decide +kernel
theorem dX3_score_38 : decode cX3_score 38 = .ok (.goto 6, 3) := by decide +kernel
theorem dX3_score_41 : decode cX3_score 41 = .ok (.ldc2_w 175, 3) := by decide +kernel
theorem dX3_score_44 : decode cX3_score 44 = .ok (.lreturn, 1) := by decide +kernel
set_option maxRecDepth 20000 in
theorem ggX3_family_X1_holds : GoodIn wsX3_family wsX1_holds := goodIn_r _ [9, 10, 62, 63, 64, 65, 66, 67, 68] (by decide +kernel) (by decide +kernel)
set_option maxRecDepth 20000 in
theorem gX3_family_X1_holds : GoodIn wsX3_family (wsV RX3 87 RX1 yX1_holds wsX1_holds) := goodIn_app (goodIn_of _ (by decide +kernel)) ggX3_family_X1_holds
set_option maxRecDepth 20000 in
theorem ggX3_family_X1_firstBelow : GoodIn wsX3_family wsX1_firstBelow := goodIn_r _ [14, 15, 62, 63, 64, 65, 66, 67, 68] (by decide +kernel) (by decide +kernel)
set_option maxRecDepth 20000 in
theorem gX3_family_X1_firstBelow : GoodIn wsX3_family (wsV RX3 116 RX1 yX1_firstBelow wsX1_firstBelow) := goodIn_app (goodIn_of _ (by decide +kernel)) ggX3_family_X1_firstBelow
set_option maxRecDepth 20000 in
theorem ggX3_family_X0_rank : GoodIn wsX3_family wsX0_rank := goodIn_r _ [20, 21, 22, 23, 24, 25, 26, 27, 28, 29, 30, 31, 19, 32, 33, 34, 35, 36, 37, 38, 39, 40, 41, 42, 43, 44, 45, 46, 69, 70, 71, 72, 73, 74] (by decide +kernel) (by decide +kernel)
set_option maxRecDepth 20000 in
theorem gX3_family_X0_rank : GoodIn wsX3_family (wsV RX3 168 RX0 yX0_rank wsX0_rank) := goodIn_app (goodIn_of _ (by decide +kernel)) ggX3_family_X0_rank
set_option maxRecDepth 20000 in
theorem ggX3_family_X3_answerRanked : GoodIn wsX3_family wsX3_answerRanked := goodIn_r _ [51, 3, 52, 53, 54, 55, 56, 57, 58, 59, 60, 61, 69, 70, 71] (by decide +kernel) (by decide +kernel)
set_option maxRecDepth 20000 in
theorem gX3_family_X3_answerRanked : GoodIn wsX3_family (wsV RX3 172 RX3 yX3_answerRanked wsX3_answerRanked) := goodIn_app (goodIn_of _ (by decide +kernel)) ggX3_family_X3_answerRanked
theorem dX3_family_0 : decode cX3_family 0 = .ok (.aload_n 0, 1) := by decide +kernel
theorem dX3_family_1 : decode cX3_family 1 = .ok (.getfield 48, 3) := by decide +kernel
theorem dX3_family_4 : decode cX3_family 4 = .ok (.ifCond .eq 14, 3) := by decide +kernel
theorem dX3_family_7 : decode cX3_family 7 = .ok (.aload_n 0, 1) := by decide +kernel
theorem dX3_family_8 : decode cX3_family 8 = .ok (.getfield 20, 3) := by decide +kernel
theorem dX3_family_11 : decode cX3_family 11 = .ok (.iload_n 1, 1) := by decide +kernel
theorem dX3_family_12 : decode cX3_family 12 = .ok (.invokevirtual 87, 3) := by decide +kernel
theorem dX3_family_15 : decode cX3_family 15 = .ok (.ifCond .ne 5, 3) := by decide +kernel
theorem dX3_family_18 : decode cX3_family 18 = .ok (.iconst (-1), 1) := by decide +kernel
theorem dX3_family_19 : decode cX3_family 19 = .ok (.ireturn, 1) := by decide +kernel
theorem dX3_family_20 : decode cX3_family 20 = .ok (.aload_n 0, 1) := by decide +kernel
theorem dX3_family_21 : decode cX3_family 21 = .ok (.getfield 40, 3) := by decide +kernel
theorem dX3_family_24 : decode cX3_family 24 = .ok (.aload_n 0, 1) := by decide +kernel
theorem dX3_family_25 : decode cX3_family 25 = .ok (.getfield 34, 3) := by decide +kernel
theorem dX3_family_28 : decode cX3_family 28 = .ok (.aload_n 0, 1) := by decide +kernel
theorem dX3_family_29 : decode cX3_family 29 = .ok (.getfield 20, 3) := by decide +kernel
theorem dX3_family_32 : decode cX3_family 32 = .ok (.iload_n 1, 1) := by decide +kernel
theorem dX3_family_33 : decode cX3_family 33 = .ok (.invokevirtual 116, 3) := by decide +kernel
theorem dX3_family_36 : decode cX3_family 36 = .ok (.iload_n 1, 1) := by decide +kernel
theorem dX3_family_37 : decode cX3_family 37 = .ok (.invokevirtual 168, 3) := by decide +kernel
theorem dX3_family_40 : decode cX3_family 40 = .ok (.aload_n 0, 1) := by decide +kernel
theorem dX3_family_41 : decode cX3_family 41 = .ok (.iload_n 2, 1) := by decide +kernel
theorem dX3_family_42 : decode cX3_family 42 = .ok (.invokevirtual 172, 3) := by decide +kernel
theorem dX3_family_45 : decode cX3_family 45 = .ok (.ireturn, 1) := by decide +kernel
theorem dX3_share_0 : decode cX3_share 0 = .ok (.aload_n 0, 1) := by decide +kernel
theorem dX3_share_1 : decode cX3_share 1 = .ok (.getfield 44, 3) := by decide +kernel
theorem dX3_share_4 : decode cX3_share 4 = .ok (.iconst 2, 1) := by decide +kernel
theorem dX3_share_5 : decode cX3_share 5 = .ok (.if_icmp .ge 7, 3) := by decide +kernel
theorem dX3_share_8 : decode cX3_share 8 = .ok (.ldc2_w 175, 3) := by decide +kernel
theorem dX3_share_11 : decode cX3_share 11 = .ok (.lreturn, 1) := by decide +kernel
theorem dX3_share_12 : decode cX3_share 12 = .ok (.aload_n 0, 1) := by decide +kernel
theorem dX3_share_13 : decode cX3_share 13 = .ok (.getfield 25, 3) := by decide +kernel
theorem dX3_share_16 : decode cX3_share 16 = .ok (.aload_n 0, 1) := by decide +kernel
theorem dX3_share_17 : decode cX3_share 17 = .ok (.getfield 44, 3) := by decide +kernel
theorem dX3_share_20 : decode cX3_share 20 = .ok (.iconst 2, 1) := by decide +kernel
theorem dX3_share_21 : decode cX3_share 21 = .ok (.isub, 1) := by decide +kernel
theorem dX3_share_22 : decode cX3_share 22 = .ok (.aaload, 1) := by decide +kernel
theorem dX3_share_23 : decode cX3_share 23 = .ok (.getfield 140, 3) := by decide +kernel
theorem dX3_share_26 : decode cX3_share 26 = .ok (.istore_n 1, 1) := by decide +kernel
theorem dX3_share_27 : decode cX3_share 27 = .ok (.iload_n 1, 1) := by decide +kernel
theorem dX3_share_28 : decode cX3_share 28 = .ok (.ifCond .ne 13, 3) := by decide +kernel
theorem dX3_share_31 : decode cX3_share 31 = .ok (.new 181, 3) := by decide +kernel
theorem dX3_share_34 : decode cX3_share 34 = .ok (.dup, 1) := by decide +kernel
theorem dX3_share_35 : decode cX3_share 35 = .ok (.ldc 183, 2) := by decide +kernel
theorem dX3_share_37 : decode cX3_share 37 = .ok (.invokespecial 185, 3) := by decide +kernel
theorem dX3_share_40 : decode cX3_share 40 = .ok (.athrow, 1) := by decide +kernel
theorem dX3_share_41 : decode cX3_share 41 = .ok (.ldc2_w 188, 3) := by decide +kernel
theorem dX3_share_44 : decode cX3_share 44 = .ok (.aload_n 0, 1) := by decide +kernel
theorem dX3_share_45 : decode cX3_share 45 = .ok (.getfield 25, 3) := by decide +kernel
theorem dX3_share_48 : decode cX3_share 48 = .ok (.aload_n 0, 1) := by decide +kernel
theorem dX3_share_49 : decode cX3_share 49 = .ok (.getfield 44, 3) := by decide +kernel
theorem dX3_share_52 : decode cX3_share 52 = .ok (.iconst 1, 1) := by decide +kernel
theorem dX3_share_53 : decode cX3_share 53 = .ok (.isub, 1) := by decide +kernel
theorem dX3_share_54 : decode cX3_share 54 = .ok (.aaload, 1) := by decide +kernel
theorem dX3_share_55 : decode cX3_share 55 = .ok (.getfield 140, 3) := by decide +kernel
theorem dX3_share_58 : decode cX3_share 58 = .ok (.i2l, 1) := by decide +kernel
theorem dX3_share_59 : decode cX3_share 59 = .ok (.lmul, 1) := by decide +kernel
theorem dX3_share_60 : decode cX3_share 60 = .ok (.iload_n 1, 1) := by decide +kernel
theorem dX3_share_61 : decode cX3_share 61 = .ok (.i2l, 1) := by decide +kernel
theorem dX3_share_62 : decode cX3_share 62 = .ok (.ldiv, 1) := by decide +kernel
theorem dX3_share_63 : decode cX3_share 63 = .ok (.lreturn, 1) := by decide +kernel
theorem dX3_isWithin_0 : decode cX3_isWithin 0 = .ok (.iload_n 0, 1) := by decide +kernel
theorem dX3_isWithin_1 : decode cX3_isWithin 1 = .ok (.iload_n 1, 1) := by decide +kernel
theorem dX3_isWithin_2 : decode cX3_isWithin 2 = .ok (.if_icmp .lt 12, 3) := by decide +kernel
theorem dX3_isWithin_5 : decode cX3_isWithin 5 = .ok (.iload_n 0, 1) := by decide +kernel
theorem dX3_isWithin_6 : decode cX3_isWithin 6 = .ok (.iload_n 2, 1) := by decide +kernel
theorem dX3_isWithin_7 : decode cX3_isWithin 7 = .ok (.if_icmp .gt 7, 3) := by decide +kernel
theorem dX3_isWithin_10 : decode cX3_isWithin 10 = .ok (.iconst 1, 1) := by decide +kernel
theorem dX3_isWithin_11 : decode cX3_isWithin 11 = .ok (.goto 4, 3) := by decide +kernel
theorem dX3_isWithin_14 : decode cX3_isWithin 14 = .ok (.iconst 0, 1) := by decide +kernel
theorem dX3_isWithin_15 : decode cX3_isWithin 15 = .ok (.ireturn, 1) := by decide +kernel
set_option maxRecDepth 20000 in
theorem ggX3_isKey_X3_isWithin : GoodIn wsX3_isKey wsX3_isWithin := goodIn_r _ [4] (by decide +kernel) (by decide +kernel)
set_option maxRecDepth 20000 in
theorem gX3_isKey_X3_isWithin : GoodIn wsX3_isKey (va_wsS RX3 52 yX3_isWithin wsX3_isWithin) := goodIn_app (goodIn_of _ (by decide +kernel)) ggX3_isKey_X3_isWithin
theorem dX3_isKey_0 : decode cX3_isKey 0 = .ok (.iload_n 0, 1) := by decide +kernel
theorem dX3_isKey_1 : decode cX3_isKey 1 = .ok (.iconst 0, 1) := by decide +kernel
theorem dX3_isKey_2 : decode cX3_isKey 2 = .ok (.sipush 999, 3) := by decide +kernel
theorem dX3_isKey_5 : decode cX3_isKey 5 = .ok (.invokestatic 52, 3) := by decide +kernel
theorem dX3_isKey_8 : decode cX3_isKey 8 = .ok (.ireturn, 1) := by decide +kernel
set_option maxRecDepth 20000 in
theorem ggX3_isValue_X3_isWithin : GoodIn wsX3_isValue wsX3_isWithin := goodIn_r _ [4] (by decide +kernel) (by decide +kernel)
set_option maxRecDepth 20000 in
theorem gX3_isValue_X3_isWithin : GoodIn wsX3_isValue (va_wsS RX3 52 yX3_isWithin wsX3_isWithin) := goodIn_app (goodIn_of _ (by decide +kernel)) ggX3_isValue_X3_isWithin
theorem dX3_isValue_0 : decode cX3_isValue 0 = .ok (.iload_n 0, 1) := by decide +kernel
theorem dX3_isValue_1 : decode cX3_isValue 1 = .ok (.sipush (-1000), 3) := by decide +kernel
theorem dX3_isValue_4 : decode cX3_isValue 4 = .ok (.sipush 1000, 3) := by decide +kernel
theorem dX3_isValue_7 : decode cX3_isValue 7 = .ok (.invokestatic 52, 3) := by decide +kernel
theorem dX3_isValue_10 : decode cX3_isValue 10 = .ok (.ireturn, 1) := by decide +kernel
set_option maxRecDepth 20000 in
theorem ggX3_areTold_X3_isValue : GoodIn wsX3_areTold wsX3_isValue := goodIn_r _ [4, 5, 6, 3, 7] (by decide +kernel) (by decide +kernel)
set_option maxRecDepth 20000 in
theorem gX3_areTold_X3_isValue : GoodIn wsX3_areTold (va_wsS RX3 190 yX3_isValue wsX3_isValue) := goodIn_app (goodIn_of _ (by decide +kernel)) ggX3_areTold_X3_isValue
set_option maxRecDepth 20000 in
theorem ggX3_areTold_X3_isWithin : GoodIn wsX3_areTold wsX3_isWithin := goodIn_r _ [7] (by decide +kernel) (by decide +kernel)
set_option maxRecDepth 20000 in
theorem gX3_areTold_X3_isWithin : GoodIn wsX3_areTold (va_wsS RX3 52 yX3_isWithin wsX3_isWithin) := goodIn_app (goodIn_of _ (by decide +kernel)) ggX3_areTold_X3_isWithin
theorem dX3_areTold_0 : decode cX3_areTold 0 = .ok (.iload_n 0, 1) := by decide +kernel
theorem dX3_areTold_1 : decode cX3_areTold 1 = .ok (.invokestatic 190, 3) := by decide +kernel
theorem dX3_areTold_4 : decode cX3_areTold 4 = .ok (.ifCond .eq 29, 3) := by decide +kernel
theorem dX3_areTold_7 : decode cX3_areTold 7 = .ok (.iload_n 1, 1) := by decide +kernel
theorem dX3_areTold_8 : decode cX3_areTold 8 = .ok (.iconst 0, 1) := by decide +kernel
theorem dX3_areTold_9 : decode cX3_areTold 9 = .ok (.sipush 255, 3) := by decide +kernel
theorem dX3_areTold_12 : decode cX3_areTold 12 = .ok (.invokestatic 52, 3) := by decide +kernel
theorem dX3_areTold_15 : decode cX3_areTold 15 = .ok (.ifCond .eq 18, 3) := by decide +kernel
theorem dX3_areTold_18 : decode cX3_areTold 18 = .ok (.iload_n 2, 1) := by decide +kernel
theorem dX3_areTold_19 : decode cX3_areTold 19 = .ok (.iconst (-1), 1) := by decide +kernel
theorem dX3_areTold_20 : decode cX3_areTold 20 = .ok (.sipush 999, 3) := by decide +kernel
theorem dX3_areTold_23 : decode cX3_areTold 23 = .ok (.invokestatic 52, 3) := by decide +kernel
theorem dX3_areTold_26 : decode cX3_areTold 26 = .ok (.ifCond .eq 7, 3) := by decide +kernel
theorem dX3_areTold_29 : decode cX3_areTold 29 = .ok (.iconst 1, 1) := by decide +kernel
theorem dX3_areTold_30 : decode cX3_areTold 30 = .ok (.goto 4, 3) := by decide +kernel
theorem dX3_areTold_33 : decode cX3_areTold 33 = .ok (.iconst 0, 1) := by decide +kernel
theorem dX3_areTold_34 : decode cX3_areTold 34 = .ok (.ireturn, 1) := by decide +kernel
theorem dX3_forgetSets_0 : decode cX3_forgetSets 0 = .ok (.aload_n 0, 1) := by decide +kernel
theorem dX3_forgetSets_1 : decode cX3_forgetSets 1 = .ok (.iconst 0, 1) := by decide +kernel
theorem dX3_forgetSets_2 : decode cX3_forgetSets 2 = .ok (.putfield 44, 3) := by decide +kernel
theorem dX3_forgetSets_5 : decode cX3_forgetSets 5 = .ok (.aload_n 0, 1) := by decide +kernel
theorem dX3_forgetSets_6 : decode cX3_forgetSets 6 = .ok (.iconst 0, 1) := by decide +kernel
theorem dX3_forgetSets_7 : decode cX3_forgetSets 7 = .ok (.putfield 48, 3) := by decide +kernel
theorem dX3_forgetSets_10 : decode cX3_forgetSets 10 = .ok (.return_, 1) := by decide +kernel
set_option maxRecDepth 20000 in
theorem ggX3_canBeFound_X3_isWithin : GoodIn wsX3_canBeFound wsX3_isWithin := goodIn_r _ [4] (by decide +kernel) (by decide +kernel)
set_option maxRecDepth 20000 in
theorem gX3_canBeFound_X3_isWithin : GoodIn wsX3_canBeFound (va_wsS RX3 52 yX3_isWithin wsX3_isWithin) := goodIn_app (goodIn_of _ (by decide +kernel)) ggX3_canBeFound_X3_isWithin
set_option maxRecDepth 20000 in
theorem ggX3_canBeFound_X3_isValue : GoodIn wsX3_canBeFound wsX3_isValue := goodIn_r _ [7, 1, 2, 3, 4] (by decide +kernel) (by decide +kernel)
set_option maxRecDepth 20000 in
theorem gX3_canBeFound_X3_isValue : GoodIn wsX3_canBeFound (va_wsS RX3 190 yX3_isValue wsX3_isValue) := goodIn_app (goodIn_of _ (by decide +kernel)) ggX3_canBeFound_X3_isValue
set_option maxRecDepth 20000 in
theorem ggX3_canBeFound_X3_isKey : GoodIn wsX3_canBeFound wsX3_isKey := goodIn_r _ [10, 1, 2, 3, 4] (by decide +kernel) (by decide +kernel)
set_option maxRecDepth 20000 in
theorem gX3_canBeFound_X3_isKey : GoodIn wsX3_canBeFound (va_wsS RX3 66 yX3_isKey wsX3_isKey) := goodIn_app (goodIn_of _ (by decide +kernel)) ggX3_canBeFound_X3_isKey
theorem dX3_canBeFound_0 : decode cX3_canBeFound 0 = .ok (.iload_n 0, 1) := by decide +kernel
theorem dX3_canBeFound_1 : decode cX3_canBeFound 1 = .ok (.tableswitch 82 0 5 #[39, 41, 50, 70, 77, 77], 39) := by decide +kernel
theorem dX3_canBeFound_40 : decode cX3_canBeFound 40 = .ok (.iconst 1, 1) := by decide +kernel
theorem dX3_canBeFound_41 : decode cX3_canBeFound 41 = .ok (.ireturn, 1) := by decide +kernel
theorem dX3_canBeFound_42 : decode cX3_canBeFound 42 = .ok (.iload_n 1, 1) := by decide +kernel
theorem dX3_canBeFound_43 : decode cX3_canBeFound 43 = .ok (.iconst 0, 1) := by decide +kernel
theorem dX3_canBeFound_44 : decode cX3_canBeFound 44 = .ok (.sipush 255, 3) := by decide +kernel
theorem dX3_canBeFound_47 : decode cX3_canBeFound 47 = .ok (.invokestatic 52, 3) := by decide +kernel
theorem dX3_canBeFound_50 : decode cX3_canBeFound 50 = .ok (.ireturn, 1) := by decide +kernel
theorem dX3_canBeFound_51 : decode cX3_canBeFound 51 = .ok (.iload_n 1, 1) := by decide +kernel
theorem dX3_canBeFound_52 : decode cX3_canBeFound 52 = .ok (.invokestatic 190, 3) := by decide +kernel
theorem dX3_canBeFound_55 : decode cX3_canBeFound 55 = .ok (.ifCond .eq 14, 3) := by decide +kernel
theorem dX3_canBeFound_58 : decode cX3_canBeFound 58 = .ok (.iload_n 2, 1) := by decide +kernel
theorem dX3_canBeFound_59 : decode cX3_canBeFound 59 = .ok (.invokestatic 190, 3) := by decide +kernel
theorem dX3_canBeFound_62 : decode cX3_canBeFound 62 = .ok (.ifCond .eq 7, 3) := by decide +kernel
theorem dX3_canBeFound_65 : decode cX3_canBeFound 65 = .ok (.iconst 1, 1) := by decide +kernel
theorem dX3_canBeFound_66 : decode cX3_canBeFound 66 = .ok (.goto 4, 3) := by decide +kernel
theorem dX3_canBeFound_69 : decode cX3_canBeFound 69 = .ok (.iconst 0, 1) := by decide +kernel
theorem dX3_canBeFound_70 : decode cX3_canBeFound 70 = .ok (.ireturn, 1) := by decide +kernel
theorem dX3_canBeFound_71 : decode cX3_canBeFound 71 = .ok (.iload_n 1, 1) := by decide +kernel
theorem dX3_canBeFound_72 : decode cX3_canBeFound 72 = .ok (.iconst 0, 1) := by decide +kernel
theorem dX3_canBeFound_73 : decode cX3_canBeFound 73 = .ok (.iconst 2, 1) := by decide +kernel
theorem dX3_canBeFound_74 : decode cX3_canBeFound 74 = .ok (.invokestatic 52, 3) := by decide +kernel
theorem dX3_canBeFound_77 : decode cX3_canBeFound 77 = .ok (.ireturn, 1) := by decide +kernel
theorem dX3_canBeFound_78 : decode cX3_canBeFound 78 = .ok (.iload_n 1, 1) := by decide +kernel
theorem dX3_canBeFound_79 : decode cX3_canBeFound 79 = .ok (.invokestatic 66, 3) := by decide +kernel
theorem dX3_canBeFound_82 : decode cX3_canBeFound 82 = .ok (.ireturn, 1) := by decide +kernel
theorem dX3_canBeFound_83 : decode cX3_canBeFound 83 = .ok (.iconst 0, 1) := by decide +kernel
theorem dX3_canBeFound_84 : decode cX3_canBeFound 84 = .ok (.ireturn, 1) := by decide +kernel
set_option maxRecDepth 20000 in
theorem ggX3_isFound_X3_isWithin : GoodIn wsX3_isFound wsX3_isWithin := goodIn_r _ [10] (by decide +kernel) (by decide +kernel)
set_option maxRecDepth 20000 in
theorem gX3_isFound_X3_isWithin : GoodIn wsX3_isFound (va_wsS RX3 52 yX3_isWithin wsX3_isWithin) := goodIn_app (goodIn_of _ (by decide +kernel)) ggX3_isFound_X3_isWithin
set_option maxRecDepth 20000 in
theorem ggX3_isFound_X1_isRoot : GoodIn wsX3_isFound wsX1_isRoot := goodIn_r _ [15, 16, 25, 26, 27, 28, 29, 30, 31] (by decide +kernel) (by decide +kernel)
set_option maxRecDepth 20000 in
theorem gX3_isFound_X1_isRoot : GoodIn wsX3_isFound (wsV RX3 103 RX1 yX1_isRoot wsX1_isRoot) := goodIn_app (goodIn_of _ (by decide +kernel)) ggX3_isFound_X1_isRoot
theorem dX3_isFound_0 : decode cX3_isFound 0 = .ok (.iload_n 2, 1) := by decide +kernel
theorem dX3_isFound_1 : decode cX3_isFound 1 = .ok (.tableswitch 140 1 5 #[35, 56, 72, 91, 121], 35) := by decide +kernel
theorem dX3_isFound_36 : decode cX3_isFound 36 = .ok (.aload_n 0, 1) := by decide +kernel
theorem dX3_isFound_37 : decode cX3_isFound 37 = .ok (.getfield 20, 3) := by decide +kernel
theorem dX3_isFound_40 : decode cX3_isFound 40 = .ok (.getfield 97, 3) := by decide +kernel
theorem dX3_isFound_43 : decode cX3_isFound 43 = .ok (.iload_n 1, 1) := by decide +kernel
theorem dX3_isFound_44 : decode cX3_isFound 44 = .ok (.iaload, 1) := by decide +kernel
theorem dX3_isFound_45 : decode cX3_isFound 45 = .ok (.iload_n 3, 1) := by decide +kernel
theorem dX3_isFound_46 : decode cX3_isFound 46 = .ok (.iand, 1) := by decide +kernel
theorem dX3_isFound_47 : decode cX3_isFound 47 = .ok (.iload_n 3, 1) := by decide +kernel
theorem dX3_isFound_48 : decode cX3_isFound 48 = .ok (.if_icmp .ne 7, 3) := by decide +kernel
theorem dX3_isFound_51 : decode cX3_isFound 51 = .ok (.iconst 1, 1) := by decide +kernel
theorem dX3_isFound_52 : decode cX3_isFound 52 = .ok (.goto 4, 3) := by decide +kernel
theorem dX3_isFound_55 : decode cX3_isFound 55 = .ok (.iconst 0, 1) := by decide +kernel
theorem dX3_isFound_56 : decode cX3_isFound 56 = .ok (.ireturn, 1) := by decide +kernel
theorem dX3_isFound_57 : decode cX3_isFound 57 = .ok (.aload_n 0, 1) := by decide +kernel
theorem dX3_isFound_58 : decode cX3_isFound 58 = .ok (.getfield 20, 3) := by decide +kernel
theorem dX3_isFound_61 : decode cX3_isFound 61 = .ok (.getfield 94, 3) := by decide +kernel
theorem dX3_isFound_64 : decode cX3_isFound 64 = .ok (.iload_n 1, 1) := by decide +kernel
theorem dX3_isFound_65 : decode cX3_isFound 65 = .ok (.iaload, 1) := by decide +kernel
theorem dX3_isFound_66 : decode cX3_isFound 66 = .ok (.iload_n 3, 1) := by decide +kernel
theorem dX3_isFound_67 : decode cX3_isFound 67 = .ok (.iload 4, 2) := by decide +kernel
theorem dX3_isFound_69 : decode cX3_isFound 69 = .ok (.invokestatic 52, 3) := by decide +kernel
theorem dX3_isFound_72 : decode cX3_isFound 72 = .ok (.ireturn, 1) := by decide +kernel
theorem dX3_isFound_73 : decode cX3_isFound 73 = .ok (.aload_n 0, 1) := by decide +kernel
theorem dX3_isFound_74 : decode cX3_isFound 74 = .ok (.getfield 20, 3) := by decide +kernel
theorem dX3_isFound_77 : decode cX3_isFound 77 = .ok (.getfield 90, 3) := by decide +kernel
theorem dX3_isFound_80 : decode cX3_isFound 80 = .ok (.iload_n 1, 1) := by decide +kernel
theorem dX3_isFound_81 : decode cX3_isFound 81 = .ok (.iaload, 1) := by decide +kernel
theorem dX3_isFound_82 : decode cX3_isFound 82 = .ok (.iload_n 3, 1) := by decide +kernel
theorem dX3_isFound_83 : decode cX3_isFound 83 = .ok (.if_icmp .ne 7, 3) := by decide +kernel
theorem dX3_isFound_86 : decode cX3_isFound 86 = .ok (.iconst 1, 1) := by decide +kernel
theorem dX3_isFound_87 : decode cX3_isFound 87 = .ok (.goto 4, 3) := by decide +kernel
theorem dX3_isFound_90 : decode cX3_isFound 90 = .ok (.iconst 0, 1) := by decide +kernel
theorem dX3_isFound_91 : decode cX3_isFound 91 = .ok (.ireturn, 1) := by decide +kernel
theorem dX3_isFound_92 : decode cX3_isFound 92 = .ok (.aload_n 0, 1) := by decide +kernel
theorem dX3_isFound_93 : decode cX3_isFound 93 = .ok (.getfield 20, 3) := by decide +kernel
theorem dX3_isFound_96 : decode cX3_isFound 96 = .ok (.iload_n 1, 1) := by decide +kernel
theorem dX3_isFound_97 : decode cX3_isFound 97 = .ok (.invokevirtual 103, 3) := by decide +kernel
theorem dX3_isFound_100 : decode cX3_isFound 100 = .ok (.ifCond .eq 20, 3) := by decide +kernel
theorem dX3_isFound_103 : decode cX3_isFound 103 = .ok (.aload_n 0, 1) := by decide +kernel
theorem dX3_isFound_104 : decode cX3_isFound 104 = .ok (.getfield 20, 3) := by decide +kernel
theorem dX3_isFound_107 : decode cX3_isFound 107 = .ok (.getfield 106, 3) := by decide +kernel
theorem dX3_isFound_110 : decode cX3_isFound 110 = .ok (.iload_n 1, 1) := by decide +kernel
theorem dX3_isFound_111 : decode cX3_isFound 111 = .ok (.iaload, 1) := by decide +kernel
theorem dX3_isFound_112 : decode cX3_isFound 112 = .ok (.iload_n 3, 1) := by decide +kernel
theorem dX3_isFound_113 : decode cX3_isFound 113 = .ok (.if_icmp .ne 7, 3) := by decide +kernel
theorem dX3_isFound_116 : decode cX3_isFound 116 = .ok (.iconst 1, 1) := by decide +kernel
theorem dX3_isFound_117 : decode cX3_isFound 117 = .ok (.goto 4, 3) := by decide +kernel
theorem dX3_isFound_120 : decode cX3_isFound 120 = .ok (.iconst 0, 1) := by decide +kernel
theorem dX3_isFound_121 : decode cX3_isFound 121 = .ok (.ireturn, 1) := by decide +kernel
theorem dX3_isFound_122 : decode cX3_isFound 122 = .ok (.aload_n 0, 1) := by decide +kernel
theorem dX3_isFound_123 : decode cX3_isFound 123 = .ok (.getfield 20, 3) := by decide +kernel
theorem dX3_isFound_126 : decode cX3_isFound 126 = .ok (.getfield 100, 3) := by decide +kernel
theorem dX3_isFound_129 : decode cX3_isFound 129 = .ok (.iload_n 1, 1) := by decide +kernel
theorem dX3_isFound_130 : decode cX3_isFound 130 = .ok (.iaload, 1) := by decide +kernel
theorem dX3_isFound_131 : decode cX3_isFound 131 = .ok (.iload_n 3, 1) := by decide +kernel
theorem dX3_isFound_132 : decode cX3_isFound 132 = .ok (.if_icmp .ne 7, 3) := by decide +kernel
theorem dX3_isFound_135 : decode cX3_isFound 135 = .ok (.iconst 1, 1) := by decide +kernel
theorem dX3_isFound_136 : decode cX3_isFound 136 = .ok (.goto 4, 3) := by decide +kernel
theorem dX3_isFound_139 : decode cX3_isFound 139 = .ok (.iconst 0, 1) := by decide +kernel
theorem dX3_isFound_140 : decode cX3_isFound 140 = .ok (.ireturn, 1) := by decide +kernel
theorem dX3_isFound_141 : decode cX3_isFound 141 = .ok (.iconst 1, 1) := by decide +kernel
theorem dX3_isFound_142 : decode cX3_isFound 142 = .ok (.ireturn, 1) := by decide +kernel
set_option maxRecDepth 20000 in
theorem ggX3_scoreFound_J6_bitCount_0f7a4 : GoodIn wsX3_scoreFound wsJ6_bitCount_0f7a4 := goodIn_r _ [6, 7, 8, 9] (by decide +kernel) (by decide +kernel)
set_option maxRecDepth 20000 in
theorem gX3_scoreFound_J6_bitCount_0f7a4 : GoodIn wsX3_scoreFound (va_wsS RX3 193 yJ6_bitCount_0f7a4 wsJ6_bitCount_0f7a4) := goodIn_app (goodIn_of _ (by decide +kernel)) ggX3_scoreFound_J6_bitCount_0f7a4
theorem dX3_scoreFound_0 : decode cX3_scoreFound 0 = .ok (.iload_n 2, 1) := by decide +kernel
theorem dX3_scoreFound_1 : decode cX3_scoreFound 1 = .ok (.tableswitch 54 1 5 #[35, 41, 54, 52, 52], 35) := by decide +kernel
theorem dX3_scoreFound_36 : decode cX3_scoreFound 36 = .ok (.iload_n 3, 1) := by decide +kernel
theorem dX3_scoreFound_37 : decode cX3_scoreFound 37 = .ok (.invokestatic 193, 3) := by decide +kernel
theorem dX3_scoreFound_40 : decode cX3_scoreFound 40 = .ok (.i2l, 1) := by decide +kernel
theorem dX3_scoreFound_41 : decode cX3_scoreFound 41 = .ok (.lreturn, 1) := by decide +kernel
theorem dX3_scoreFound_42 : decode cX3_scoreFound 42 = .ok (.aload_n 0, 1) := by decide +kernel
theorem dX3_scoreFound_43 : decode cX3_scoreFound 43 = .ok (.getfield 20, 3) := by decide +kernel
theorem dX3_scoreFound_46 : decode cX3_scoreFound 46 = .ok (.getfield 94, 3) := by decide +kernel
theorem dX3_scoreFound_49 : decode cX3_scoreFound 49 = .ok (.iload_n 1, 1) := by decide +kernel
theorem dX3_scoreFound_50 : decode cX3_scoreFound 50 = .ok (.iaload, 1) := by decide +kernel
theorem dX3_scoreFound_51 : decode cX3_scoreFound 51 = .ok (.i2l, 1) := by decide +kernel
theorem dX3_scoreFound_52 : decode cX3_scoreFound 52 = .ok (.lreturn, 1) := by decide +kernel
theorem dX3_scoreFound_53 : decode cX3_scoreFound 53 = .ok (.lconst 1, 1) := by decide +kernel
theorem dX3_scoreFound_54 : decode cX3_scoreFound 54 = .ok (.lreturn, 1) := by decide +kernel
theorem dX3_scoreFound_55 : decode cX3_scoreFound 55 = .ok (.lconst 0, 1) := by decide +kernel
theorem dX3_scoreFound_56 : decode cX3_scoreFound 56 = .ok (.lreturn, 1) := by decide +kernel
set_option maxRecDepth 20000 in
theorem ggX3_gatherBelow_X1_firstBelow : GoodIn wsX3_gatherBelow wsX1_firstBelow := goodIn_r _ [8, 9, 44, 45, 46, 47, 48, 49, 50] (by decide +kernel) (by decide +kernel)
set_option maxRecDepth 20000 in
theorem gX3_gatherBelow_X1_firstBelow : GoodIn wsX3_gatherBelow (wsV RX3 116 RX1 yX1_firstBelow wsX1_firstBelow) := goodIn_app (goodIn_of _ (by decide +kernel)) ggX3_gatherBelow_X1_firstBelow
set_option maxRecDepth 20000 in
theorem ggX3_gatherBelow_X2_has : GoodIn wsX3_gatherBelow wsX2_has := goodIn_r _ [14, 15, 41, 42, 43] (by decide +kernel) (by decide +kernel)
set_option maxRecDepth 20000 in
theorem gX3_gatherBelow_X2_has : GoodIn wsX3_gatherBelow (wsV RX3 158 RX2 yX2_has wsX2_has) := goodIn_app (goodIn_of _ (by decide +kernel)) ggX3_gatherBelow_X2_has
set_option maxRecDepth 20000 in
theorem ggX3_gatherBelow_X3_combine : GoodIn wsX3_gatherBelow wsX3_combine := goodIn_r _ [19, 20, 21, 22, 23, 24, 25, 26] (by decide +kernel) (by decide +kernel)
set_option maxRecDepth 20000 in
theorem gX3_gatherBelow_X3_combine : GoodIn wsX3_gatherBelow (va_wsS RX3 198 yX3_combine wsX3_combine) := goodIn_app (goodIn_of _ (by decide +kernel)) ggX3_gatherBelow_X3_combine
set_option maxRecDepth 20000 in
theorem ggX3_gatherBelow_X2_put : GoodIn wsX3_gatherBelow wsX2_put := goodIn_r _ [30, 15, 31, 32, 41, 42, 43] (by decide +kernel) (by decide +kernel)
set_option maxRecDepth 20000 in
theorem gX3_gatherBelow_X2_put : GoodIn wsX3_gatherBelow (wsV RX3 136 RX2 yX2_put wsX2_put) := goodIn_app (goodIn_of _ (by decide +kernel)) ggX3_gatherBelow_X2_put
theorem dX3_gatherBelow_0 : decode cX3_gatherBelow 0 = .ok (.iconst 0, 1) := by decide +kernel
theorem dX3_gatherBelow_1 : decode cX3_gatherBelow 1 = .ok (.istore 4, 2) := by decide +kernel
theorem dX3_gatherBelow_3 : decode cX3_gatherBelow 3 = .ok (.lconst 0, 1) := by decide +kernel
theorem dX3_gatherBelow_4 : decode cX3_gatherBelow 4 = .ok (.lstore 5, 2) := by decide +kernel
theorem dX3_gatherBelow_6 : decode cX3_gatherBelow 6 = .ok (.aload_n 0, 1) := by decide +kernel
theorem dX3_gatherBelow_7 : decode cX3_gatherBelow 7 = .ok (.getfield 20, 3) := by decide +kernel
theorem dX3_gatherBelow_10 : decode cX3_gatherBelow 10 = .ok (.iload_n 1, 1) := by decide +kernel
theorem dX3_gatherBelow_11 : decode cX3_gatherBelow 11 = .ok (.invokevirtual 116, 3) := by decide +kernel
theorem dX3_gatherBelow_14 : decode cX3_gatherBelow 14 = .ok (.istore 7, 2) := by decide +kernel
theorem dX3_gatherBelow_16 : decode cX3_gatherBelow 16 = .ok (.iload 7, 2) := by decide +kernel
theorem dX3_gatherBelow_18 : decode cX3_gatherBelow 18 = .ok (.iload_n 1, 1) := by decide +kernel
theorem dX3_gatherBelow_19 : decode cX3_gatherBelow 19 = .ok (.if_icmp .ge 65, 3) := by decide +kernel
theorem dX3_gatherBelow_22 : decode cX3_gatherBelow 22 = .ok (.aload_n 0, 1) := by decide +kernel
theorem dX3_gatherBelow_23 : decode cX3_gatherBelow 23 = .ok (.getfield 34, 3) := by decide +kernel
theorem dX3_gatherBelow_26 : decode cX3_gatherBelow 26 = .ok (.iload 7, 2) := by decide +kernel
theorem dX3_gatherBelow_28 : decode cX3_gatherBelow 28 = .ok (.invokevirtual 158, 3) := by decide +kernel
theorem dX3_gatherBelow_31 : decode cX3_gatherBelow 31 = .ok (.ifCond .eq 47, 3) := by decide +kernel
theorem dX3_gatherBelow_34 : decode cX3_gatherBelow 34 = .ok (.iload_n 2, 1) := by decide +kernel
theorem dX3_gatherBelow_35 : decode cX3_gatherBelow 35 = .ok (.iconst 3, 1) := by decide +kernel
theorem dX3_gatherBelow_36 : decode cX3_gatherBelow 36 = .ok (.if_icmp .ne 7, 3) := by decide +kernel
theorem dX3_gatherBelow_39 : decode cX3_gatherBelow 39 = .ok (.lconst 1, 1) := by decide +kernel
theorem dX3_gatherBelow_40 : decode cX3_gatherBelow 40 = .ok (.goto 13, 3) := by decide +kernel
theorem dX3_gatherBelow_43 : decode cX3_gatherBelow 43 = .ok (.aload_n 0, 1) := by decide +kernel
theorem dX3_gatherBelow_44 : decode cX3_gatherBelow 44 = .ok (.getfield 34, 3) := by decide +kernel
theorem dX3_gatherBelow_47 : decode cX3_gatherBelow 47 = .ok (.getfield 177, 3) := by decide +kernel
theorem dX3_gatherBelow_50 : decode cX3_gatherBelow 50 = .ok (.iload 7, 2) := by decide +kernel
theorem dX3_gatherBelow_52 : decode cX3_gatherBelow 52 = .ok (.laload, 1) := by decide +kernel
theorem dX3_gatherBelow_53 : decode cX3_gatherBelow 53 = .ok (.lstore 8, 2) := by decide +kernel
theorem dX3_gatherBelow_55 : decode cX3_gatherBelow 55 = .ok (.iload 4, 2) := by decide +kernel
theorem dX3_gatherBelow_57 : decode cX3_gatherBelow 57 = .ok (.ifCond .ne 8, 3) := by decide +kernel
theorem dX3_gatherBelow_60 : decode cX3_gatherBelow 60 = .ok (.lload 8, 2) := by decide +kernel
theorem dX3_gatherBelow_62 : decode cX3_gatherBelow 62 = .ok (.goto 11, 3) := by decide +kernel
theorem dX3_gatherBelow_65 : decode cX3_gatherBelow 65 = .ok (.iload_n 2, 1) := by decide +kernel
theorem dX3_gatherBelow_66 : decode cX3_gatherBelow 66 = .ok (.lload 5, 2) := by decide +kernel
theorem dX3_gatherBelow_68 : decode cX3_gatherBelow 68 = .ok (.lload 8, 2) := by decide +kernel
theorem dX3_gatherBelow_70 : decode cX3_gatherBelow 70 = .ok (.invokestatic 198, 3) := by decide +kernel
theorem dX3_gatherBelow_73 : decode cX3_gatherBelow 73 = .ok (.lstore 5, 2) := by decide +kernel
theorem dX3_gatherBelow_75 : decode cX3_gatherBelow 75 = .ok (.iinc 4 1, 3) := by decide +kernel
theorem dX3_gatherBelow_78 : decode cX3_gatherBelow 78 = .ok (.iinc 7 1, 3) := by decide +kernel
theorem dX3_gatherBelow_81 : decode cX3_gatherBelow 81 = .ok (.goto (-65), 3) := by decide +kernel
theorem dX3_gatherBelow_84 : decode cX3_gatherBelow 84 = .ok (.iload 4, 2) := by decide +kernel
theorem dX3_gatherBelow_86 : decode cX3_gatherBelow 86 = .ok (.ifCond .le 24, 3) := by decide +kernel
theorem dX3_gatherBelow_89 : decode cX3_gatherBelow 89 = .ok (.aload_n 3, 1) := by decide +kernel
theorem dX3_gatherBelow_90 : decode cX3_gatherBelow 90 = .ok (.iload_n 1, 1) := by decide +kernel
theorem dX3_gatherBelow_91 : decode cX3_gatherBelow 91 = .ok (.iload_n 2, 1) := by decide +kernel
theorem dX3_gatherBelow_92 : decode cX3_gatherBelow 92 = .ok (.iconst 4, 1) := by decide +kernel
theorem dX3_gatherBelow_93 : decode cX3_gatherBelow 93 = .ok (.if_icmp .ne 12, 3) := by decide +kernel
theorem dX3_gatherBelow_96 : decode cX3_gatherBelow 96 = .ok (.lload 5, 2) := by decide +kernel
theorem dX3_gatherBelow_98 : decode cX3_gatherBelow 98 = .ok (.iload 4, 2) := by decide +kernel
theorem dX3_gatherBelow_100 : decode cX3_gatherBelow 100 = .ok (.i2l, 1) := by decide +kernel
theorem dX3_gatherBelow_101 : decode cX3_gatherBelow 101 = .ok (.ldiv, 1) := by decide +kernel
theorem dX3_gatherBelow_102 : decode cX3_gatherBelow 102 = .ok (.goto 5, 3) := by decide +kernel
theorem dX3_gatherBelow_105 : decode cX3_gatherBelow 105 = .ok (.lload 5, 2) := by decide +kernel
theorem dX3_gatherBelow_107 : decode cX3_gatherBelow 107 = .ok (.invokevirtual 136, 3) := by decide +kernel
theorem dX3_gatherBelow_110 : decode cX3_gatherBelow 110 = .ok (.return_, 1) := by decide +kernel
theorem dX3_combine_0 : decode cX3_combine 0 = .ok (.iload_n 0, 1) := by decide +kernel
theorem dX3_combine_1 : decode cX3_combine 1 = .ok (.lookupswitch 39 #[(1, 27), (2, 33)], 27) := by decide +kernel
theorem dX3_combine_28 : decode cX3_combine 28 = .ok (.lload_n 1, 1) := by decide +kernel
theorem dX3_combine_29 : decode cX3_combine 29 = .ok (.lload_n 3, 1) := by decide +kernel
theorem dX3_combine_30 : decode cX3_combine 30 = .ok (.invokestatic 202, 3) := by decide +kernel
theorem dX3_combine_33 : decode cX3_combine 33 = .ok (.lreturn, 1) := by decide +kernel
theorem dX3_combine_34 : decode cX3_combine 34 = .ok (.lload_n 1, 1) := by decide +kernel
theorem dX3_combine_35 : decode cX3_combine 35 = .ok (.lload_n 3, 1) := by decide +kernel
theorem dX3_combine_36 : decode cX3_combine 36 = .ok (.invokestatic 208, 3) := by decide +kernel
theorem dX3_combine_39 : decode cX3_combine 39 = .ok (.lreturn, 1) := by decide +kernel
theorem dX3_combine_40 : decode cX3_combine 40 = .ok (.lload_n 1, 1) := by decide +kernel
theorem dX3_combine_41 : decode cX3_combine 41 = .ok (.lload_n 3, 1) := by decide +kernel
theorem dX3_combine_42 : decode cX3_combine 42 = .ok (.ladd, 1) := by decide +kernel
theorem dX3_combine_43 : decode cX3_combine 43 = .ok (.lreturn, 1) := by decide +kernel
set_option maxRecDepth 20000 in
theorem ggX3_spreadBelow_X1_firstBelow : GoodIn wsX3_spreadBelow wsX1_firstBelow := goodIn_r _ [9, 10, 31, 32, 33, 34, 35, 36, 37] (by decide +kernel) (by decide +kernel)
set_option maxRecDepth 20000 in
theorem gX3_spreadBelow_X1_firstBelow : GoodIn wsX3_spreadBelow (wsV RX3 116 RX1 yX1_firstBelow wsX1_firstBelow) := goodIn_app (goodIn_of _ (by decide +kernel)) ggX3_spreadBelow_X1_firstBelow
set_option maxRecDepth 20000 in
theorem ggX3_spreadBelow_X2_add : GoodIn wsX3_spreadBelow wsX2_add := goodIn_r _ [15, 16, 17, 18, 19, 20, 14, 21, 22, 38, 39, 40] (by decide +kernel) (by decide +kernel)
set_option maxRecDepth 20000 in
theorem gX3_spreadBelow_X2_add : GoodIn wsX3_spreadBelow (wsV RX3 211 RX2 yX2_add wsX2_add) := goodIn_app (goodIn_of _ (by decide +kernel)) ggX3_spreadBelow_X2_add
theorem dX3_spreadBelow_0 : decode cX3_spreadBelow 0 = .ok (.aload_n 0, 1) := by decide +kernel
theorem dX3_spreadBelow_1 : decode cX3_spreadBelow 1 = .ok (.getfield 20, 3) := by decide +kernel
theorem dX3_spreadBelow_4 : decode cX3_spreadBelow 4 = .ok (.iload_n 1, 1) := by decide +kernel
theorem dX3_spreadBelow_5 : decode cX3_spreadBelow 5 = .ok (.invokevirtual 116, 3) := by decide +kernel
theorem dX3_spreadBelow_8 : decode cX3_spreadBelow 8 = .ok (.istore 4, 2) := by decide +kernel
theorem dX3_spreadBelow_10 : decode cX3_spreadBelow 10 = .ok (.iload 4, 2) := by decide +kernel
theorem dX3_spreadBelow_12 : decode cX3_spreadBelow 12 = .ok (.iload_n 1, 1) := by decide +kernel
theorem dX3_spreadBelow_13 : decode cX3_spreadBelow 13 = .ok (.if_icmp .ge 38, 3) := by decide +kernel
theorem dX3_spreadBelow_16 : decode cX3_spreadBelow 16 = .ok (.aload_n 0, 1) := by decide +kernel
theorem dX3_spreadBelow_17 : decode cX3_spreadBelow 17 = .ok (.getfield 20, 3) := by decide +kernel
theorem dX3_spreadBelow_20 : decode cX3_spreadBelow 20 = .ok (.getfield 90, 3) := by decide +kernel
theorem dX3_spreadBelow_23 : decode cX3_spreadBelow 23 = .ok (.iload 4, 2) := by decide +kernel
theorem dX3_spreadBelow_25 : decode cX3_spreadBelow 25 = .ok (.iaload, 1) := by decide +kernel
theorem dX3_spreadBelow_26 : decode cX3_spreadBelow 26 = .ok (.iload_n 2, 1) := by decide +kernel
theorem dX3_spreadBelow_27 : decode cX3_spreadBelow 27 = .ok (.if_icmp .ne 18, 3) := by decide +kernel
theorem dX3_spreadBelow_30 : decode cX3_spreadBelow 30 = .ok (.aload_n 3, 1) := by decide +kernel
theorem dX3_spreadBelow_31 : decode cX3_spreadBelow 31 = .ok (.iload 4, 2) := by decide +kernel
theorem dX3_spreadBelow_33 : decode cX3_spreadBelow 33 = .ok (.aload_n 0, 1) := by decide +kernel
theorem dX3_spreadBelow_34 : decode cX3_spreadBelow 34 = .ok (.getfield 30, 3) := by decide +kernel
theorem dX3_spreadBelow_37 : decode cX3_spreadBelow 37 = .ok (.getfield 177, 3) := by decide +kernel
theorem dX3_spreadBelow_40 : decode cX3_spreadBelow 40 = .ok (.iload_n 1, 1) := by decide +kernel
theorem dX3_spreadBelow_41 : decode cX3_spreadBelow 41 = .ok (.laload, 1) := by decide +kernel
theorem dX3_spreadBelow_42 : decode cX3_spreadBelow 42 = .ok (.invokevirtual 211, 3) := by decide +kernel
theorem dX3_spreadBelow_45 : decode cX3_spreadBelow 45 = .ok (.iinc 4 1, 3) := by decide +kernel
theorem dX3_spreadBelow_48 : decode cX3_spreadBelow 48 = .ok (.goto (-38), 3) := by decide +kernel
theorem dX3_spreadBelow_51 : decode cX3_spreadBelow 51 = .ok (.return_, 1) := by decide +kernel
set_option maxRecDepth 20000 in
theorem ggX3_spreadToLinked_X2_put : GoodIn wsX3_spreadToLinked wsX2_put := goodIn_r _ [12, 13, 14, 15, 31, 32, 33] (by decide +kernel) (by decide +kernel)
set_option maxRecDepth 20000 in
theorem gX3_spreadToLinked_X2_put : GoodIn wsX3_spreadToLinked (wsV RX3 136 RX2 yX2_put wsX2_put) := goodIn_app (goodIn_of _ (by decide +kernel)) ggX3_spreadToLinked_X2_put
theorem dX3_spreadToLinked_0 : decode cX3_spreadToLinked 0 = .ok (.iconst 0, 1) := by decide +kernel
theorem dX3_spreadToLinked_1 : decode cX3_spreadToLinked 1 = .ok (.istore_n 3, 1) := by decide +kernel
theorem dX3_spreadToLinked_2 : decode cX3_spreadToLinked 2 = .ok (.iload_n 3, 1) := by decide +kernel
theorem dX3_spreadToLinked_3 : decode cX3_spreadToLinked 3 = .ok (.aload_n 0, 1) := by decide +kernel
theorem dX3_spreadToLinked_4 : decode cX3_spreadToLinked 4 = .ok (.getfield 20, 3) := by decide +kernel
theorem dX3_spreadToLinked_7 : decode cX3_spreadToLinked 7 = .ok (.getfield 59, 3) := by decide +kernel
theorem dX3_spreadToLinked_10 : decode cX3_spreadToLinked 10 = .ok (.if_icmp .ge 56, 3) := by decide +kernel
theorem dX3_spreadToLinked_13 : decode cX3_spreadToLinked 13 = .ok (.aload_n 0, 1) := by decide +kernel
theorem dX3_spreadToLinked_14 : decode cX3_spreadToLinked 14 = .ok (.getfield 20, 3) := by decide +kernel
theorem dX3_spreadToLinked_17 : decode cX3_spreadToLinked 17 = .ok (.getfield 112, 3) := by decide +kernel
theorem dX3_spreadToLinked_20 : decode cX3_spreadToLinked 20 = .ok (.iload_n 3, 1) := by decide +kernel
theorem dX3_spreadToLinked_21 : decode cX3_spreadToLinked 21 = .ok (.baload, 1) := by decide +kernel
theorem dX3_spreadToLinked_22 : decode cX3_spreadToLinked 22 = .ok (.ifCond .eq 38, 3) := by decide +kernel
theorem dX3_spreadToLinked_25 : decode cX3_spreadToLinked 25 = .ok (.aload_n 0, 1) := by decide +kernel
theorem dX3_spreadToLinked_26 : decode cX3_spreadToLinked 26 = .ok (.getfield 20, 3) := by decide +kernel
theorem dX3_spreadToLinked_29 : decode cX3_spreadToLinked 29 = .ok (.getfield 100, 3) := by decide +kernel
theorem dX3_spreadToLinked_32 : decode cX3_spreadToLinked 32 = .ok (.iload_n 3, 1) := by decide +kernel
theorem dX3_spreadToLinked_33 : decode cX3_spreadToLinked 33 = .ok (.iaload, 1) := by decide +kernel
theorem dX3_spreadToLinked_34 : decode cX3_spreadToLinked 34 = .ok (.aload_n 0, 1) := by decide +kernel
theorem dX3_spreadToLinked_35 : decode cX3_spreadToLinked 35 = .ok (.getfield 20, 3) := by decide +kernel
theorem dX3_spreadToLinked_38 : decode cX3_spreadToLinked 38 = .ok (.getfield 106, 3) := by decide +kernel
theorem dX3_spreadToLinked_41 : decode cX3_spreadToLinked 41 = .ok (.iload_n 1, 1) := by decide +kernel
theorem dX3_spreadToLinked_42 : decode cX3_spreadToLinked 42 = .ok (.iaload, 1) := by decide +kernel
theorem dX3_spreadToLinked_43 : decode cX3_spreadToLinked 43 = .ok (.if_icmp .ne 17, 3) := by decide +kernel
theorem dX3_spreadToLinked_46 : decode cX3_spreadToLinked 46 = .ok (.aload_n 2, 1) := by decide +kernel
theorem dX3_spreadToLinked_47 : decode cX3_spreadToLinked 47 = .ok (.iload_n 3, 1) := by decide +kernel
theorem dX3_spreadToLinked_48 : decode cX3_spreadToLinked 48 = .ok (.aload_n 0, 1) := by decide +kernel
theorem dX3_spreadToLinked_49 : decode cX3_spreadToLinked 49 = .ok (.getfield 30, 3) := by decide +kernel
theorem dX3_spreadToLinked_52 : decode cX3_spreadToLinked 52 = .ok (.getfield 177, 3) := by decide +kernel
theorem dX3_spreadToLinked_55 : decode cX3_spreadToLinked 55 = .ok (.iload_n 1, 1) := by decide +kernel
theorem dX3_spreadToLinked_56 : decode cX3_spreadToLinked 56 = .ok (.laload, 1) := by decide +kernel
theorem dX3_spreadToLinked_57 : decode cX3_spreadToLinked 57 = .ok (.invokevirtual 136, 3) := by decide +kernel
theorem dX3_spreadToLinked_60 : decode cX3_spreadToLinked 60 = .ok (.iinc 3 1, 3) := by decide +kernel
theorem dX3_spreadToLinked_63 : decode cX3_spreadToLinked 63 = .ok (.goto (-61), 3) := by decide +kernel
theorem dX3_spreadToLinked_66 : decode cX3_spreadToLinked 66 = .ok (.return_, 1) := by decide +kernel
theorem dX3_answerRanked_0 : decode cX3_answerRanked 0 = .ok (.iload_n 1, 1) := by decide +kernel
theorem dX3_answerRanked_1 : decode cX3_answerRanked 1 = .ok (.iconst (-1), 1) := by decide +kernel
theorem dX3_answerRanked_2 : decode cX3_answerRanked 2 = .ok (.if_icmp .ne 11, 3) := by decide +kernel
theorem dX3_answerRanked_5 : decode cX3_answerRanked 5 = .ok (.aload_n 0, 1) := by decide +kernel
theorem dX3_answerRanked_6 : decode cX3_answerRanked 6 = .ok (.getfield 40, 3) := by decide +kernel
theorem dX3_answerRanked_9 : decode cX3_answerRanked 9 = .ok (.getfield 214, 3) := by decide +kernel
theorem dX3_answerRanked_12 : decode cX3_answerRanked 12 = .ok (.ireturn, 1) := by decide +kernel
theorem dX3_answerRanked_13 : decode cX3_answerRanked 13 = .ok (.iload_n 1, 1) := by decide +kernel
theorem dX3_answerRanked_14 : decode cX3_answerRanked 14 = .ok (.ifCond .lt 26, 3) := by decide +kernel
theorem dX3_answerRanked_17 : decode cX3_answerRanked 17 = .ok (.iload_n 1, 1) := by decide +kernel
theorem dX3_answerRanked_18 : decode cX3_answerRanked 18 = .ok (.aload_n 0, 1) := by decide +kernel
theorem dX3_answerRanked_19 : decode cX3_answerRanked 19 = .ok (.getfield 40, 3) := by decide +kernel
theorem dX3_answerRanked_22 : decode cX3_answerRanked 22 = .ok (.getfield 214, 3) := by decide +kernel
theorem dX3_answerRanked_25 : decode cX3_answerRanked 25 = .ok (.if_icmp .ge 15, 3) := by decide +kernel
theorem dX3_answerRanked_28 : decode cX3_answerRanked 28 = .ok (.aload_n 0, 1) := by decide +kernel
theorem dX3_answerRanked_29 : decode cX3_answerRanked 29 = .ok (.getfield 40, 3) := by decide +kernel
theorem dX3_answerRanked_32 : decode cX3_answerRanked 32 = .ok (.getfield 215, 3) := by decide +kernel
theorem dX3_answerRanked_35 : decode cX3_answerRanked 35 = .ok (.iload_n 1, 1) := by decide +kernel
theorem dX3_answerRanked_36 : decode cX3_answerRanked 36 = .ok (.iaload, 1) := by decide +kernel
theorem dX3_answerRanked_37 : decode cX3_answerRanked 37 = .ok (.goto 4, 3) := by decide +kernel
theorem dX3_answerRanked_40 : decode cX3_answerRanked 40 = .ok (.iconst (-1), 1) := by decide +kernel
theorem dX3_answerRanked_41 : decode cX3_answerRanked 41 = .ok (.ireturn, 1) := by decide +kernel
theorem dX4_init_0 : decode cX4_init 0 = .ok (.aload_n 0, 1) := by decide +kernel
theorem dX4_init_1 : decode cX4_init 1 = .ok (.invokespecial 1, 3) := by decide +kernel
theorem dX4_init_4 : decode cX4_init 4 = .ok (.aload_n 0, 1) := by decide +kernel
theorem dX4_init_5 : decode cX4_init 5 = .ok (.sipush 261, 3) := by decide +kernel
theorem dX4_init_8 : decode cX4_init 8 = .ok (.newarray .int, 2) := by decide +kernel
theorem dX4_init_10 : decode cX4_init 10 = .ok (.putfield 7, 3) := by decide +kernel
theorem dX4_init_13 : decode cX4_init 13 = .ok (.aload_n 0, 1) := by decide +kernel
theorem dX4_init_14 : decode cX4_init 14 = .ok (.sipush 261, 3) := by decide +kernel
theorem dX4_init_17 : decode cX4_init 17 = .ok (.newarray .int, 2) := by decide +kernel
theorem dX4_init_19 : decode cX4_init 19 = .ok (.putfield 13, 3) := by decide +kernel
theorem dX4_init_22 : decode cX4_init 22 = .ok (.aload_n 0, 1) := by decide +kernel
theorem dX4_init_23 : decode cX4_init 23 = .ok (.sipush 261, 3) := by decide +kernel
theorem dX4_init_26 : decode cX4_init 26 = .ok (.newarray .int, 2) := by decide +kernel
theorem dX4_init_28 : decode cX4_init 28 = .ok (.putfield 16, 3) := by decide +kernel
theorem dX4_init_31 : decode cX4_init 31 = .ok (.aload_n 0, 1) := by decide +kernel
theorem dX4_init_32 : decode cX4_init 32 = .ok (.sipush 261, 3) := by decide +kernel
theorem dX4_init_35 : decode cX4_init 35 = .ok (.newarray .int, 2) := by decide +kernel
theorem dX4_init_37 : decode cX4_init 37 = .ok (.putfield 19, 3) := by decide +kernel
theorem dX4_init_40 : decode cX4_init 40 = .ok (.aload_n 0, 1) := by decide +kernel
theorem dX4_init_41 : decode cX4_init 41 = .ok (.sipush 261, 3) := by decide +kernel
theorem dX4_init_44 : decode cX4_init 44 = .ok (.newarray .int, 2) := by decide +kernel
theorem dX4_init_46 : decode cX4_init 46 = .ok (.putfield 22, 3) := by decide +kernel
theorem dX4_init_49 : decode cX4_init 49 = .ok (.aload_n 0, 1) := by decide +kernel
theorem dX4_init_50 : decode cX4_init 50 = .ok (.sipush 261, 3) := by decide +kernel
theorem dX4_init_53 : decode cX4_init 53 = .ok (.newarray .boolean, 2) := by decide +kernel
theorem dX4_init_55 : decode cX4_init 55 = .ok (.putfield 25, 3) := by decide +kernel
theorem dX4_init_58 : decode cX4_init 58 = .ok (.aload_n 0, 1) := by decide +kernel
theorem dX4_init_59 : decode cX4_init 59 = .ok (.sipush 240, 3) := by decide +kernel
theorem dX4_init_62 : decode cX4_init 62 = .ok (.newarray .int, 2) := by decide +kernel
theorem dX4_init_64 : decode cX4_init 64 = .ok (.putfield 29, 3) := by decide +kernel
theorem dX4_init_67 : decode cX4_init 67 = .ok (.aload_n 0, 1) := by decide +kernel
theorem dX4_init_68 : decode cX4_init 68 = .ok (.sipush 1800, 3) := by decide +kernel
theorem dX4_init_71 : decode cX4_init 71 = .ok (.newarray .boolean, 2) := by decide +kernel
theorem dX4_init_73 : decode cX4_init 73 = .ok (.putfield 32, 3) := by decide +kernel
theorem dX4_init_76 : decode cX4_init 76 = .ok (.aload_n 0, 1) := by decide +kernel
theorem dX4_init_77 : decode cX4_init 77 = .ok (.sipush 1800, 3) := by decide +kernel
theorem dX4_init_80 : decode cX4_init 80 = .ok (.newarray .long, 2) := by decide +kernel
theorem dX4_init_82 : decode cX4_init 82 = .ok (.putfield 35, 3) := by decide +kernel
theorem dX4_init_85 : decode cX4_init 85 = .ok (.aload_n 0, 1) := by decide +kernel
theorem dX4_init_86 : decode cX4_init 86 = .ok (.sipush 200, 3) := by decide +kernel
theorem dX4_init_89 : decode cX4_init 89 = .ok (.newarray .boolean, 2) := by decide +kernel
theorem dX4_init_91 : decode cX4_init 91 = .ok (.putfield 39, 3) := by decide +kernel
theorem dX4_init_94 : decode cX4_init 94 = .ok (.aload_n 0, 1) := by decide +kernel
theorem dX4_init_95 : decode cX4_init 95 = .ok (.sipush 200, 3) := by decide +kernel
theorem dX4_init_98 : decode cX4_init 98 = .ok (.newarray .long, 2) := by decide +kernel
theorem dX4_init_100 : decode cX4_init 100 = .ok (.putfield 42, 3) := by decide +kernel
theorem dX4_init_103 : decode cX4_init 103 = .ok (.return_, 1) := by decide +kernel
theorem dX4_thrown_0 : decode cX4_thrown 0 = .ok (.aload_n 0, 1) := by decide +kernel
theorem dX4_thrown_1 : decode cX4_thrown 1 = .ok (.getfield 45, 3) := by decide +kernel
theorem dX4_thrown_4 : decode cX4_thrown 4 = .ok (.ireturn, 1) := by decide +kernel
theorem dX4_isIn_0 : decode cX4_isIn 0 = .ok (.iload_n 0, 1) := by decide +kernel
theorem dX4_isIn_1 : decode cX4_isIn 1 = .ok (.iload_n 1, 1) := by decide +kernel
theorem dX4_isIn_2 : decode cX4_isIn 2 = .ok (.if_icmp .lt 12, 3) := by decide +kernel
theorem dX4_isIn_5 : decode cX4_isIn 5 = .ok (.iload_n 0, 1) := by decide +kernel
theorem dX4_isIn_6 : decode cX4_isIn 6 = .ok (.iload_n 2, 1) := by decide +kernel
theorem dX4_isIn_7 : decode cX4_isIn 7 = .ok (.if_icmp .gt 7, 3) := by decide +kernel
theorem dX4_isIn_10 : decode cX4_isIn 10 = .ok (.iconst 1, 1) := by decide +kernel
theorem dX4_isIn_11 : decode cX4_isIn 11 = .ok (.goto 4, 3) := by decide +kernel
theorem dX4_isIn_14 : decode cX4_isIn 14 = .ok (.iconst 0, 1) := by decide +kernel
theorem dX4_isIn_15 : decode cX4_isIn 15 = .ok (.ireturn, 1) := by decide +kernel
set_option maxRecDepth 20000 in
theorem ggX4_isObject_X4_isIn : GoodIn wsX4_isObject wsX4_isIn := goodIn_r _ [5] (by decide +kernel) (by decide +kernel)
set_option maxRecDepth 20000 in
theorem gX4_isObject_X4_isIn : GoodIn wsX4_isObject (va_wsS RX4 52 yX4_isIn wsX4_isIn) := goodIn_app (goodIn_of _ (by decide +kernel)) ggX4_isObject_X4_isIn
theorem dX4_isObject_0 : decode cX4_isObject 0 = .ok (.iload_n 1, 1) := by decide +kernel
theorem dX4_isObject_1 : decode cX4_isObject 1 = .ok (.iconst 0, 1) := by decide +kernel
theorem dX4_isObject_2 : decode cX4_isObject 2 = .ok (.aload_n 0, 1) := by decide +kernel
theorem dX4_isObject_3 : decode cX4_isObject 3 = .ok (.getfield 49, 3) := by decide +kernel
theorem dX4_isObject_6 : decode cX4_isObject 6 = .ok (.iconst 1, 1) := by decide +kernel
theorem dX4_isObject_7 : decode cX4_isObject 7 = .ok (.isub, 1) := by decide +kernel
theorem dX4_isObject_8 : decode cX4_isObject 8 = .ok (.invokestatic 52, 3) := by decide +kernel
theorem dX4_isObject_11 : decode cX4_isObject 11 = .ok (.ireturn, 1) := by decide +kernel
set_option maxRecDepth 20000 in
theorem ggX4_child_X4_isIn : GoodIn wsX4_child wsX4_isIn := goodIn_r _ [7] (by decide +kernel) (by decide +kernel)
set_option maxRecDepth 20000 in
theorem gX4_child_X4_isIn : GoodIn wsX4_child (va_wsS RX4 52 yX4_isIn wsX4_isIn) := goodIn_app (goodIn_of _ (by decide +kernel)) ggX4_child_X4_isIn
theorem dX4_child_0 : decode cX4_child 0 = .ok (.aload_n 0, 1) := by decide +kernel
theorem dX4_child_1 : decode cX4_child 1 = .ok (.iconst 0, 1) := by decide +kernel
theorem dX4_child_2 : decode cX4_child 2 = .ok (.putfield 45, 3) := by decide +kernel
theorem dX4_child_5 : decode cX4_child 5 = .ok (.iload_n 1, 1) := by decide +kernel
theorem dX4_child_6 : decode cX4_child 6 = .ok (.iconst 0, 1) := by decide +kernel
theorem dX4_child_7 : decode cX4_child 7 = .ok (.iconst 1, 1) := by decide +kernel
theorem dX4_child_8 : decode cX4_child 8 = .ok (.invokestatic 52, 3) := by decide +kernel
theorem dX4_child_11 : decode cX4_child 11 = .ok (.ifCond .eq 39, 3) := by decide +kernel
theorem dX4_child_14 : decode cX4_child 14 = .ok (.iload_n 2, 1) := by decide +kernel
theorem dX4_child_15 : decode cX4_child 15 = .ok (.sipush (-1000), 3) := by decide +kernel
theorem dX4_child_18 : decode cX4_child 18 = .ok (.sipush 1000, 3) := by decide +kernel
theorem dX4_child_21 : decode cX4_child 21 = .ok (.invokestatic 52, 3) := by decide +kernel
theorem dX4_child_24 : decode cX4_child 24 = .ok (.ifCond .eq 26, 3) := by decide +kernel
theorem dX4_child_27 : decode cX4_child 27 = .ok (.iload_n 3, 1) := by decide +kernel
theorem dX4_child_28 : decode cX4_child 28 = .ok (.iconst 0, 1) := by decide +kernel
theorem dX4_child_29 : decode cX4_child 29 = .ok (.sipush 255, 3) := by decide +kernel
theorem dX4_child_32 : decode cX4_child 32 = .ok (.invokestatic 52, 3) := by decide +kernel
theorem dX4_child_35 : decode cX4_child 35 = .ok (.ifCond .eq 15, 3) := by decide +kernel
theorem dX4_child_38 : decode cX4_child 38 = .ok (.iload 4, 2) := by decide +kernel
theorem dX4_child_40 : decode cX4_child 40 = .ok (.iconst (-1), 1) := by decide +kernel
theorem dX4_child_41 : decode cX4_child 41 = .ok (.sipush 999, 3) := by decide +kernel
theorem dX4_child_44 : decode cX4_child 44 = .ok (.invokestatic 52, 3) := by decide +kernel
theorem dX4_child_47 : decode cX4_child 47 = .ok (.ifCond .ne 6, 3) := by decide +kernel
theorem dX4_child_50 : decode cX4_child 50 = .ok (.bipush (-2), 2) := by decide +kernel
theorem dX4_child_52 : decode cX4_child 52 = .ok (.ireturn, 1) := by decide +kernel
theorem dX4_child_53 : decode cX4_child 53 = .ok (.aload_n 0, 1) := by decide +kernel
theorem dX4_child_54 : decode cX4_child 54 = .ok (.getfield 56, 3) := by decide +kernel
theorem dX4_child_57 : decode cX4_child 57 = .ok (.bipush 60, 2) := by decide +kernel
theorem dX4_child_59 : decode cX4_child 59 = .ok (.if_icmp .ne 6, 3) := by decide +kernel
theorem dX4_child_62 : decode cX4_child 62 = .ok (.bipush (-4), 2) := by decide +kernel
theorem dX4_child_64 : decode cX4_child 64 = .ok (.ireturn, 1) := by decide +kernel
theorem dX4_child_65 : decode cX4_child 65 = .ok (.aload_n 0, 1) := by decide +kernel
theorem dX4_child_66 : decode cX4_child 66 = .ok (.getfield 29, 3) := by decide +kernel
theorem dX4_child_69 : decode cX4_child 69 = .ok (.iconst 4, 1) := by decide +kernel
theorem dX4_child_70 : decode cX4_child 70 = .ok (.aload_n 0, 1) := by decide +kernel
theorem dX4_child_71 : decode cX4_child 71 = .ok (.getfield 56, 3) := by decide +kernel
theorem dX4_child_74 : decode cX4_child 74 = .ok (.imul, 1) := by decide +kernel
theorem dX4_child_75 : decode cX4_child 75 = .ok (.iload_n 1, 1) := by decide +kernel
theorem dX4_child_76 : decode cX4_child 76 = .ok (.iastore, 1) := by decide +kernel
theorem dX4_child_77 : decode cX4_child 77 = .ok (.aload_n 0, 1) := by decide +kernel
theorem dX4_child_78 : decode cX4_child 78 = .ok (.getfield 29, 3) := by decide +kernel
theorem dX4_child_81 : decode cX4_child 81 = .ok (.iconst 4, 1) := by decide +kernel
theorem dX4_child_82 : decode cX4_child 82 = .ok (.aload_n 0, 1) := by decide +kernel
theorem dX4_child_83 : decode cX4_child 83 = .ok (.getfield 56, 3) := by decide +kernel
theorem dX4_child_86 : decode cX4_child 86 = .ok (.imul, 1) := by decide +kernel
theorem dX4_child_87 : decode cX4_child 87 = .ok (.iconst 1, 1) := by decide +kernel
theorem dX4_child_88 : decode cX4_child 88 = .ok (.iadd, 1) := by decide +kernel
theorem dX4_child_89 : decode cX4_child 89 = .ok (.iload_n 2, 1) := by decide +kernel
theorem dX4_child_90 : decode cX4_child 90 = .ok (.iastore, 1) := by decide +kernel
theorem dX4_child_91 : decode cX4_child 91 = .ok (.aload_n 0, 1) := by decide +kernel
theorem dX4_child_92 : decode cX4_child 92 = .ok (.getfield 29, 3) := by decide +kernel
theorem dX4_child_95 : decode cX4_child 95 = .ok (.iconst 4, 1) := by decide +kernel
theorem dX4_child_96 : decode cX4_child 96 = .ok (.aload_n 0, 1) := by decide +kernel
theorem dX4_child_97 : decode cX4_child 97 = .ok (.getfield 56, 3) := by decide +kernel
theorem dX4_child_100 : decode cX4_child 100 = .ok (.imul, 1) := by decide +kernel
theorem dX4_child_101 : decode cX4_child 101 = .ok (.iconst 2, 1) := by decide +kernel
theorem dX4_child_102 : decode cX4_child 102 = .ok (.iadd, 1) := by decide +kernel
theorem dX4_child_103 : decode cX4_child 103 = .ok (.iload_n 3, 1) := by decide +kernel
theorem dX4_child_104 : decode cX4_child 104 = .ok (.iastore, 1) := by decide +kernel
theorem dX4_child_105 : decode cX4_child 105 = .ok (.aload_n 0, 1) := by decide +kernel
theorem dX4_child_106 : decode cX4_child 106 = .ok (.getfield 29, 3) := by decide +kernel
theorem dX4_child_109 : decode cX4_child 109 = .ok (.iconst 4, 1) := by decide +kernel
theorem dX4_child_110 : decode cX4_child 110 = .ok (.aload_n 0, 1) := by decide +kernel
theorem dX4_child_111 : decode cX4_child 111 = .ok (.getfield 56, 3) := by decide +kernel
theorem dX4_child_114 : decode cX4_child 114 = .ok (.imul, 1) := by decide +kernel
theorem dX4_child_115 : decode cX4_child 115 = .ok (.iconst 3, 1) := by decide +kernel
theorem dX4_child_116 : decode cX4_child 116 = .ok (.iadd, 1) := by decide +kernel
theorem dX4_child_117 : decode cX4_child 117 = .ok (.iload 4, 2) := by decide +kernel
theorem dX4_child_119 : decode cX4_child 119 = .ok (.iastore, 1) := by decide +kernel
theorem dX4_child_120 : decode cX4_child 120 = .ok (.aload_n 0, 1) := by decide +kernel
theorem dX4_child_121 : decode cX4_child 121 = .ok (.dup, 1) := by decide +kernel
theorem dX4_child_122 : decode cX4_child 122 = .ok (.getfield 56, 3) := by decide +kernel
theorem dX4_child_125 : decode cX4_child 125 = .ok (.iconst 1, 1) := by decide +kernel
theorem dX4_child_126 : decode cX4_child 126 = .ok (.iadd, 1) := by decide +kernel
theorem dX4_child_127 : decode cX4_child 127 = .ok (.putfield 56, 3) := by decide +kernel
theorem dX4_child_130 : decode cX4_child 130 = .ok (.aload_n 0, 1) := by decide +kernel
theorem dX4_child_131 : decode cX4_child 131 = .ok (.getfield 56, 3) := by decide +kernel
theorem dX4_child_134 : decode cX4_child 134 = .ok (.ireturn, 1) := by decide +kernel
theorem dX4_stand_0 : decode cX4_stand 0 = .ok (.aload_n 0, 1) := by decide +kernel
theorem dX4_stand_1 : decode cX4_stand 1 = .ok (.getfield 7, 3) := by decide +kernel
theorem dX4_stand_4 : decode cX4_stand 4 = .ok (.aload_n 0, 1) := by decide +kernel
theorem dX4_stand_5 : decode cX4_stand 5 = .ok (.getfield 49, 3) := by decide +kernel
theorem dX4_stand_8 : decode cX4_stand 8 = .ok (.iload_n 1, 1) := by decide +kernel
theorem dX4_stand_9 : decode cX4_stand 9 = .ok (.iastore, 1) := by decide +kernel
theorem dX4_stand_10 : decode cX4_stand 10 = .ok (.aload_n 0, 1) := by decide +kernel
theorem dX4_stand_11 : decode cX4_stand 11 = .ok (.getfield 13, 3) := by decide +kernel
theorem dX4_stand_14 : decode cX4_stand 14 = .ok (.aload_n 0, 1) := by decide +kernel
theorem dX4_stand_15 : decode cX4_stand 15 = .ok (.getfield 49, 3) := by decide +kernel
theorem dX4_stand_18 : decode cX4_stand 18 = .ok (.iload_n 2, 1) := by decide +kernel
theorem dX4_stand_19 : decode cX4_stand 19 = .ok (.iastore, 1) := by decide +kernel
theorem dX4_stand_20 : decode cX4_stand 20 = .ok (.aload_n 0, 1) := by decide +kernel
theorem dX4_stand_21 : decode cX4_stand 21 = .ok (.getfield 16, 3) := by decide +kernel
theorem dX4_stand_24 : decode cX4_stand 24 = .ok (.aload_n 0, 1) := by decide +kernel
theorem dX4_stand_25 : decode cX4_stand 25 = .ok (.getfield 49, 3) := by decide +kernel
theorem dX4_stand_28 : decode cX4_stand 28 = .ok (.iload_n 3, 1) := by decide +kernel
theorem dX4_stand_29 : decode cX4_stand 29 = .ok (.iastore, 1) := by decide +kernel
theorem dX4_stand_30 : decode cX4_stand 30 = .ok (.aload_n 0, 1) := by decide +kernel
theorem dX4_stand_31 : decode cX4_stand 31 = .ok (.getfield 19, 3) := by decide +kernel
theorem dX4_stand_34 : decode cX4_stand 34 = .ok (.aload_n 0, 1) := by decide +kernel
theorem dX4_stand_35 : decode cX4_stand 35 = .ok (.getfield 49, 3) := by decide +kernel
theorem dX4_stand_38 : decode cX4_stand 38 = .ok (.iload 4, 2) := by decide +kernel
theorem dX4_stand_40 : decode cX4_stand 40 = .ok (.iastore, 1) := by decide +kernel
theorem dX4_stand_41 : decode cX4_stand 41 = .ok (.aload_n 0, 1) := by decide +kernel
theorem dX4_stand_42 : decode cX4_stand 42 = .ok (.getfield 22, 3) := by decide +kernel
theorem dX4_stand_45 : decode cX4_stand 45 = .ok (.aload_n 0, 1) := by decide +kernel
theorem dX4_stand_46 : decode cX4_stand 46 = .ok (.getfield 49, 3) := by decide +kernel
theorem dX4_stand_49 : decode cX4_stand 49 = .ok (.iload 5, 2) := by decide +kernel
theorem dX4_stand_51 : decode cX4_stand 51 = .ok (.iastore, 1) := by decide +kernel
theorem dX4_stand_52 : decode cX4_stand 52 = .ok (.aload_n 0, 1) := by decide +kernel
theorem dX4_stand_53 : decode cX4_stand 53 = .ok (.getfield 25, 3) := by decide +kernel
theorem dX4_stand_56 : decode cX4_stand 56 = .ok (.aload_n 0, 1) := by decide +kernel
theorem dX4_stand_57 : decode cX4_stand 57 = .ok (.getfield 49, 3) := by decide +kernel
theorem dX4_stand_60 : decode cX4_stand 60 = .ok (.iconst 1, 1) := by decide +kernel
theorem dX4_stand_61 : decode cX4_stand 61 = .ok (.bastore, 1) := by decide +kernel
theorem dX4_stand_62 : decode cX4_stand 62 = .ok (.iconst 0, 1) := by decide +kernel
theorem dX4_stand_63 : decode cX4_stand 63 = .ok (.istore 6, 2) := by decide +kernel
theorem dX4_stand_65 : decode cX4_stand 65 = .ok (.iload 6, 2) := by decide +kernel
theorem dX4_stand_67 : decode cX4_stand 67 = .ok (.bipush 9, 2) := by decide +kernel
theorem dX4_stand_69 : decode cX4_stand 69 = .ok (.if_icmp .ge 26, 3) := by decide +kernel
theorem dX4_stand_72 : decode cX4_stand 72 = .ok (.aload_n 0, 1) := by decide +kernel
theorem dX4_stand_73 : decode cX4_stand 73 = .ok (.getfield 32, 3) := by decide +kernel
theorem dX4_stand_76 : decode cX4_stand 76 = .ok (.sipush 200, 3) := by decide +kernel
theorem dX4_stand_79 : decode cX4_stand 79 = .ok (.iload 6, 2) := by decide +kernel
theorem dX4_stand_81 : decode cX4_stand 81 = .ok (.imul, 1) := by decide +kernel
theorem dX4_stand_82 : decode cX4_stand 82 = .ok (.aload_n 0, 1) := by decide +kernel
theorem dX4_stand_83 : decode cX4_stand 83 = .ok (.getfield 49, 3) := by decide +kernel
theorem dX4_stand_86 : decode cX4_stand 86 = .ok (.iadd, 1) := by decide +kernel
theorem dX4_stand_87 : decode cX4_stand 87 = .ok (.iconst 0, 1) := by decide +kernel
theorem dX4_stand_88 : decode cX4_stand 88 = .ok (.bastore, 1) := by decide +kernel
theorem dX4_stand_89 : decode cX4_stand 89 = .ok (.iinc 6 1, 3) := by decide +kernel
theorem dX4_stand_92 : decode cX4_stand 92 = .ok (.goto (-27), 3) := by decide +kernel
theorem dX4_stand_95 : decode cX4_stand 95 = .ok (.aload_n 0, 1) := by decide +kernel
theorem dX4_stand_96 : decode cX4_stand 96 = .ok (.dup, 1) := by decide +kernel
theorem dX4_stand_97 : decode cX4_stand 97 = .ok (.getfield 49, 3) := by decide +kernel
theorem dX4_stand_100 : decode cX4_stand 100 = .ok (.iconst 1, 1) := by decide +kernel
theorem dX4_stand_101 : decode cX4_stand 101 = .ok (.iadd, 1) := by decide +kernel
theorem dX4_stand_102 : decode cX4_stand 102 = .ok (.putfield 49, 3) := by decide +kernel
theorem dX4_stand_105 : decode cX4_stand 105 = .ok (.return_, 1) := by decide +kernel
theorem dX4_rootOf_0 : decode cX4_rootOf 0 = .ok (.iconst 0, 1) := by decide +kernel
theorem dX4_rootOf_1 : decode cX4_rootOf 1 = .ok (.istore_n 2, 1) := by decide +kernel
theorem dX4_rootOf_2 : decode cX4_rootOf 2 = .ok (.iload_n 2, 1) := by decide +kernel
theorem dX4_rootOf_3 : decode cX4_rootOf 3 = .ok (.aload_n 0, 1) := by decide +kernel
theorem dX4_rootOf_4 : decode cX4_rootOf 4 = .ok (.getfield 49, 3) := by decide +kernel
theorem dX4_rootOf_7 : decode cX4_rootOf 7 = .ok (.if_icmp .ge 40, 3) := by decide +kernel
theorem dX4_rootOf_10 : decode cX4_rootOf 10 = .ok (.aload_n 0, 1) := by decide +kernel
theorem dX4_rootOf_11 : decode cX4_rootOf 11 = .ok (.getfield 25, 3) := by decide +kernel
theorem dX4_rootOf_14 : decode cX4_rootOf 14 = .ok (.iload_n 2, 1) := by decide +kernel
theorem dX4_rootOf_15 : decode cX4_rootOf 15 = .ok (.baload, 1) := by decide +kernel
theorem dX4_rootOf_16 : decode cX4_rootOf 16 = .ok (.ifCond .eq 25, 3) := by decide +kernel
theorem dX4_rootOf_19 : decode cX4_rootOf 19 = .ok (.aload_n 0, 1) := by decide +kernel
theorem dX4_rootOf_20 : decode cX4_rootOf 20 = .ok (.getfield 7, 3) := by decide +kernel
theorem dX4_rootOf_23 : decode cX4_rootOf 23 = .ok (.iload_n 2, 1) := by decide +kernel
theorem dX4_rootOf_24 : decode cX4_rootOf 24 = .ok (.iaload, 1) := by decide +kernel
theorem dX4_rootOf_25 : decode cX4_rootOf 25 = .ok (.iconst 2, 1) := by decide +kernel
theorem dX4_rootOf_26 : decode cX4_rootOf 26 = .ok (.if_icmp .ne 15, 3) := by decide +kernel
theorem dX4_rootOf_29 : decode cX4_rootOf 29 = .ok (.aload_n 0, 1) := by decide +kernel
theorem dX4_rootOf_30 : decode cX4_rootOf 30 = .ok (.getfield 22, 3) := by decide +kernel
theorem dX4_rootOf_33 : decode cX4_rootOf 33 = .ok (.iload_n 2, 1) := by decide +kernel
theorem dX4_rootOf_34 : decode cX4_rootOf 34 = .ok (.iaload, 1) := by decide +kernel
theorem dX4_rootOf_35 : decode cX4_rootOf 35 = .ok (.iload_n 1, 1) := by decide +kernel
theorem dX4_rootOf_36 : decode cX4_rootOf 36 = .ok (.if_icmp .ne 5, 3) := by decide +kernel
theorem dX4_rootOf_39 : decode cX4_rootOf 39 = .ok (.iload_n 2, 1) := by decide +kernel
theorem dX4_rootOf_40 : decode cX4_rootOf 40 = .ok (.ireturn, 1) := by decide +kernel
theorem dX4_rootOf_41 : decode cX4_rootOf 41 = .ok (.iinc 2 1, 3) := by decide +kernel
theorem dX4_rootOf_44 : decode cX4_rootOf 44 = .ok (.goto (-42), 3) := by decide +kernel
theorem dX4_rootOf_47 : decode cX4_rootOf 47 = .ok (.iconst (-1), 1) := by decide +kernel
theorem dX4_rootOf_48 : decode cX4_rootOf 48 = .ok (.ireturn, 1) := by decide +kernel
theorem dX4_empty_0 : decode cX4_empty 0 = .ok (.aload_n 0, 1) := by decide +kernel
theorem dX4_empty_1 : decode cX4_empty 1 = .ok (.iconst 0, 1) := by decide +kernel
theorem dX4_empty_2 : decode cX4_empty 2 = .ok (.putfield 59, 3) := by decide +kernel
theorem dX4_empty_5 : decode cX4_empty 5 = .ok (.aload_n 0, 1) := by decide +kernel
theorem dX4_empty_6 : decode cX4_empty 6 = .ok (.iconst 0, 1) := by decide +kernel
theorem dX4_empty_7 : decode cX4_empty 7 = .ok (.putfield 62, 3) := by decide +kernel
theorem dX4_empty_10 : decode cX4_empty 10 = .ok (.return_, 1) := by decide +kernel
set_option maxRecDepth 20000 in
theorem ggX4_die_X4_empty : GoodIn wsX4_die wsX4_empty := goodIn_r _ [7, 8, 9, 10, 11, 12, 13, 14, 15, 16, 17, 18, 19, 20, 21, 22, 23, 24, 25] (by decide +kernel) (by decide +kernel)
set_option maxRecDepth 20000 in
theorem gX4_die_X4_empty : GoodIn wsX4_die (wsV RX4 66 RX4 yX4_empty wsX4_empty) := goodIn_app (goodIn_of _ (by decide +kernel)) ggX4_die_X4_empty
theorem dX4_die_0 : decode cX4_die 0 = .ok (.iconst 0, 1) := by decide +kernel
theorem dX4_die_1 : decode cX4_die 1 = .ok (.istore_n 2, 1) := by decide +kernel
theorem dX4_die_2 : decode cX4_die 2 = .ok (.iload_n 1, 1) := by decide +kernel
theorem dX4_die_3 : decode cX4_die 3 = .ok (.istore_n 3, 1) := by decide +kernel
theorem dX4_die_4 : decode cX4_die 4 = .ok (.iload_n 3, 1) := by decide +kernel
theorem dX4_die_5 : decode cX4_die 5 = .ok (.ifCond .lt 34, 3) := by decide +kernel
theorem dX4_die_8 : decode cX4_die 8 = .ok (.iload_n 3, 1) := by decide +kernel
theorem dX4_die_9 : decode cX4_die 9 = .ok (.iload_n 1, 1) := by decide +kernel
theorem dX4_die_10 : decode cX4_die 10 = .ok (.if_icmp .eq 13, 3) := by decide +kernel
theorem dX4_die_13 : decode cX4_die 13 = .ok (.aload_n 0, 1) := by decide +kernel
theorem dX4_die_14 : decode cX4_die 14 = .ok (.getfield 7, 3) := by decide +kernel
theorem dX4_die_17 : decode cX4_die 17 = .ok (.iload_n 3, 1) := by decide +kernel
theorem dX4_die_18 : decode cX4_die 18 = .ok (.iaload, 1) := by decide +kernel
theorem dX4_die_19 : decode cX4_die 19 = .ok (.iconst 2, 1) := by decide +kernel
theorem dX4_die_20 : decode cX4_die 20 = .ok (.if_icmp .ge 19, 3) := by decide +kernel
theorem dX4_die_23 : decode cX4_die 23 = .ok (.aload_n 0, 1) := by decide +kernel
theorem dX4_die_24 : decode cX4_die 24 = .ok (.getfield 25, 3) := by decide +kernel
theorem dX4_die_27 : decode cX4_die 27 = .ok (.iload_n 3, 1) := by decide +kernel
theorem dX4_die_28 : decode cX4_die 28 = .ok (.iconst 0, 1) := by decide +kernel
theorem dX4_die_29 : decode cX4_die 29 = .ok (.bastore, 1) := by decide +kernel
theorem dX4_die_30 : decode cX4_die 30 = .ok (.iinc 2 1, 3) := by decide +kernel
theorem dX4_die_33 : decode cX4_die 33 = .ok (.iinc 3 (-1), 3) := by decide +kernel
theorem dX4_die_36 : decode cX4_die 36 = .ok (.goto (-32), 3) := by decide +kernel
theorem dX4_die_39 : decode cX4_die 39 = .ok (.aload_n 0, 1) := by decide +kernel
theorem dX4_die_40 : decode cX4_die 40 = .ok (.invokevirtual 66, 3) := by decide +kernel
theorem dX4_die_43 : decode cX4_die 43 = .ok (.iload_n 2, 1) := by decide +kernel
theorem dX4_die_44 : decode cX4_die 44 = .ok (.ireturn, 1) := by decide +kernel
set_option maxRecDepth 20000 in
theorem ggX4_close_X4_isIn : GoodIn wsX4_close wsX4_isIn := goodIn_r _ [8] (by decide +kernel) (by decide +kernel)
set_option maxRecDepth 20000 in
theorem gX4_close_X4_isIn : GoodIn wsX4_close (va_wsS RX4 52 yX4_isIn wsX4_isIn) := goodIn_app (goodIn_of _ (by decide +kernel)) ggX4_close_X4_isIn
set_option maxRecDepth 20000 in
theorem ggX4_close_X4_rootOf : GoodIn wsX4_close wsX4_rootOf := goodIn_r _ [12, 2, 13, 14, 15, 34, 35, 36, 37, 38, 39, 40, 41, 42, 43, 44, 45, 46, 47, 48, 49] (by decide +kernel) (by decide +kernel)
set_option maxRecDepth 20000 in
theorem gX4_close_X4_rootOf : GoodIn wsX4_close (wsV RX4 69 RX4 yX4_rootOf wsX4_rootOf) := goodIn_app (goodIn_of _ (by decide +kernel)) ggX4_close_X4_rootOf
set_option maxRecDepth 20000 in
theorem ggX4_close_X4_die : GoodIn wsX4_close wsX4_die := goodIn_r _ [19, 14, 13, 20, 21, 22, 7, 23, 24, 25, 34, 35, 36, 37, 38, 39, 40, 41, 42, 43, 44, 45, 46, 47, 48, 49] (by decide +kernel) (by decide +kernel)
set_option maxRecDepth 20000 in
theorem gX4_close_X4_die : GoodIn wsX4_close (wsV RX4 73 RX4 yX4_die wsX4_die) := goodIn_app (goodIn_of _ (by decide +kernel)) ggX4_close_X4_die
set_option maxRecDepth 20000 in
theorem ggX4_close_X4_stand : GoodIn wsX4_close wsX4_stand := goodIn_r _ [29, 14, 2, 30, 31, 32, 15, 13, 33, 34, 35, 36, 37, 38, 39, 40, 41, 42, 43, 44, 45, 46, 47, 48, 49] (by decide +kernel) (by decide +kernel)
set_option maxRecDepth 20000 in
theorem gX4_close_X4_stand : GoodIn wsX4_close (wsV RX4 76 RX4 yX4_stand wsX4_stand) := goodIn_app (goodIn_of _ (by decide +kernel)) ggX4_close_X4_stand
theorem dX4_close_0 : decode cX4_close 0 = .ok (.aload_n 0, 1) := by decide +kernel
theorem dX4_close_1 : decode cX4_close 1 = .ok (.iconst 0, 1) := by decide +kernel
theorem dX4_close_2 : decode cX4_close 2 = .ok (.putfield 45, 3) := by decide +kernel
theorem dX4_close_5 : decode cX4_close 5 = .ok (.iload_n 1, 1) := by decide +kernel
theorem dX4_close_6 : decode cX4_close 6 = .ok (.iconst 0, 1) := by decide +kernel
theorem dX4_close_7 : decode cX4_close 7 = .ok (.sipush 999, 3) := by decide +kernel
theorem dX4_close_10 : decode cX4_close 10 = .ok (.invokestatic 52, 3) := by decide +kernel
theorem dX4_close_13 : decode cX4_close 13 = .ok (.ifCond .eq 39, 3) := by decide +kernel
theorem dX4_close_16 : decode cX4_close 16 = .ok (.iload_n 2, 1) := by decide +kernel
theorem dX4_close_17 : decode cX4_close 17 = .ok (.sipush (-1000), 3) := by decide +kernel
theorem dX4_close_20 : decode cX4_close 20 = .ok (.sipush 1000, 3) := by decide +kernel
theorem dX4_close_23 : decode cX4_close 23 = .ok (.invokestatic 52, 3) := by decide +kernel
theorem dX4_close_26 : decode cX4_close 26 = .ok (.ifCond .eq 26, 3) := by decide +kernel
theorem dX4_close_29 : decode cX4_close 29 = .ok (.iload_n 3, 1) := by decide +kernel
theorem dX4_close_30 : decode cX4_close 30 = .ok (.iconst 0, 1) := by decide +kernel
theorem dX4_close_31 : decode cX4_close 31 = .ok (.sipush 255, 3) := by decide +kernel
theorem dX4_close_34 : decode cX4_close 34 = .ok (.invokestatic 52, 3) := by decide +kernel
theorem dX4_close_37 : decode cX4_close 37 = .ok (.ifCond .eq 15, 3) := by decide +kernel
theorem dX4_close_40 : decode cX4_close 40 = .ok (.iload 4, 2) := by decide +kernel
theorem dX4_close_42 : decode cX4_close 42 = .ok (.iconst (-1), 1) := by decide +kernel
theorem dX4_close_43 : decode cX4_close 43 = .ok (.sipush 999, 3) := by decide +kernel
theorem dX4_close_46 : decode cX4_close 46 = .ok (.invokestatic 52, 3) := by decide +kernel
theorem dX4_close_49 : decode cX4_close 49 = .ok (.ifCond .ne 6, 3) := by decide +kernel
theorem dX4_close_52 : decode cX4_close 52 = .ok (.bipush (-2), 2) := by decide +kernel
theorem dX4_close_54 : decode cX4_close 54 = .ok (.ireturn, 1) := by decide +kernel
theorem dX4_close_55 : decode cX4_close 55 = .ok (.aload_n 0, 1) := by decide +kernel
theorem dX4_close_56 : decode cX4_close 56 = .ok (.getfield 49, 3) := by decide +kernel
theorem dX4_close_59 : decode cX4_close 59 = .ok (.aload_n 0, 1) := by decide +kernel
theorem dX4_close_60 : decode cX4_close 60 = .ok (.getfield 56, 3) := by decide +kernel
theorem dX4_close_63 : decode cX4_close 63 = .ok (.iadd, 1) := by decide +kernel
theorem dX4_close_64 : decode cX4_close 64 = .ok (.iconst 1, 1) := by decide +kernel
theorem dX4_close_65 : decode cX4_close 65 = .ok (.iadd, 1) := by decide +kernel
theorem dX4_close_66 : decode cX4_close 66 = .ok (.sipush 200, 3) := by decide +kernel
theorem dX4_close_69 : decode cX4_close 69 = .ok (.if_icmp .le 6, 3) := by decide +kernel
theorem dX4_close_72 : decode cX4_close 72 = .ok (.bipush (-4), 2) := by decide +kernel
theorem dX4_close_74 : decode cX4_close 74 = .ok (.ireturn, 1) := by decide +kernel
theorem dX4_close_75 : decode cX4_close 75 = .ok (.aload_n 0, 1) := by decide +kernel
theorem dX4_close_76 : decode cX4_close 76 = .ok (.iload_n 1, 1) := by decide +kernel
theorem dX4_close_77 : decode cX4_close 77 = .ok (.invokevirtual 69, 3) := by decide +kernel
theorem dX4_close_80 : decode cX4_close 80 = .ok (.istore 5, 2) := by decide +kernel
theorem dX4_close_82 : decode cX4_close 82 = .ok (.iload 5, 2) := by decide +kernel
theorem dX4_close_84 : decode cX4_close 84 = .ok (.ifCond .lt 10, 3) := by decide +kernel
theorem dX4_close_87 : decode cX4_close 87 = .ok (.aload_n 0, 1) := by decide +kernel
theorem dX4_close_88 : decode cX4_close 88 = .ok (.iload 5, 2) := by decide +kernel
theorem dX4_close_90 : decode cX4_close 90 = .ok (.invokevirtual 73, 3) := by decide +kernel
theorem dX4_close_93 : decode cX4_close 93 = .ok (.pop, 1) := by decide +kernel
theorem dX4_close_94 : decode cX4_close 94 = .ok (.iconst 0, 1) := by decide +kernel
theorem dX4_close_95 : decode cX4_close 95 = .ok (.istore 6, 2) := by decide +kernel
theorem dX4_close_97 : decode cX4_close 97 = .ok (.iload 6, 2) := by decide +kernel
theorem dX4_close_99 : decode cX4_close 99 = .ok (.aload_n 0, 1) := by decide +kernel
theorem dX4_close_100 : decode cX4_close 100 = .ok (.getfield 56, 3) := by decide +kernel
theorem dX4_close_103 : decode cX4_close 103 = .ok (.if_icmp .ge 57, 3) := by decide +kernel
theorem dX4_close_106 : decode cX4_close 106 = .ok (.aload_n 0, 1) := by decide +kernel
theorem dX4_close_107 : decode cX4_close 107 = .ok (.aload_n 0, 1) := by decide +kernel
theorem dX4_close_108 : decode cX4_close 108 = .ok (.getfield 29, 3) := by decide +kernel
theorem dX4_close_111 : decode cX4_close 111 = .ok (.iconst 4, 1) := by decide +kernel
theorem dX4_close_112 : decode cX4_close 112 = .ok (.iload 6, 2) := by decide +kernel
theorem dX4_close_114 : decode cX4_close 114 = .ok (.imul, 1) := by decide +kernel
theorem dX4_close_115 : decode cX4_close 115 = .ok (.iaload, 1) := by decide +kernel
theorem dX4_close_116 : decode cX4_close 116 = .ok (.aload_n 0, 1) := by decide +kernel
theorem dX4_close_117 : decode cX4_close 117 = .ok (.getfield 29, 3) := by decide +kernel
theorem dX4_close_120 : decode cX4_close 120 = .ok (.iconst 4, 1) := by decide +kernel
theorem dX4_close_121 : decode cX4_close 121 = .ok (.iload 6, 2) := by decide +kernel
theorem dX4_close_123 : decode cX4_close 123 = .ok (.imul, 1) := by decide +kernel
theorem dX4_close_124 : decode cX4_close 124 = .ok (.iconst 1, 1) := by decide +kernel
theorem dX4_close_125 : decode cX4_close 125 = .ok (.iadd, 1) := by decide +kernel
theorem dX4_close_126 : decode cX4_close 126 = .ok (.iaload, 1) := by decide +kernel
theorem dX4_close_127 : decode cX4_close 127 = .ok (.aload_n 0, 1) := by decide +kernel
theorem dX4_close_128 : decode cX4_close 128 = .ok (.getfield 29, 3) := by decide +kernel
theorem dX4_close_131 : decode cX4_close 131 = .ok (.iconst 4, 1) := by decide +kernel
theorem dX4_close_132 : decode cX4_close 132 = .ok (.iload 6, 2) := by decide +kernel
theorem dX4_close_134 : decode cX4_close 134 = .ok (.imul, 1) := by decide +kernel
theorem dX4_close_135 : decode cX4_close 135 = .ok (.iconst 2, 1) := by decide +kernel
theorem dX4_close_136 : decode cX4_close 136 = .ok (.iadd, 1) := by decide +kernel
theorem dX4_close_137 : decode cX4_close 137 = .ok (.iaload, 1) := by decide +kernel
theorem dX4_close_138 : decode cX4_close 138 = .ok (.aload_n 0, 1) := by decide +kernel
theorem dX4_close_139 : decode cX4_close 139 = .ok (.getfield 29, 3) := by decide +kernel
theorem dX4_close_142 : decode cX4_close 142 = .ok (.iconst 4, 1) := by decide +kernel
theorem dX4_close_143 : decode cX4_close 143 = .ok (.iload 6, 2) := by decide +kernel
theorem dX4_close_145 : decode cX4_close 145 = .ok (.imul, 1) := by decide +kernel
theorem dX4_close_146 : decode cX4_close 146 = .ok (.iconst 3, 1) := by decide +kernel
theorem dX4_close_147 : decode cX4_close 147 = .ok (.iadd, 1) := by decide +kernel
theorem dX4_close_148 : decode cX4_close 148 = .ok (.iaload, 1) := by decide +kernel
theorem dX4_close_149 : decode cX4_close 149 = .ok (.bipush (-3), 2) := by decide +kernel
theorem dX4_close_151 : decode cX4_close 151 = .ok (.invokevirtual 76, 3) := by decide +kernel
theorem dX4_close_154 : decode cX4_close 154 = .ok (.iinc 6 1, 3) := by decide +kernel
theorem dX4_close_157 : decode cX4_close 157 = .ok (.goto (-60), 3) := by decide +kernel
theorem dX4_close_160 : decode cX4_close 160 = .ok (.aload_n 0, 1) := by decide +kernel
theorem dX4_close_161 : decode cX4_close 161 = .ok (.iconst 0, 1) := by decide +kernel
theorem dX4_close_162 : decode cX4_close 162 = .ok (.putfield 56, 3) := by decide +kernel
theorem dX4_close_165 : decode cX4_close 165 = .ok (.aload_n 0, 1) := by decide +kernel
theorem dX4_close_166 : decode cX4_close 166 = .ok (.iconst 2, 1) := by decide +kernel
theorem dX4_close_167 : decode cX4_close 167 = .ok (.iload_n 2, 1) := by decide +kernel
theorem dX4_close_168 : decode cX4_close 168 = .ok (.iload_n 3, 1) := by decide +kernel
theorem dX4_close_169 : decode cX4_close 169 = .ok (.iload 4, 2) := by decide +kernel
theorem dX4_close_171 : decode cX4_close 171 = .ok (.iload_n 1, 1) := by decide +kernel
theorem dX4_close_172 : decode cX4_close 172 = .ok (.invokevirtual 76, 3) := by decide +kernel
theorem dX4_close_175 : decode cX4_close 175 = .ok (.aload_n 0, 1) := by decide +kernel
theorem dX4_close_176 : decode cX4_close 176 = .ok (.getfield 49, 3) := by decide +kernel
theorem dX4_close_179 : decode cX4_close 179 = .ok (.iconst 1, 1) := by decide +kernel
theorem dX4_close_180 : decode cX4_close 180 = .ok (.isub, 1) := by decide +kernel
theorem dX4_close_181 : decode cX4_close 181 = .ok (.ireturn, 1) := by decide +kernel
theorem dX4_drop_0 : decode cX4_drop 0 = .ok (.aload_n 0, 1) := by decide +kernel
theorem dX4_drop_1 : decode cX4_drop 1 = .ok (.iconst 0, 1) := by decide +kernel
theorem dX4_drop_2 : decode cX4_drop 2 = .ok (.putfield 45, 3) := by decide +kernel
theorem dX4_drop_5 : decode cX4_drop 5 = .ok (.aload_n 0, 1) := by decide +kernel
theorem dX4_drop_6 : decode cX4_drop 6 = .ok (.getfield 56, 3) := by decide +kernel
theorem dX4_drop_9 : decode cX4_drop 9 = .ok (.istore_n 1, 1) := by decide +kernel
theorem dX4_drop_10 : decode cX4_drop 10 = .ok (.aload_n 0, 1) := by decide +kernel
theorem dX4_drop_11 : decode cX4_drop 11 = .ok (.iconst 0, 1) := by decide +kernel
theorem dX4_drop_12 : decode cX4_drop 12 = .ok (.putfield 56, 3) := by decide +kernel
theorem dX4_drop_15 : decode cX4_drop 15 = .ok (.iload_n 1, 1) := by decide +kernel
theorem dX4_drop_16 : decode cX4_drop 16 = .ok (.ireturn, 1) := by decide +kernel
set_option maxRecDepth 20000 in
theorem ggX4_kill_X4_rootOf : GoodIn wsX4_kill wsX4_rootOf := goodIn_r _ [6, 7, 8, 9, 10, 21, 22, 23, 24, 25, 26, 27, 28, 29, 30, 31, 32, 33, 34, 35, 36] (by decide +kernel) (by decide +kernel)
set_option maxRecDepth 20000 in
theorem gX4_kill_X4_rootOf : GoodIn wsX4_kill (wsV RX4 69 RX4 yX4_rootOf wsX4_rootOf) := goodIn_app (goodIn_of _ (by decide +kernel)) ggX4_kill_X4_rootOf
set_option maxRecDepth 20000 in
theorem ggX4_kill_X4_die : GoodIn wsX4_kill wsX4_die := goodIn_r _ [14, 9, 8, 15, 16, 17, 5, 18, 19, 20, 21, 22, 23, 24, 25, 26, 27, 28, 29, 30, 31, 32, 33, 34, 35, 36] (by decide +kernel) (by decide +kernel)
set_option maxRecDepth 20000 in
theorem gX4_kill_X4_die : GoodIn wsX4_kill (wsV RX4 73 RX4 yX4_die wsX4_die) := goodIn_app (goodIn_of _ (by decide +kernel)) ggX4_kill_X4_die
theorem dX4_kill_0 : decode cX4_kill 0 = .ok (.aload_n 0, 1) := by decide +kernel
theorem dX4_kill_1 : decode cX4_kill 1 = .ok (.iconst 0, 1) := by decide +kernel
theorem dX4_kill_2 : decode cX4_kill 2 = .ok (.putfield 45, 3) := by decide +kernel
theorem dX4_kill_5 : decode cX4_kill 5 = .ok (.aload_n 0, 1) := by decide +kernel
theorem dX4_kill_6 : decode cX4_kill 6 = .ok (.iload_n 1, 1) := by decide +kernel
theorem dX4_kill_7 : decode cX4_kill 7 = .ok (.invokevirtual 69, 3) := by decide +kernel
theorem dX4_kill_10 : decode cX4_kill 10 = .ok (.istore_n 2, 1) := by decide +kernel
theorem dX4_kill_11 : decode cX4_kill 11 = .ok (.iload_n 2, 1) := by decide +kernel
theorem dX4_kill_12 : decode cX4_kill 12 = .ok (.ifCond .ge 7, 3) := by decide +kernel
theorem dX4_kill_15 : decode cX4_kill 15 = .ok (.iconst (-1), 1) := by decide +kernel
theorem dX4_kill_16 : decode cX4_kill 16 = .ok (.goto 8, 3) := by decide +kernel
theorem dX4_kill_19 : decode cX4_kill 19 = .ok (.aload_n 0, 1) := by decide +kernel
theorem dX4_kill_20 : decode cX4_kill 20 = .ok (.iload_n 2, 1) := by decide +kernel
theorem dX4_kill_21 : decode cX4_kill 21 = .ok (.invokevirtual 73, 3) := by decide +kernel
theorem dX4_kill_24 : decode cX4_kill 24 = .ok (.ireturn, 1) := by decide +kernel
set_option maxRecDepth 20000 in
theorem ggX4_merge_X4_empty : GoodIn wsX4_merge wsX4_empty := goodIn_r _ [13, 14, 15, 16, 17, 18, 19, 20, 21, 22, 23, 24, 25, 26, 27, 28, 29, 30, 31] (by decide +kernel) (by decide +kernel)
set_option maxRecDepth 20000 in
theorem gX4_merge_X4_empty : GoodIn wsX4_merge (wsV RX4 66 RX4 yX4_empty wsX4_empty) := goodIn_app (goodIn_of _ (by decide +kernel)) ggX4_merge_X4_empty
theorem dX4_merge_0 : decode cX4_merge 0 = .ok (.aload_n 0, 1) := by decide +kernel
theorem dX4_merge_1 : decode cX4_merge 1 = .ok (.iconst 0, 1) := by decide +kernel
theorem dX4_merge_2 : decode cX4_merge 2 = .ok (.putfield 45, 3) := by decide +kernel
theorem dX4_merge_5 : decode cX4_merge 5 = .ok (.iconst 0, 1) := by decide +kernel
theorem dX4_merge_6 : decode cX4_merge 6 = .ok (.istore_n 1, 1) := by decide +kernel
theorem dX4_merge_7 : decode cX4_merge 7 = .ok (.iconst 0, 1) := by decide +kernel
theorem dX4_merge_8 : decode cX4_merge 8 = .ok (.istore_n 2, 1) := by decide +kernel
theorem dX4_merge_9 : decode cX4_merge 9 = .ok (.iload_n 2, 1) := by decide +kernel
theorem dX4_merge_10 : decode cX4_merge 10 = .ok (.aload_n 0, 1) := by decide +kernel
theorem dX4_merge_11 : decode cX4_merge 11 = .ok (.getfield 49, 3) := by decide +kernel
theorem dX4_merge_14 : decode cX4_merge 14 = .ok (.if_icmp .ge 88, 3) := by decide +kernel
theorem dX4_merge_17 : decode cX4_merge 17 = .ok (.aload_n 0, 1) := by decide +kernel
theorem dX4_merge_18 : decode cX4_merge 18 = .ok (.getfield 25, 3) := by decide +kernel
theorem dX4_merge_21 : decode cX4_merge 21 = .ok (.iload_n 2, 1) := by decide +kernel
theorem dX4_merge_22 : decode cX4_merge 22 = .ok (.baload, 1) := by decide +kernel
theorem dX4_merge_23 : decode cX4_merge 23 = .ok (.ifCond .eq 73, 3) := by decide +kernel
theorem dX4_merge_26 : decode cX4_merge 26 = .ok (.aload_n 0, 1) := by decide +kernel
theorem dX4_merge_27 : decode cX4_merge 27 = .ok (.getfield 7, 3) := by decide +kernel
theorem dX4_merge_30 : decode cX4_merge 30 = .ok (.iload_n 1, 1) := by decide +kernel
theorem dX4_merge_31 : decode cX4_merge 31 = .ok (.aload_n 0, 1) := by decide +kernel
theorem dX4_merge_32 : decode cX4_merge 32 = .ok (.getfield 7, 3) := by decide +kernel
theorem dX4_merge_35 : decode cX4_merge 35 = .ok (.iload_n 2, 1) := by decide +kernel
theorem dX4_merge_36 : decode cX4_merge 36 = .ok (.iaload, 1) := by decide +kernel
theorem dX4_merge_37 : decode cX4_merge 37 = .ok (.iastore, 1) := by decide +kernel
theorem dX4_merge_38 : decode cX4_merge 38 = .ok (.aload_n 0, 1) := by decide +kernel
theorem dX4_merge_39 : decode cX4_merge 39 = .ok (.getfield 13, 3) := by decide +kernel
theorem dX4_merge_42 : decode cX4_merge 42 = .ok (.iload_n 1, 1) := by decide +kernel
theorem dX4_merge_43 : decode cX4_merge 43 = .ok (.aload_n 0, 1) := by decide +kernel
theorem dX4_merge_44 : decode cX4_merge 44 = .ok (.getfield 13, 3) := by decide +kernel
theorem dX4_merge_47 : decode cX4_merge 47 = .ok (.iload_n 2, 1) := by decide +kernel
theorem dX4_merge_48 : decode cX4_merge 48 = .ok (.iaload, 1) := by decide +kernel
theorem dX4_merge_49 : decode cX4_merge 49 = .ok (.iastore, 1) := by decide +kernel
theorem dX4_merge_50 : decode cX4_merge 50 = .ok (.aload_n 0, 1) := by decide +kernel
theorem dX4_merge_51 : decode cX4_merge 51 = .ok (.getfield 16, 3) := by decide +kernel
theorem dX4_merge_54 : decode cX4_merge 54 = .ok (.iload_n 1, 1) := by decide +kernel
theorem dX4_merge_55 : decode cX4_merge 55 = .ok (.aload_n 0, 1) := by decide +kernel
theorem dX4_merge_56 : decode cX4_merge 56 = .ok (.getfield 16, 3) := by decide +kernel
theorem dX4_merge_59 : decode cX4_merge 59 = .ok (.iload_n 2, 1) := by decide +kernel
theorem dX4_merge_60 : decode cX4_merge 60 = .ok (.iaload, 1) := by decide +kernel
theorem dX4_merge_61 : decode cX4_merge 61 = .ok (.iastore, 1) := by decide +kernel
theorem dX4_merge_62 : decode cX4_merge 62 = .ok (.aload_n 0, 1) := by decide +kernel
theorem dX4_merge_63 : decode cX4_merge 63 = .ok (.getfield 19, 3) := by decide +kernel
theorem dX4_merge_66 : decode cX4_merge 66 = .ok (.iload_n 1, 1) := by decide +kernel
theorem dX4_merge_67 : decode cX4_merge 67 = .ok (.aload_n 0, 1) := by decide +kernel
theorem dX4_merge_68 : decode cX4_merge 68 = .ok (.getfield 19, 3) := by decide +kernel
theorem dX4_merge_71 : decode cX4_merge 71 = .ok (.iload_n 2, 1) := by decide +kernel
theorem dX4_merge_72 : decode cX4_merge 72 = .ok (.iaload, 1) := by decide +kernel
theorem dX4_merge_73 : decode cX4_merge 73 = .ok (.iastore, 1) := by decide +kernel
theorem dX4_merge_74 : decode cX4_merge 74 = .ok (.aload_n 0, 1) := by decide +kernel
theorem dX4_merge_75 : decode cX4_merge 75 = .ok (.getfield 22, 3) := by decide +kernel
theorem dX4_merge_78 : decode cX4_merge 78 = .ok (.iload_n 1, 1) := by decide +kernel
theorem dX4_merge_79 : decode cX4_merge 79 = .ok (.aload_n 0, 1) := by decide +kernel
theorem dX4_merge_80 : decode cX4_merge 80 = .ok (.getfield 22, 3) := by decide +kernel
theorem dX4_merge_83 : decode cX4_merge 83 = .ok (.iload_n 2, 1) := by decide +kernel
theorem dX4_merge_84 : decode cX4_merge 84 = .ok (.iaload, 1) := by decide +kernel
theorem dX4_merge_85 : decode cX4_merge 85 = .ok (.iastore, 1) := by decide +kernel
theorem dX4_merge_86 : decode cX4_merge 86 = .ok (.aload_n 0, 1) := by decide +kernel
theorem dX4_merge_87 : decode cX4_merge 87 = .ok (.getfield 25, 3) := by decide +kernel
theorem dX4_merge_90 : decode cX4_merge 90 = .ok (.iload_n 1, 1) := by decide +kernel
theorem dX4_merge_91 : decode cX4_merge 91 = .ok (.iconst 1, 1) := by decide +kernel
theorem dX4_merge_92 : decode cX4_merge 92 = .ok (.bastore, 1) := by decide +kernel
theorem dX4_merge_93 : decode cX4_merge 93 = .ok (.iinc 1 1, 3) := by decide +kernel
theorem dX4_merge_96 : decode cX4_merge 96 = .ok (.iinc 2 1, 3) := by decide +kernel
theorem dX4_merge_99 : decode cX4_merge 99 = .ok (.goto (-90), 3) := by decide +kernel
theorem dX4_merge_102 : decode cX4_merge 102 = .ok (.aload_n 0, 1) := by decide +kernel
theorem dX4_merge_103 : decode cX4_merge 103 = .ok (.iload_n 1, 1) := by decide +kernel
theorem dX4_merge_104 : decode cX4_merge 104 = .ok (.putfield 49, 3) := by decide +kernel
theorem dX4_merge_107 : decode cX4_merge 107 = .ok (.aload_n 0, 1) := by decide +kernel
theorem dX4_merge_108 : decode cX4_merge 108 = .ok (.invokevirtual 66, 3) := by decide +kernel
theorem dX4_merge_111 : decode cX4_merge 111 = .ok (.iload_n 1, 1) := by decide +kernel
theorem dX4_merge_112 : decode cX4_merge 112 = .ok (.ireturn, 1) := by decide +kernel
theorem dX4_parent_0 : decode cX4_parent 0 = .ok (.aload_n 0, 1) := by decide +kernel
theorem dX4_parent_1 : decode cX4_parent 1 = .ok (.getfield 7, 3) := by decide +kernel
theorem dX4_parent_4 : decode cX4_parent 4 = .ok (.iload_n 1, 1) := by decide +kernel
theorem dX4_parent_5 : decode cX4_parent 5 = .ok (.iaload, 1) := by decide +kernel
theorem dX4_parent_6 : decode cX4_parent 6 = .ok (.iconst 2, 1) := by decide +kernel
theorem dX4_parent_7 : decode cX4_parent 7 = .ok (.if_icmp .ne 6, 3) := by decide +kernel
theorem dX4_parent_10 : decode cX4_parent 10 = .ok (.bipush (-3), 2) := by decide +kernel
theorem dX4_parent_12 : decode cX4_parent 12 = .ok (.ireturn, 1) := by decide +kernel
theorem dX4_parent_13 : decode cX4_parent 13 = .ok (.iload_n 1, 1) := by decide +kernel
theorem dX4_parent_14 : decode cX4_parent 14 = .ok (.iconst 1, 1) := by decide +kernel
theorem dX4_parent_15 : decode cX4_parent 15 = .ok (.iadd, 1) := by decide +kernel
theorem dX4_parent_16 : decode cX4_parent 16 = .ok (.istore_n 2, 1) := by decide +kernel
theorem dX4_parent_17 : decode cX4_parent 17 = .ok (.aload_n 0, 1) := by decide +kernel
theorem dX4_parent_18 : decode cX4_parent 18 = .ok (.getfield 7, 3) := by decide +kernel
theorem dX4_parent_21 : decode cX4_parent 21 = .ok (.iload_n 2, 1) := by decide +kernel
theorem dX4_parent_22 : decode cX4_parent 22 = .ok (.iaload, 1) := by decide +kernel
theorem dX4_parent_23 : decode cX4_parent 23 = .ok (.aload_n 0, 1) := by decide +kernel
theorem dX4_parent_24 : decode cX4_parent 24 = .ok (.getfield 7, 3) := by decide +kernel
theorem dX4_parent_27 : decode cX4_parent 27 = .ok (.iload_n 1, 1) := by decide +kernel
theorem dX4_parent_28 : decode cX4_parent 28 = .ok (.iaload, 1) := by decide +kernel
theorem dX4_parent_29 : decode cX4_parent 29 = .ok (.if_icmp .gt 9, 3) := by decide +kernel
theorem dX4_parent_32 : decode cX4_parent 32 = .ok (.iinc 2 1, 3) := by decide +kernel
theorem dX4_parent_35 : decode cX4_parent 35 = .ok (.goto (-18), 3) := by decide +kernel
theorem dX4_parent_38 : decode cX4_parent 38 = .ok (.iload_n 2, 1) := by decide +kernel
theorem dX4_parent_39 : decode cX4_parent 39 = .ok (.ireturn, 1) := by decide +kernel
set_option maxRecDepth 20000 in
theorem ggX4_isAbove_X4_parent : GoodIn wsX4_isAbove wsX4_parent := goodIn_r _ [5, 6, 7, 8, 9, 10, 11, 12, 13, 14, 15, 16, 17, 18, 19, 20, 21, 22] (by decide +kernel) (by decide +kernel)
set_option maxRecDepth 20000 in
theorem gX4_isAbove_X4_parent : GoodIn wsX4_isAbove (wsV RX4 80 RX4 yX4_parent wsX4_parent) := goodIn_app (goodIn_of _ (by decide +kernel)) ggX4_isAbove_X4_parent
theorem dX4_isAbove_0 : decode cX4_isAbove 0 = .ok (.aload_n 0, 1) := by decide +kernel
theorem dX4_isAbove_1 : decode cX4_isAbove 1 = .ok (.iload_n 2, 1) := by decide +kernel
theorem dX4_isAbove_2 : decode cX4_isAbove 2 = .ok (.invokevirtual 80, 3) := by decide +kernel
theorem dX4_isAbove_5 : decode cX4_isAbove 5 = .ok (.istore_n 3, 1) := by decide +kernel
theorem dX4_isAbove_6 : decode cX4_isAbove 6 = .ok (.iload_n 3, 1) := by decide +kernel
theorem dX4_isAbove_7 : decode cX4_isAbove 7 = .ok (.ifCond .lt 17, 3) := by decide +kernel
theorem dX4_isAbove_10 : decode cX4_isAbove 10 = .ok (.iload_n 3, 1) := by decide +kernel
theorem dX4_isAbove_11 : decode cX4_isAbove 11 = .ok (.iload_n 1, 1) := by decide +kernel
theorem dX4_isAbove_12 : decode cX4_isAbove 12 = .ok (.if_icmp .eq 12, 3) := by decide +kernel
theorem dX4_isAbove_15 : decode cX4_isAbove 15 = .ok (.aload_n 0, 1) := by decide +kernel
theorem dX4_isAbove_16 : decode cX4_isAbove 16 = .ok (.iload_n 3, 1) := by decide +kernel
theorem dX4_isAbove_17 : decode cX4_isAbove 17 = .ok (.invokevirtual 80, 3) := by decide +kernel
theorem dX4_isAbove_20 : decode cX4_isAbove 20 = .ok (.istore_n 3, 1) := by decide +kernel
theorem dX4_isAbove_21 : decode cX4_isAbove 21 = .ok (.goto (-15), 3) := by decide +kernel
theorem dX4_isAbove_24 : decode cX4_isAbove 24 = .ok (.iload_n 3, 1) := by decide +kernel
theorem dX4_isAbove_25 : decode cX4_isAbove 25 = .ok (.iload_n 1, 1) := by decide +kernel
theorem dX4_isAbove_26 : decode cX4_isAbove 26 = .ok (.if_icmp .ne 7, 3) := by decide +kernel
theorem dX4_isAbove_29 : decode cX4_isAbove 29 = .ok (.iconst 1, 1) := by decide +kernel
theorem dX4_isAbove_30 : decode cX4_isAbove 30 = .ok (.goto 4, 3) := by decide +kernel
theorem dX4_isAbove_33 : decode cX4_isAbove 33 = .ok (.iconst 0, 1) := by decide +kernel
theorem dX4_isAbove_34 : decode cX4_isAbove 34 = .ok (.ireturn, 1) := by decide +kernel
set_option maxRecDepth 20000 in
theorem ggX4_belowOf_X4_isAbove : GoodIn wsX4_belowOf wsX4_isAbove := goodIn_r _ [6, 7, 8, 9, 5, 10, 11, 12, 13, 14, 15, 16, 17, 18, 19, 20, 21, 22, 23, 24, 25, 26, 27] (by decide +kernel) (by decide +kernel)
set_option maxRecDepth 20000 in
theorem gX4_belowOf_X4_isAbove : GoodIn wsX4_belowOf (wsV RX4 83 RX4 yX4_isAbove wsX4_isAbove) := goodIn_app (goodIn_of _ (by decide +kernel)) ggX4_belowOf_X4_isAbove
theorem dX4_belowOf_0 : decode cX4_belowOf 0 = .ok (.iconst 0, 1) := by decide +kernel
theorem dX4_belowOf_1 : decode cX4_belowOf 1 = .ok (.istore_n 2, 1) := by decide +kernel
theorem dX4_belowOf_2 : decode cX4_belowOf 2 = .ok (.iconst 0, 1) := by decide +kernel
theorem dX4_belowOf_3 : decode cX4_belowOf 3 = .ok (.istore_n 3, 1) := by decide +kernel
theorem dX4_belowOf_4 : decode cX4_belowOf 4 = .ok (.iload_n 3, 1) := by decide +kernel
theorem dX4_belowOf_5 : decode cX4_belowOf 5 = .ok (.aload_n 0, 1) := by decide +kernel
theorem dX4_belowOf_6 : decode cX4_belowOf 6 = .ok (.getfield 49, 3) := by decide +kernel
theorem dX4_belowOf_9 : decode cX4_belowOf 9 = .ok (.if_icmp .ge 26, 3) := by decide +kernel
theorem dX4_belowOf_12 : decode cX4_belowOf 12 = .ok (.iload_n 2, 1) := by decide +kernel
theorem dX4_belowOf_13 : decode cX4_belowOf 13 = .ok (.aload_n 0, 1) := by decide +kernel
theorem dX4_belowOf_14 : decode cX4_belowOf 14 = .ok (.iload_n 1, 1) := by decide +kernel
theorem dX4_belowOf_15 : decode cX4_belowOf 15 = .ok (.iload_n 3, 1) := by decide +kernel
theorem dX4_belowOf_16 : decode cX4_belowOf 16 = .ok (.invokevirtual 83, 3) := by decide +kernel
theorem dX4_belowOf_19 : decode cX4_belowOf 19 = .ok (.ifCond .eq 7, 3) := by decide +kernel
theorem dX4_belowOf_22 : decode cX4_belowOf 22 = .ok (.iconst 1, 1) := by decide +kernel
theorem dX4_belowOf_23 : decode cX4_belowOf 23 = .ok (.goto 4, 3) := by decide +kernel
theorem dX4_belowOf_26 : decode cX4_belowOf 26 = .ok (.iconst 0, 1) := by decide +kernel
theorem dX4_belowOf_27 : decode cX4_belowOf 27 = .ok (.iadd, 1) := by decide +kernel
theorem dX4_belowOf_28 : decode cX4_belowOf 28 = .ok (.istore_n 2, 1) := by decide +kernel
theorem dX4_belowOf_29 : decode cX4_belowOf 29 = .ok (.iinc 3 1, 3) := by decide +kernel
theorem dX4_belowOf_32 : decode cX4_belowOf 32 = .ok (.goto (-28), 3) := by decide +kernel
theorem dX4_belowOf_35 : decode cX4_belowOf 35 = .ok (.iload_n 2, 1) := by decide +kernel
theorem dX4_belowOf_36 : decode cX4_belowOf 36 = .ok (.ireturn, 1) := by decide +kernel
set_option maxRecDepth 20000 in
theorem ggX4_object_X4_isObject : GoodIn wsX4_object wsX4_isObject := goodIn_r _ [12, 13, 14, 15, 11, 16, 29, 30, 31, 32, 33, 34, 35, 36, 37, 38, 39, 40, 41, 42, 43, 44] (by decide +kernel) (by decide +kernel)
set_option maxRecDepth 20000 in
theorem gX4_object_X4_isObject : GoodIn wsX4_object (wsV RX4 87 RX4 yX4_isObject wsX4_isObject) := goodIn_app (goodIn_of _ (by decide +kernel)) ggX4_object_X4_isObject
set_option maxRecDepth 20000 in
theorem ggX4_object_X4_parent : GoodIn wsX4_object wsX4_parent := goodIn_r _ [20, 2, 29, 30, 31, 32, 33, 34, 35, 36, 37, 38, 39, 40, 41, 42, 43, 44] (by decide +kernel) (by decide +kernel)
set_option maxRecDepth 20000 in
theorem gX4_object_X4_parent : GoodIn wsX4_object (wsV RX4 80 RX4 yX4_parent wsX4_parent) := goodIn_app (goodIn_of _ (by decide +kernel)) ggX4_object_X4_parent
set_option maxRecDepth 20000 in
theorem ggX4_object_X4_belowOf : GoodIn wsX4_object wsX4_belowOf := goodIn_r _ [24, 13, 25, 26, 27, 11, 28, 17, 18, 19, 20, 2, 29, 30, 31, 32, 33, 34, 35, 36, 37, 38, 39, 40, 41, 42, 43, 44] (by decide +kernel) (by decide +kernel)
set_option maxRecDepth 20000 in
theorem gX4_object_X4_belowOf : GoodIn wsX4_object (wsV RX4 91 RX4 yX4_belowOf wsX4_belowOf) := goodIn_app (goodIn_of _ (by decide +kernel)) ggX4_object_X4_belowOf
theorem dX4_object_0 : decode cX4_object 0 = .ok (.aload_n 0, 1) := by decide +kernel
theorem dX4_object_1 : decode cX4_object 1 = .ok (.iconst 0, 1) := by decide +kernel
theorem dX4_object_2 : decode cX4_object 2 = .ok (.putfield 45, 3) := by decide +kernel
theorem dX4_object_5 : decode cX4_object 5 = .ok (.aload_n 0, 1) := by decide +kernel
theorem dX4_object_6 : decode cX4_object 6 = .ok (.iload_n 1, 1) := by decide +kernel
theorem dX4_object_7 : decode cX4_object 7 = .ok (.invokevirtual 87, 3) := by decide +kernel
theorem dX4_object_10 : decode cX4_object 10 = .ok (.ifCond .ne 5, 3) := by decide +kernel
theorem dX4_object_13 : decode cX4_object 13 = .ok (.iconst (-1), 1) := by decide +kernel
theorem dX4_object_14 : decode cX4_object 14 = .ok (.ireturn, 1) := by decide +kernel
theorem dX4_object_15 : decode cX4_object 15 = .ok (.iload_n 2, 1) := by decide +kernel
theorem dX4_object_16 : decode cX4_object 16 = .ok (.tableswitch 125 0 7 #[48, 55, 62, 69, 76, 98, 104, 119], 48) := by decide +kernel
theorem dX4_object_64 : decode cX4_object 64 = .ok (.aload_n 0, 1) := by decide +kernel
theorem dX4_object_65 : decode cX4_object 65 = .ok (.getfield 7, 3) := by decide +kernel
theorem dX4_object_68 : decode cX4_object 68 = .ok (.iload_n 1, 1) := by decide +kernel
theorem dX4_object_69 : decode cX4_object 69 = .ok (.iaload, 1) := by decide +kernel
theorem dX4_object_70 : decode cX4_object 70 = .ok (.ireturn, 1) := by decide +kernel
theorem dX4_object_71 : decode cX4_object 71 = .ok (.aload_n 0, 1) := by decide +kernel
theorem dX4_object_72 : decode cX4_object 72 = .ok (.getfield 13, 3) := by decide +kernel
theorem dX4_object_75 : decode cX4_object 75 = .ok (.iload_n 1, 1) := by decide +kernel
theorem dX4_object_76 : decode cX4_object 76 = .ok (.iaload, 1) := by decide +kernel
theorem dX4_object_77 : decode cX4_object 77 = .ok (.ireturn, 1) := by decide +kernel
theorem dX4_object_78 : decode cX4_object 78 = .ok (.aload_n 0, 1) := by decide +kernel
theorem dX4_object_79 : decode cX4_object 79 = .ok (.getfield 16, 3) := by decide +kernel
theorem dX4_object_82 : decode cX4_object 82 = .ok (.iload_n 1, 1) := by decide +kernel
theorem dX4_object_83 : decode cX4_object 83 = .ok (.iaload, 1) := by decide +kernel
theorem dX4_object_84 : decode cX4_object 84 = .ok (.ireturn, 1) := by decide +kernel
theorem dX4_object_85 : decode cX4_object 85 = .ok (.aload_n 0, 1) := by decide +kernel
theorem dX4_object_86 : decode cX4_object 86 = .ok (.getfield 19, 3) := by decide +kernel
theorem dX4_object_89 : decode cX4_object 89 = .ok (.iload_n 1, 1) := by decide +kernel
theorem dX4_object_90 : decode cX4_object 90 = .ok (.iaload, 1) := by decide +kernel
theorem dX4_object_91 : decode cX4_object 91 = .ok (.ireturn, 1) := by decide +kernel
theorem dX4_object_92 : decode cX4_object 92 = .ok (.aload_n 0, 1) := by decide +kernel
theorem dX4_object_93 : decode cX4_object 93 = .ok (.getfield 7, 3) := by decide +kernel
theorem dX4_object_96 : decode cX4_object 96 = .ok (.iload_n 1, 1) := by decide +kernel
theorem dX4_object_97 : decode cX4_object 97 = .ok (.iaload, 1) := by decide +kernel
theorem dX4_object_98 : decode cX4_object 98 = .ok (.iconst 2, 1) := by decide +kernel
theorem dX4_object_99 : decode cX4_object 99 = .ok (.if_icmp .ne 12, 3) := by decide +kernel
theorem dX4_object_102 : decode cX4_object 102 = .ok (.aload_n 0, 1) := by decide +kernel
theorem dX4_object_103 : decode cX4_object 103 = .ok (.getfield 22, 3) := by decide +kernel
theorem dX4_object_106 : decode cX4_object 106 = .ok (.iload_n 1, 1) := by decide +kernel
theorem dX4_object_107 : decode cX4_object 107 = .ok (.iaload, 1) := by decide +kernel
theorem dX4_object_108 : decode cX4_object 108 = .ok (.goto 5, 3) := by decide +kernel
theorem dX4_object_111 : decode cX4_object 111 = .ok (.bipush (-3), 2) := by decide +kernel
theorem dX4_object_113 : decode cX4_object 113 = .ok (.ireturn, 1) := by decide +kernel
theorem dX4_object_114 : decode cX4_object 114 = .ok (.aload_n 0, 1) := by decide +kernel
theorem dX4_object_115 : decode cX4_object 115 = .ok (.iload_n 1, 1) := by decide +kernel
theorem dX4_object_116 : decode cX4_object 116 = .ok (.invokevirtual 80, 3) := by decide +kernel
theorem dX4_object_119 : decode cX4_object 119 = .ok (.ireturn, 1) := by decide +kernel
theorem dX4_object_120 : decode cX4_object 120 = .ok (.aload_n 0, 1) := by decide +kernel
theorem dX4_object_121 : decode cX4_object 121 = .ok (.getfield 25, 3) := by decide +kernel
theorem dX4_object_124 : decode cX4_object 124 = .ok (.iload_n 1, 1) := by decide +kernel
theorem dX4_object_125 : decode cX4_object 125 = .ok (.baload, 1) := by decide +kernel
theorem dX4_object_126 : decode cX4_object 126 = .ok (.ifCond .eq 7, 3) := by decide +kernel
theorem dX4_object_129 : decode cX4_object 129 = .ok (.iconst 1, 1) := by decide +kernel
theorem dX4_object_130 : decode cX4_object 130 = .ok (.goto 4, 3) := by decide +kernel
theorem dX4_object_133 : decode cX4_object 133 = .ok (.iconst 0, 1) := by decide +kernel
theorem dX4_object_134 : decode cX4_object 134 = .ok (.ireturn, 1) := by decide +kernel
theorem dX4_object_135 : decode cX4_object 135 = .ok (.aload_n 0, 1) := by decide +kernel
theorem dX4_object_136 : decode cX4_object 136 = .ok (.iload_n 1, 1) := by decide +kernel
theorem dX4_object_137 : decode cX4_object 137 = .ok (.invokevirtual 91, 3) := by decide +kernel
theorem dX4_object_140 : decode cX4_object 140 = .ok (.ireturn, 1) := by decide +kernel
theorem dX4_object_141 : decode cX4_object 141 = .ok (.bipush (-2), 2) := by decide +kernel
theorem dX4_object_143 : decode cX4_object 143 = .ok (.ireturn, 1) := by decide +kernel
set_option maxRecDepth 20000 in
theorem ggX4_count_X4_isIn : GoodIn wsX4_count wsX4_isIn := goodIn_r _ [10] (by decide +kernel) (by decide +kernel)
set_option maxRecDepth 20000 in
theorem gX4_count_X4_isIn : GoodIn wsX4_count (va_wsS RX4 52 yX4_isIn wsX4_isIn) := goodIn_app (goodIn_of _ (by decide +kernel)) ggX4_count_X4_isIn
theorem dX4_count_0 : decode cX4_count 0 = .ok (.aload_n 0, 1) := by decide +kernel
theorem dX4_count_1 : decode cX4_count 1 = .ok (.iconst 0, 1) := by decide +kernel
theorem dX4_count_2 : decode cX4_count 2 = .ok (.putfield 45, 3) := by decide +kernel
theorem dX4_count_5 : decode cX4_count 5 = .ok (.iload_n 1, 1) := by decide +kernel
theorem dX4_count_6 : decode cX4_count 6 = .ok (.iconst 0, 1) := by decide +kernel
theorem dX4_count_7 : decode cX4_count 7 = .ok (.iconst 4, 1) := by decide +kernel
theorem dX4_count_8 : decode cX4_count 8 = .ok (.invokestatic 52, 3) := by decide +kernel
theorem dX4_count_11 : decode cX4_count 11 = .ok (.ifCond .ne 6, 3) := by decide +kernel
theorem dX4_count_14 : decode cX4_count 14 = .ok (.bipush (-2), 2) := by decide +kernel
theorem dX4_count_16 : decode cX4_count 16 = .ok (.ireturn, 1) := by decide +kernel
theorem dX4_count_17 : decode cX4_count 17 = .ok (.iconst 0, 1) := by decide +kernel
theorem dX4_count_18 : decode cX4_count 18 = .ok (.istore_n 2, 1) := by decide +kernel
theorem dX4_count_19 : decode cX4_count 19 = .ok (.iconst 0, 1) := by decide +kernel
theorem dX4_count_20 : decode cX4_count 20 = .ok (.istore_n 3, 1) := by decide +kernel
theorem dX4_count_21 : decode cX4_count 21 = .ok (.iconst 0, 1) := by decide +kernel
theorem dX4_count_22 : decode cX4_count 22 = .ok (.istore 4, 2) := by decide +kernel
theorem dX4_count_24 : decode cX4_count 24 = .ok (.iload 4, 2) := by decide +kernel
theorem dX4_count_26 : decode cX4_count 26 = .ok (.aload_n 0, 1) := by decide +kernel
theorem dX4_count_27 : decode cX4_count 27 = .ok (.getfield 49, 3) := by decide +kernel
theorem dX4_count_30 : decode cX4_count 30 = .ok (.if_icmp .ge 56, 3) := by decide +kernel
theorem dX4_count_33 : decode cX4_count 33 = .ok (.iload_n 2, 1) := by decide +kernel
theorem dX4_count_34 : decode cX4_count 34 = .ok (.aload_n 0, 1) := by decide +kernel
theorem dX4_count_35 : decode cX4_count 35 = .ok (.getfield 25, 3) := by decide +kernel
theorem dX4_count_38 : decode cX4_count 38 = .ok (.iload 4, 2) := by decide +kernel
theorem dX4_count_40 : decode cX4_count 40 = .ok (.baload, 1) := by decide +kernel
theorem dX4_count_41 : decode cX4_count 41 = .ok (.ifCond .eq 7, 3) := by decide +kernel
theorem dX4_count_44 : decode cX4_count 44 = .ok (.iconst 1, 1) := by decide +kernel
theorem dX4_count_45 : decode cX4_count 45 = .ok (.goto 4, 3) := by decide +kernel
theorem dX4_count_48 : decode cX4_count 48 = .ok (.iconst 0, 1) := by decide +kernel
theorem dX4_count_49 : decode cX4_count 49 = .ok (.iadd, 1) := by decide +kernel
theorem dX4_count_50 : decode cX4_count 50 = .ok (.istore_n 2, 1) := by decide +kernel
theorem dX4_count_51 : decode cX4_count 51 = .ok (.iload_n 3, 1) := by decide +kernel
theorem dX4_count_52 : decode cX4_count 52 = .ok (.aload_n 0, 1) := by decide +kernel
theorem dX4_count_53 : decode cX4_count 53 = .ok (.getfield 25, 3) := by decide +kernel
theorem dX4_count_56 : decode cX4_count 56 = .ok (.iload 4, 2) := by decide +kernel
theorem dX4_count_58 : decode cX4_count 58 = .ok (.baload, 1) := by decide +kernel
theorem dX4_count_59 : decode cX4_count 59 = .ok (.ifCond .eq 18, 3) := by decide +kernel
theorem dX4_count_62 : decode cX4_count 62 = .ok (.aload_n 0, 1) := by decide +kernel
theorem dX4_count_63 : decode cX4_count 63 = .ok (.getfield 7, 3) := by decide +kernel
theorem dX4_count_66 : decode cX4_count 66 = .ok (.iload 4, 2) := by decide +kernel
theorem dX4_count_68 : decode cX4_count 68 = .ok (.iaload, 1) := by decide +kernel
theorem dX4_count_69 : decode cX4_count 69 = .ok (.iconst 2, 1) := by decide +kernel
theorem dX4_count_70 : decode cX4_count 70 = .ok (.if_icmp .ne 7, 3) := by decide +kernel
theorem dX4_count_73 : decode cX4_count 73 = .ok (.iconst 1, 1) := by decide +kernel
theorem dX4_count_74 : decode cX4_count 74 = .ok (.goto 4, 3) := by decide +kernel
theorem dX4_count_77 : decode cX4_count 77 = .ok (.iconst 0, 1) := by decide +kernel
theorem dX4_count_78 : decode cX4_count 78 = .ok (.iadd, 1) := by decide +kernel
theorem dX4_count_79 : decode cX4_count 79 = .ok (.istore_n 3, 1) := by decide +kernel
theorem dX4_count_80 : decode cX4_count 80 = .ok (.iinc 4 1, 3) := by decide +kernel
theorem dX4_count_83 : decode cX4_count 83 = .ok (.goto (-59), 3) := by decide +kernel
theorem dX4_count_86 : decode cX4_count 86 = .ok (.iload_n 1, 1) := by decide +kernel
theorem dX4_count_87 : decode cX4_count 87 = .ok (.ifCond .ne 10, 3) := by decide +kernel
theorem dX4_count_90 : decode cX4_count 90 = .ok (.aload_n 0, 1) := by decide +kernel
theorem dX4_count_91 : decode cX4_count 91 = .ok (.getfield 49, 3) := by decide +kernel
theorem dX4_count_94 : decode cX4_count 94 = .ok (.goto 37, 3) := by decide +kernel
theorem dX4_count_97 : decode cX4_count 97 = .ok (.iload_n 1, 1) := by decide +kernel
theorem dX4_count_98 : decode cX4_count 98 = .ok (.iconst 1, 1) := by decide +kernel
theorem dX4_count_99 : decode cX4_count 99 = .ok (.if_icmp .ne 7, 3) := by decide +kernel
theorem dX4_count_102 : decode cX4_count 102 = .ok (.iload_n 2, 1) := by decide +kernel
theorem dX4_count_103 : decode cX4_count 103 = .ok (.goto 28, 3) := by decide +kernel
theorem dX4_count_106 : decode cX4_count 106 = .ok (.iload_n 1, 1) := by decide +kernel
theorem dX4_count_107 : decode cX4_count 107 = .ok (.iconst 2, 1) := by decide +kernel
theorem dX4_count_108 : decode cX4_count 108 = .ok (.if_icmp .ne 7, 3) := by decide +kernel
end
section
theorem dX4_count_111 : decode cX4_count 111 = .ok (.iload_n 3, 1) := by decide +kernel
theorem dX4_count_112 : decode cX4_count 112 = .ok (.goto 19, 3) := by decide +kernel
theorem dX4_count_115 : decode cX4_count 115 = .ok (.iload_n 1, 1) := by decide +kernel
theorem dX4_count_116 : decode cX4_count 116 = .ok (.iconst 3, 1) := by decide +kernel
theorem dX4_count_117 : decode cX4_count 117 = .ok (.if_icmp .ne 10, 3) := by decide +kernel
theorem dX4_count_120 : decode cX4_count 120 = .ok (.aload_n 0, 1) := by decide +kernel
theorem dX4_count_121 : decode cX4_count 121 = .ok (.getfield 56, 3) := by decide +kernel
theorem dX4_count_124 : decode cX4_count 124 = .ok (.goto 7, 3) := by decide +kernel
theorem dX4_count_127 : decode cX4_count 127 = .ok (.aload_n 0, 1) := by decide +kernel
theorem dX4_count_128 : decode cX4_count 128 = .ok (.getfield 59, 3) := by decide +kernel
theorem dX4_count_131 : decode cX4_count 131 = .ok (.ireturn, 1) := by decide +kernel
set_option maxRecDepth 20000 in
theorem ggX4_root_X4_rootOf : GoodIn wsX4_root wsX4_rootOf := goodIn_r _ [6, 7, 8, 9, 10, 11, 12, 13, 14, 15, 16, 17, 18, 19, 20, 21, 22, 23, 24, 25, 26] (by decide +kernel) (by decide +kernel)
set_option maxRecDepth 20000 in
theorem gX4_root_X4_rootOf : GoodIn wsX4_root (wsV RX4 69 RX4 yX4_rootOf wsX4_rootOf) := goodIn_app (goodIn_of _ (by decide +kernel)) ggX4_root_X4_rootOf
theorem dX4_root_0 : decode cX4_root 0 = .ok (.aload_n 0, 1) := by decide +kernel
theorem dX4_root_1 : decode cX4_root 1 = .ok (.iconst 0, 1) := by decide +kernel
theorem dX4_root_2 : decode cX4_root 2 = .ok (.putfield 45, 3) := by decide +kernel
theorem dX4_root_5 : decode cX4_root 5 = .ok (.aload_n 0, 1) := by decide +kernel
theorem dX4_root_6 : decode cX4_root 6 = .ok (.iload_n 1, 1) := by decide +kernel
theorem dX4_root_7 : decode cX4_root 7 = .ok (.invokevirtual 69, 3) := by decide +kernel
theorem dX4_root_10 : decode cX4_root 10 = .ok (.ireturn, 1) := by decide +kernel
theorem dX4_sizeOf_0 : decode cX4_sizeOf 0 = .ok (.iconst 0, 1) := by decide +kernel
theorem dX4_sizeOf_1 : decode cX4_sizeOf 1 = .ok (.istore_n 2, 1) := by decide +kernel
theorem dX4_sizeOf_2 : decode cX4_sizeOf 2 = .ok (.iconst 0, 1) := by decide +kernel
theorem dX4_sizeOf_3 : decode cX4_sizeOf 3 = .ok (.istore_n 3, 1) := by decide +kernel
theorem dX4_sizeOf_4 : decode cX4_sizeOf 4 = .ok (.iload_n 3, 1) := by decide +kernel
theorem dX4_sizeOf_5 : decode cX4_sizeOf 5 = .ok (.aload_n 0, 1) := by decide +kernel
theorem dX4_sizeOf_6 : decode cX4_sizeOf 6 = .ok (.getfield 49, 3) := by decide +kernel
theorem dX4_sizeOf_9 : decode cX4_sizeOf 9 = .ok (.if_icmp .ge 32, 3) := by decide +kernel
theorem dX4_sizeOf_12 : decode cX4_sizeOf 12 = .ok (.iload_n 2, 1) := by decide +kernel
theorem dX4_sizeOf_13 : decode cX4_sizeOf 13 = .ok (.aload_n 0, 1) := by decide +kernel
theorem dX4_sizeOf_14 : decode cX4_sizeOf 14 = .ok (.getfield 32, 3) := by decide +kernel
theorem dX4_sizeOf_17 : decode cX4_sizeOf 17 = .ok (.sipush 200, 3) := by decide +kernel
theorem dX4_sizeOf_20 : decode cX4_sizeOf 20 = .ok (.iload_n 1, 1) := by decide +kernel
theorem dX4_sizeOf_21 : decode cX4_sizeOf 21 = .ok (.imul, 1) := by decide +kernel
theorem dX4_sizeOf_22 : decode cX4_sizeOf 22 = .ok (.iload_n 3, 1) := by decide +kernel
theorem dX4_sizeOf_23 : decode cX4_sizeOf 23 = .ok (.iadd, 1) := by decide +kernel
theorem dX4_sizeOf_24 : decode cX4_sizeOf 24 = .ok (.baload, 1) := by decide +kernel
theorem dX4_sizeOf_25 : decode cX4_sizeOf 25 = .ok (.ifCond .eq 7, 3) := by decide +kernel
theorem dX4_sizeOf_28 : decode cX4_sizeOf 28 = .ok (.iconst 1, 1) := by decide +kernel
theorem dX4_sizeOf_29 : decode cX4_sizeOf 29 = .ok (.goto 4, 3) := by decide +kernel
theorem dX4_sizeOf_32 : decode cX4_sizeOf 32 = .ok (.iconst 0, 1) := by decide +kernel
theorem dX4_sizeOf_33 : decode cX4_sizeOf 33 = .ok (.iadd, 1) := by decide +kernel
theorem dX4_sizeOf_34 : decode cX4_sizeOf 34 = .ok (.istore_n 2, 1) := by decide +kernel
theorem dX4_sizeOf_35 : decode cX4_sizeOf 35 = .ok (.iinc 3 1, 3) := by decide +kernel
theorem dX4_sizeOf_38 : decode cX4_sizeOf 38 = .ok (.goto (-34), 3) := by decide +kernel
theorem dX4_sizeOf_41 : decode cX4_sizeOf 41 = .ok (.iload_n 2, 1) := by decide +kernel
theorem dX4_sizeOf_42 : decode cX4_sizeOf 42 = .ok (.ireturn, 1) := by decide +kernel
theorem dX4_bits_0 : decode cX4_bits 0 = .ok (.iconst 0, 1) := by decide +kernel
theorem dX4_bits_1 : decode cX4_bits 1 = .ok (.istore_n 1, 1) := by decide +kernel
theorem dX4_bits_2 : decode cX4_bits 2 = .ok (.iconst 0, 1) := by decide +kernel
theorem dX4_bits_3 : decode cX4_bits 3 = .ok (.istore_n 2, 1) := by decide +kernel
theorem dX4_bits_4 : decode cX4_bits 4 = .ok (.iload_n 2, 1) := by decide +kernel
theorem dX4_bits_5 : decode cX4_bits 5 = .ok (.bipush 8, 2) := by decide +kernel
theorem dX4_bits_7 : decode cX4_bits 7 = .ok (.if_icmp .ge 17, 3) := by decide +kernel
theorem dX4_bits_10 : decode cX4_bits 10 = .ok (.iload_n 1, 1) := by decide +kernel
theorem dX4_bits_11 : decode cX4_bits 11 = .ok (.iload_n 0, 1) := by decide +kernel
theorem dX4_bits_12 : decode cX4_bits 12 = .ok (.iload_n 2, 1) := by decide +kernel
theorem dX4_bits_13 : decode cX4_bits 13 = .ok (.ishr, 1) := by decide +kernel
theorem dX4_bits_14 : decode cX4_bits 14 = .ok (.iconst 1, 1) := by decide +kernel
theorem dX4_bits_15 : decode cX4_bits 15 = .ok (.iand, 1) := by decide +kernel
theorem dX4_bits_16 : decode cX4_bits 16 = .ok (.iadd, 1) := by decide +kernel
theorem dX4_bits_17 : decode cX4_bits 17 = .ok (.istore_n 1, 1) := by decide +kernel
theorem dX4_bits_18 : decode cX4_bits 18 = .ok (.iinc 2 1, 3) := by decide +kernel
theorem dX4_bits_21 : decode cX4_bits 21 = .ok (.goto (-17), 3) := by decide +kernel
theorem dX4_bits_24 : decode cX4_bits 24 = .ok (.iload_n 1, 1) := by decide +kernel
theorem dX4_bits_25 : decode cX4_bits 25 = .ok (.ireturn, 1) := by decide +kernel
set_option maxRecDepth 20000 in
theorem ggX4_mayBeFound_X4_isIn : GoodIn wsX4_mayBeFound wsX4_isIn := goodIn_r _ [4] (by decide +kernel) (by decide +kernel)
set_option maxRecDepth 20000 in
theorem gX4_mayBeFound_X4_isIn : GoodIn wsX4_mayBeFound (va_wsS RX4 52 yX4_isIn wsX4_isIn) := goodIn_app (goodIn_of _ (by decide +kernel)) ggX4_mayBeFound_X4_isIn
theorem dX4_mayBeFound_0 : decode cX4_mayBeFound 0 = .ok (.iload_n 0, 1) := by decide +kernel
theorem dX4_mayBeFound_1 : decode cX4_mayBeFound 1 = .ok (.tableswitch 107 0 5 #[39, 41, 50, 82, 89, 98], 39) := by decide +kernel
theorem dX4_mayBeFound_40 : decode cX4_mayBeFound 40 = .ok (.iconst 1, 1) := by decide +kernel
theorem dX4_mayBeFound_41 : decode cX4_mayBeFound 41 = .ok (.ireturn, 1) := by decide +kernel
theorem dX4_mayBeFound_42 : decode cX4_mayBeFound 42 = .ok (.iload_n 1, 1) := by decide +kernel
theorem dX4_mayBeFound_43 : decode cX4_mayBeFound 43 = .ok (.iconst 0, 1) := by decide +kernel
theorem dX4_mayBeFound_44 : decode cX4_mayBeFound 44 = .ok (.sipush 255, 3) := by decide +kernel
theorem dX4_mayBeFound_47 : decode cX4_mayBeFound 47 = .ok (.invokestatic 52, 3) := by decide +kernel
theorem dX4_mayBeFound_50 : decode cX4_mayBeFound 50 = .ok (.ireturn, 1) := by decide +kernel
theorem dX4_mayBeFound_51 : decode cX4_mayBeFound 51 = .ok (.iload_n 1, 1) := by decide +kernel
theorem dX4_mayBeFound_52 : decode cX4_mayBeFound 52 = .ok (.sipush (-1000), 3) := by decide +kernel
theorem dX4_mayBeFound_55 : decode cX4_mayBeFound 55 = .ok (.sipush 1000, 3) := by decide +kernel
theorem dX4_mayBeFound_58 : decode cX4_mayBeFound 58 = .ok (.invokestatic 52, 3) := by decide +kernel
theorem dX4_mayBeFound_61 : decode cX4_mayBeFound 61 = .ok (.ifCond .eq 20, 3) := by decide +kernel
theorem dX4_mayBeFound_64 : decode cX4_mayBeFound 64 = .ok (.iload_n 2, 1) := by decide +kernel
theorem dX4_mayBeFound_65 : decode cX4_mayBeFound 65 = .ok (.sipush (-1000), 3) := by decide +kernel
theorem dX4_mayBeFound_68 : decode cX4_mayBeFound 68 = .ok (.sipush 1000, 3) := by decide +kernel
theorem dX4_mayBeFound_71 : decode cX4_mayBeFound 71 = .ok (.invokestatic 52, 3) := by decide +kernel
theorem dX4_mayBeFound_74 : decode cX4_mayBeFound 74 = .ok (.ifCond .eq 7, 3) := by decide +kernel
theorem dX4_mayBeFound_77 : decode cX4_mayBeFound 77 = .ok (.iconst 1, 1) := by decide +kernel
theorem dX4_mayBeFound_78 : decode cX4_mayBeFound 78 = .ok (.goto 4, 3) := by decide +kernel
theorem dX4_mayBeFound_81 : decode cX4_mayBeFound 81 = .ok (.iconst 0, 1) := by decide +kernel
theorem dX4_mayBeFound_82 : decode cX4_mayBeFound 82 = .ok (.ireturn, 1) := by decide +kernel
theorem dX4_mayBeFound_83 : decode cX4_mayBeFound 83 = .ok (.iload_n 1, 1) := by decide +kernel
theorem dX4_mayBeFound_84 : decode cX4_mayBeFound 84 = .ok (.iconst 0, 1) := by decide +kernel
theorem dX4_mayBeFound_85 : decode cX4_mayBeFound 85 = .ok (.iconst 2, 1) := by decide +kernel
theorem dX4_mayBeFound_86 : decode cX4_mayBeFound 86 = .ok (.invokestatic 52, 3) := by decide +kernel
theorem dX4_mayBeFound_89 : decode cX4_mayBeFound 89 = .ok (.ireturn, 1) := by decide +kernel
theorem dX4_mayBeFound_90 : decode cX4_mayBeFound 90 = .ok (.iload_n 1, 1) := by decide +kernel
theorem dX4_mayBeFound_91 : decode cX4_mayBeFound 91 = .ok (.iconst 0, 1) := by decide +kernel
theorem dX4_mayBeFound_92 : decode cX4_mayBeFound 92 = .ok (.sipush 999, 3) := by decide +kernel
theorem dX4_mayBeFound_95 : decode cX4_mayBeFound 95 = .ok (.invokestatic 52, 3) := by decide +kernel
theorem dX4_mayBeFound_98 : decode cX4_mayBeFound 98 = .ok (.ireturn, 1) := by decide +kernel
theorem dX4_mayBeFound_99 : decode cX4_mayBeFound 99 = .ok (.iload_n 1, 1) := by decide +kernel
theorem dX4_mayBeFound_100 : decode cX4_mayBeFound 100 = .ok (.iconst 0, 1) := by decide +kernel
theorem dX4_mayBeFound_101 : decode cX4_mayBeFound 101 = .ok (.sipush 999, 3) := by decide +kernel
theorem dX4_mayBeFound_104 : decode cX4_mayBeFound 104 = .ok (.invokestatic 52, 3) := by decide +kernel
theorem dX4_mayBeFound_107 : decode cX4_mayBeFound 107 = .ok (.ireturn, 1) := by decide +kernel
theorem dX4_mayBeFound_108 : decode cX4_mayBeFound 108 = .ok (.iconst 0, 1) := by decide +kernel
theorem dX4_mayBeFound_109 : decode cX4_mayBeFound 109 = .ok (.ireturn, 1) := by decide +kernel
set_option maxRecDepth 20000 in
theorem ggX4_isFound_X4_isIn : GoodIn wsX4_isFound wsX4_isIn := goodIn_r _ [9] (by decide +kernel) (by decide +kernel)
set_option maxRecDepth 20000 in
theorem gX4_isFound_X4_isIn : GoodIn wsX4_isFound (va_wsS RX4 52 yX4_isIn wsX4_isIn) := goodIn_app (goodIn_of _ (by decide +kernel)) ggX4_isFound_X4_isIn
theorem dX4_isFound_0 : decode cX4_isFound 0 = .ok (.iload_n 2, 1) := by decide +kernel
theorem dX4_isFound_1 : decode cX4_isFound 1 = .ok (.tableswitch 110 0 4 #[35, 37, 55, 68, 84], 35) := by decide +kernel
theorem dX4_isFound_36 : decode cX4_isFound 36 = .ok (.iconst 1, 1) := by decide +kernel
theorem dX4_isFound_37 : decode cX4_isFound 37 = .ok (.ireturn, 1) := by decide +kernel
theorem dX4_isFound_38 : decode cX4_isFound 38 = .ok (.aload_n 0, 1) := by decide +kernel
theorem dX4_isFound_39 : decode cX4_isFound 39 = .ok (.getfield 16, 3) := by decide +kernel
theorem dX4_isFound_42 : decode cX4_isFound 42 = .ok (.iload_n 1, 1) := by decide +kernel
theorem dX4_isFound_43 : decode cX4_isFound 43 = .ok (.iaload, 1) := by decide +kernel
theorem dX4_isFound_44 : decode cX4_isFound 44 = .ok (.iload_n 3, 1) := by decide +kernel
theorem dX4_isFound_45 : decode cX4_isFound 45 = .ok (.iand, 1) := by decide +kernel
theorem dX4_isFound_46 : decode cX4_isFound 46 = .ok (.iload_n 3, 1) := by decide +kernel
theorem dX4_isFound_47 : decode cX4_isFound 47 = .ok (.if_icmp .ne 7, 3) := by decide +kernel
theorem dX4_isFound_50 : decode cX4_isFound 50 = .ok (.iconst 1, 1) := by decide +kernel
theorem dX4_isFound_51 : decode cX4_isFound 51 = .ok (.goto 4, 3) := by decide +kernel
theorem dX4_isFound_54 : decode cX4_isFound 54 = .ok (.iconst 0, 1) := by decide +kernel
theorem dX4_isFound_55 : decode cX4_isFound 55 = .ok (.ireturn, 1) := by decide +kernel
theorem dX4_isFound_56 : decode cX4_isFound 56 = .ok (.aload_n 0, 1) := by decide +kernel
theorem dX4_isFound_57 : decode cX4_isFound 57 = .ok (.getfield 13, 3) := by decide +kernel
theorem dX4_isFound_60 : decode cX4_isFound 60 = .ok (.iload_n 1, 1) := by decide +kernel
theorem dX4_isFound_61 : decode cX4_isFound 61 = .ok (.iaload, 1) := by decide +kernel
theorem dX4_isFound_62 : decode cX4_isFound 62 = .ok (.iload_n 3, 1) := by decide +kernel
theorem dX4_isFound_63 : decode cX4_isFound 63 = .ok (.iload 4, 2) := by decide +kernel
theorem dX4_isFound_65 : decode cX4_isFound 65 = .ok (.invokestatic 52, 3) := by decide +kernel
theorem dX4_isFound_68 : decode cX4_isFound 68 = .ok (.ireturn, 1) := by decide +kernel
theorem dX4_isFound_69 : decode cX4_isFound 69 = .ok (.aload_n 0, 1) := by decide +kernel
theorem dX4_isFound_70 : decode cX4_isFound 70 = .ok (.getfield 7, 3) := by decide +kernel
theorem dX4_isFound_73 : decode cX4_isFound 73 = .ok (.iload_n 1, 1) := by decide +kernel
theorem dX4_isFound_74 : decode cX4_isFound 74 = .ok (.iaload, 1) := by decide +kernel
theorem dX4_isFound_75 : decode cX4_isFound 75 = .ok (.iload_n 3, 1) := by decide +kernel
theorem dX4_isFound_76 : decode cX4_isFound 76 = .ok (.if_icmp .ne 7, 3) := by decide +kernel
theorem dX4_isFound_79 : decode cX4_isFound 79 = .ok (.iconst 1, 1) := by decide +kernel
theorem dX4_isFound_80 : decode cX4_isFound 80 = .ok (.goto 4, 3) := by decide +kernel
theorem dX4_isFound_83 : decode cX4_isFound 83 = .ok (.iconst 0, 1) := by decide +kernel
theorem dX4_isFound_84 : decode cX4_isFound 84 = .ok (.ireturn, 1) := by decide +kernel
theorem dX4_isFound_85 : decode cX4_isFound 85 = .ok (.aload_n 0, 1) := by decide +kernel
theorem dX4_isFound_86 : decode cX4_isFound 86 = .ok (.getfield 7, 3) := by decide +kernel
theorem dX4_isFound_89 : decode cX4_isFound 89 = .ok (.iload_n 1, 1) := by decide +kernel
theorem dX4_isFound_90 : decode cX4_isFound 90 = .ok (.iaload, 1) := by decide +kernel
theorem dX4_isFound_91 : decode cX4_isFound 91 = .ok (.iconst 2, 1) := by decide +kernel
theorem dX4_isFound_92 : decode cX4_isFound 92 = .ok (.if_icmp .ne 17, 3) := by decide +kernel
theorem dX4_isFound_95 : decode cX4_isFound 95 = .ok (.aload_n 0, 1) := by decide +kernel
theorem dX4_isFound_96 : decode cX4_isFound 96 = .ok (.getfield 22, 3) := by decide +kernel
theorem dX4_isFound_99 : decode cX4_isFound 99 = .ok (.iload_n 1, 1) := by decide +kernel
theorem dX4_isFound_100 : decode cX4_isFound 100 = .ok (.iaload, 1) := by decide +kernel
theorem dX4_isFound_101 : decode cX4_isFound 101 = .ok (.iload_n 3, 1) := by decide +kernel
theorem dX4_isFound_102 : decode cX4_isFound 102 = .ok (.if_icmp .ne 7, 3) := by decide +kernel
theorem dX4_isFound_105 : decode cX4_isFound 105 = .ok (.iconst 1, 1) := by decide +kernel
theorem dX4_isFound_106 : decode cX4_isFound 106 = .ok (.goto 4, 3) := by decide +kernel
theorem dX4_isFound_109 : decode cX4_isFound 109 = .ok (.iconst 0, 1) := by decide +kernel
theorem dX4_isFound_110 : decode cX4_isFound 110 = .ok (.ireturn, 1) := by decide +kernel
theorem dX4_isFound_111 : decode cX4_isFound 111 = .ok (.aload_n 0, 1) := by decide +kernel
theorem dX4_isFound_112 : decode cX4_isFound 112 = .ok (.getfield 19, 3) := by decide +kernel
theorem dX4_isFound_115 : decode cX4_isFound 115 = .ok (.iload_n 1, 1) := by decide +kernel
theorem dX4_isFound_116 : decode cX4_isFound 116 = .ok (.iaload, 1) := by decide +kernel
theorem dX4_isFound_117 : decode cX4_isFound 117 = .ok (.iload_n 3, 1) := by decide +kernel
theorem dX4_isFound_118 : decode cX4_isFound 118 = .ok (.if_icmp .ne 7, 3) := by decide +kernel
theorem dX4_isFound_121 : decode cX4_isFound 121 = .ok (.iconst 1, 1) := by decide +kernel
theorem dX4_isFound_122 : decode cX4_isFound 122 = .ok (.goto 4, 3) := by decide +kernel
theorem dX4_isFound_125 : decode cX4_isFound 125 = .ok (.iconst 0, 1) := by decide +kernel
theorem dX4_isFound_126 : decode cX4_isFound 126 = .ok (.ireturn, 1) := by decide +kernel
set_option maxRecDepth 20000 in
theorem ggX4_find_X4_mayBeFound : GoodIn wsX4_find wsX4_mayBeFound := goodIn_r _ [11, 12, 13, 10, 14] (by decide +kernel) (by decide +kernel)
set_option maxRecDepth 20000 in
theorem gX4_find_X4_mayBeFound : GoodIn wsX4_find (va_wsS RX4 94 yX4_mayBeFound wsX4_mayBeFound) := goodIn_app (goodIn_of _ (by decide +kernel)) ggX4_find_X4_mayBeFound
set_option maxRecDepth 20000 in
theorem ggX4_find_X4_isFound : GoodIn wsX4_find wsX4_isFound := goodIn_r _ [18, 19, 7, 20, 21, 22, 12, 13, 10, 14, 30, 31, 32, 33, 34, 35, 36, 37, 38, 39, 40, 41, 42, 43, 44, 45] (by decide +kernel) (by decide +kernel)
set_option maxRecDepth 20000 in
theorem gX4_find_X4_isFound : GoodIn wsX4_find (wsV RX4 97 RX4 yX4_isFound wsX4_isFound) := goodIn_app (goodIn_of _ (by decide +kernel)) ggX4_find_X4_isFound
set_option maxRecDepth 20000 in
theorem ggX4_find_X4_bits : GoodIn wsX4_find wsX4_bits := goodIn_r _ [25] (by decide +kernel) (by decide +kernel)
set_option maxRecDepth 20000 in
theorem gX4_find_X4_bits : GoodIn wsX4_find (va_wsS RX4 101 yX4_bits wsX4_bits) := goodIn_app (goodIn_of _ (by decide +kernel)) ggX4_find_X4_bits
set_option maxRecDepth 20000 in
theorem ggX4_find_X4_sizeOf : GoodIn wsX4_find wsX4_sizeOf := goodIn_r _ [29, 3, 4, 30, 31, 32, 33, 34, 35, 36, 37, 38, 39, 40, 41, 42, 43, 44, 45] (by decide +kernel) (by decide +kernel)
set_option maxRecDepth 20000 in
theorem gX4_find_X4_sizeOf : GoodIn wsX4_find (wsV RX4 104 RX4 yX4_sizeOf wsX4_sizeOf) := goodIn_app (goodIn_of _ (by decide +kernel)) ggX4_find_X4_sizeOf
theorem dX4_find_0 : decode cX4_find 0 = .ok (.aload_n 0, 1) := by decide +kernel
theorem dX4_find_1 : decode cX4_find 1 = .ok (.iconst 0, 1) := by decide +kernel
theorem dX4_find_2 : decode cX4_find 2 = .ok (.putfield 45, 3) := by decide +kernel
theorem dX4_find_5 : decode cX4_find 5 = .ok (.iload_n 1, 1) := by decide +kernel
theorem dX4_find_6 : decode cX4_find 6 = .ok (.iload_n 2, 1) := by decide +kernel
theorem dX4_find_7 : decode cX4_find 7 = .ok (.iload_n 3, 1) := by decide +kernel
theorem dX4_find_8 : decode cX4_find 8 = .ok (.invokestatic 94, 3) := by decide +kernel
theorem dX4_find_11 : decode cX4_find 11 = .ok (.ifCond .ne 6, 3) := by decide +kernel
theorem dX4_find_14 : decode cX4_find 14 = .ok (.bipush (-2), 2) := by decide +kernel
theorem dX4_find_16 : decode cX4_find 16 = .ok (.ireturn, 1) := by decide +kernel
theorem dX4_find_17 : decode cX4_find 17 = .ok (.aload_n 0, 1) := by decide +kernel
theorem dX4_find_18 : decode cX4_find 18 = .ok (.getfield 59, 3) := by decide +kernel
theorem dX4_find_21 : decode cX4_find 21 = .ok (.bipush 8, 2) := by decide +kernel
theorem dX4_find_23 : decode cX4_find 23 = .ok (.if_icmp .ne 6, 3) := by decide +kernel
theorem dX4_find_26 : decode cX4_find 26 = .ok (.bipush (-4), 2) := by decide +kernel
theorem dX4_find_28 : decode cX4_find 28 = .ok (.ireturn, 1) := by decide +kernel
theorem dX4_find_29 : decode cX4_find 29 = .ok (.iconst 0, 1) := by decide +kernel
theorem dX4_find_30 : decode cX4_find 30 = .ok (.istore 4, 2) := by decide +kernel
theorem dX4_find_32 : decode cX4_find 32 = .ok (.iload 4, 2) := by decide +kernel
theorem dX4_find_34 : decode cX4_find 34 = .ok (.aload_n 0, 1) := by decide +kernel
theorem dX4_find_35 : decode cX4_find 35 = .ok (.getfield 49, 3) := by decide +kernel
theorem dX4_find_38 : decode cX4_find 38 = .ok (.if_icmp .ge 107, 3) := by decide +kernel
theorem dX4_find_41 : decode cX4_find 41 = .ok (.aload_n 0, 1) := by decide +kernel
theorem dX4_find_42 : decode cX4_find 42 = .ok (.getfield 32, 3) := by decide +kernel
theorem dX4_find_45 : decode cX4_find 45 = .ok (.sipush 200, 3) := by decide +kernel
theorem dX4_find_48 : decode cX4_find 48 = .ok (.aload_n 0, 1) := by decide +kernel
theorem dX4_find_49 : decode cX4_find 49 = .ok (.getfield 59, 3) := by decide +kernel
theorem dX4_find_52 : decode cX4_find 52 = .ok (.imul, 1) := by decide +kernel
theorem dX4_find_53 : decode cX4_find 53 = .ok (.iload 4, 2) := by decide +kernel
theorem dX4_find_55 : decode cX4_find 55 = .ok (.iadd, 1) := by decide +kernel
theorem dX4_find_56 : decode cX4_find 56 = .ok (.aload_n 0, 1) := by decide +kernel
theorem dX4_find_57 : decode cX4_find 57 = .ok (.getfield 25, 3) := by decide +kernel
theorem dX4_find_60 : decode cX4_find 60 = .ok (.iload 4, 2) := by decide +kernel
theorem dX4_find_62 : decode cX4_find 62 = .ok (.baload, 1) := by decide +kernel
theorem dX4_find_63 : decode cX4_find 63 = .ok (.ifCond .eq 19, 3) := by decide +kernel
theorem dX4_find_66 : decode cX4_find 66 = .ok (.aload_n 0, 1) := by decide +kernel
theorem dX4_find_67 : decode cX4_find 67 = .ok (.iload 4, 2) := by decide +kernel
theorem dX4_find_69 : decode cX4_find 69 = .ok (.iload_n 1, 1) := by decide +kernel
theorem dX4_find_70 : decode cX4_find 70 = .ok (.iload_n 2, 1) := by decide +kernel
theorem dX4_find_71 : decode cX4_find 71 = .ok (.iload_n 3, 1) := by decide +kernel
theorem dX4_find_72 : decode cX4_find 72 = .ok (.invokevirtual 97, 3) := by decide +kernel
theorem dX4_find_75 : decode cX4_find 75 = .ok (.ifCond .eq 7, 3) := by decide +kernel
theorem dX4_find_78 : decode cX4_find 78 = .ok (.iconst 1, 1) := by decide +kernel
theorem dX4_find_79 : decode cX4_find 79 = .ok (.goto 4, 3) := by decide +kernel
theorem dX4_find_82 : decode cX4_find 82 = .ok (.iconst 0, 1) := by decide +kernel
theorem dX4_find_83 : decode cX4_find 83 = .ok (.bastore, 1) := by decide +kernel
theorem dX4_find_84 : decode cX4_find 84 = .ok (.aload_n 0, 1) := by decide +kernel
theorem dX4_find_85 : decode cX4_find 85 = .ok (.getfield 35, 3) := by decide +kernel
theorem dX4_find_88 : decode cX4_find 88 = .ok (.sipush 200, 3) := by decide +kernel
theorem dX4_find_91 : decode cX4_find 91 = .ok (.aload_n 0, 1) := by decide +kernel
theorem dX4_find_92 : decode cX4_find 92 = .ok (.getfield 59, 3) := by decide +kernel
theorem dX4_find_95 : decode cX4_find 95 = .ok (.imul, 1) := by decide +kernel
theorem dX4_find_96 : decode cX4_find 96 = .ok (.iload 4, 2) := by decide +kernel
theorem dX4_find_98 : decode cX4_find 98 = .ok (.iadd, 1) := by decide +kernel
theorem dX4_find_99 : decode cX4_find 99 = .ok (.iload_n 1, 1) := by decide +kernel
theorem dX4_find_100 : decode cX4_find 100 = .ok (.iconst 1, 1) := by decide +kernel
theorem dX4_find_101 : decode cX4_find 101 = .ok (.if_icmp .ne 11, 3) := by decide +kernel
theorem dX4_find_104 : decode cX4_find 104 = .ok (.iload_n 2, 1) := by decide +kernel
theorem dX4_find_105 : decode cX4_find 105 = .ok (.invokestatic 101, 3) := by decide +kernel
theorem dX4_find_108 : decode cX4_find 108 = .ok (.i2l, 1) := by decide +kernel
theorem dX4_find_109 : decode cX4_find 109 = .ok (.goto 29, 3) := by decide +kernel
theorem dX4_find_112 : decode cX4_find 112 = .ok (.iload_n 1, 1) := by decide +kernel
theorem dX4_find_113 : decode cX4_find 113 = .ok (.iconst 2, 1) := by decide +kernel
theorem dX4_find_114 : decode cX4_find 114 = .ok (.if_icmp .ne 14, 3) := by decide +kernel
theorem dX4_find_117 : decode cX4_find 117 = .ok (.aload_n 0, 1) := by decide +kernel
theorem dX4_find_118 : decode cX4_find 118 = .ok (.getfield 13, 3) := by decide +kernel
theorem dX4_find_121 : decode cX4_find 121 = .ok (.iload 4, 2) := by decide +kernel
theorem dX4_find_123 : decode cX4_find 123 = .ok (.iaload, 1) := by decide +kernel
theorem dX4_find_124 : decode cX4_find 124 = .ok (.i2l, 1) := by decide +kernel
theorem dX4_find_125 : decode cX4_find 125 = .ok (.goto 13, 3) := by decide +kernel
theorem dX4_find_128 : decode cX4_find 128 = .ok (.iload_n 1, 1) := by decide +kernel
theorem dX4_find_129 : decode cX4_find 129 = .ok (.iconst 4, 1) := by decide +kernel
theorem dX4_find_130 : decode cX4_find 130 = .ok (.if_icmp .lt 7, 3) := by decide +kernel
theorem dX4_find_133 : decode cX4_find 133 = .ok (.lconst 1, 1) := by decide +kernel
theorem dX4_find_134 : decode cX4_find 134 = .ok (.goto 4, 3) := by decide +kernel
theorem dX4_find_137 : decode cX4_find 137 = .ok (.lconst 0, 1) := by decide +kernel
theorem dX4_find_138 : decode cX4_find 138 = .ok (.lastore, 1) := by decide +kernel
theorem dX4_find_139 : decode cX4_find 139 = .ok (.iinc 4 1, 3) := by decide +kernel
theorem dX4_find_142 : decode cX4_find 142 = .ok (.goto (-110), 3) := by decide +kernel
theorem dX4_find_145 : decode cX4_find 145 = .ok (.aload_n 0, 1) := by decide +kernel
theorem dX4_find_146 : decode cX4_find 146 = .ok (.dup, 1) := by decide +kernel
theorem dX4_find_147 : decode cX4_find 147 = .ok (.getfield 59, 3) := by decide +kernel
theorem dX4_find_150 : decode cX4_find 150 = .ok (.iconst 1, 1) := by decide +kernel
theorem dX4_find_151 : decode cX4_find 151 = .ok (.iadd, 1) := by decide +kernel
theorem dX4_find_152 : decode cX4_find 152 = .ok (.putfield 59, 3) := by decide +kernel
theorem dX4_find_155 : decode cX4_find 155 = .ok (.aload_n 0, 1) := by decide +kernel
theorem dX4_find_156 : decode cX4_find 156 = .ok (.aload_n 0, 1) := by decide +kernel
theorem dX4_find_157 : decode cX4_find 157 = .ok (.getfield 59, 3) := by decide +kernel
theorem dX4_find_160 : decode cX4_find 160 = .ok (.iconst 1, 1) := by decide +kernel
theorem dX4_find_161 : decode cX4_find 161 = .ok (.isub, 1) := by decide +kernel
theorem dX4_find_162 : decode cX4_find 162 = .ok (.invokevirtual 104, 3) := by decide +kernel
theorem dX4_find_165 : decode cX4_find 165 = .ok (.ireturn, 1) := by decide +kernel
set_option maxRecDepth 20000 in
theorem ggX4_join_X4_isIn : GoodIn wsX4_join wsX4_isIn := goodIn_r _ [9] (by decide +kernel) (by decide +kernel)
set_option maxRecDepth 20000 in
theorem gX4_join_X4_isIn : GoodIn wsX4_join (va_wsS RX4 52 yX4_isIn wsX4_isIn) := goodIn_app (goodIn_of _ (by decide +kernel)) ggX4_join_X4_isIn
set_option maxRecDepth 20000 in
theorem ggX4_join_X4_sizeOf : GoodIn wsX4_join wsX4_sizeOf := goodIn_r _ [13, 3, 4, 14, 15, 16, 17, 18, 19, 20, 21, 22, 23, 24, 25, 26, 27, 28, 29] (by decide +kernel) (by decide +kernel)
set_option maxRecDepth 20000 in
theorem gX4_join_X4_sizeOf : GoodIn wsX4_join (wsV RX4 104 RX4 yX4_sizeOf wsX4_sizeOf) := goodIn_app (goodIn_of _ (by decide +kernel)) ggX4_join_X4_sizeOf
theorem dX4_join_0 : decode cX4_join 0 = .ok (.aload_n 0, 1) := by decide +kernel
theorem dX4_join_1 : decode cX4_join 1 = .ok (.iconst 0, 1) := by decide +kernel
theorem dX4_join_2 : decode cX4_join 2 = .ok (.putfield 45, 3) := by decide +kernel
theorem dX4_join_5 : decode cX4_join 5 = .ok (.iload_n 1, 1) := by decide +kernel
theorem dX4_join_6 : decode cX4_join 6 = .ok (.iconst 0, 1) := by decide +kernel
theorem dX4_join_7 : decode cX4_join 7 = .ok (.iconst 2, 1) := by decide +kernel
theorem dX4_join_8 : decode cX4_join 8 = .ok (.invokestatic 52, 3) := by decide +kernel
theorem dX4_join_11 : decode cX4_join 11 = .ok (.ifCond .ne 6, 3) := by decide +kernel
theorem dX4_join_14 : decode cX4_join 14 = .ok (.bipush (-2), 2) := by decide +kernel
theorem dX4_join_16 : decode cX4_join 16 = .ok (.ireturn, 1) := by decide +kernel
theorem dX4_join_17 : decode cX4_join 17 = .ok (.aload_n 0, 1) := by decide +kernel
theorem dX4_join_18 : decode cX4_join 18 = .ok (.getfield 59, 3) := by decide +kernel
theorem dX4_join_21 : decode cX4_join 21 = .ok (.iconst 2, 1) := by decide +kernel
theorem dX4_join_22 : decode cX4_join 22 = .ok (.if_icmp .ge 6, 3) := by decide +kernel
theorem dX4_join_25 : decode cX4_join 25 = .ok (.bipush (-3), 2) := by decide +kernel
theorem dX4_join_27 : decode cX4_join 27 = .ok (.ireturn, 1) := by decide +kernel
theorem dX4_join_28 : decode cX4_join 28 = .ok (.sipush 200, 3) := by decide +kernel
theorem dX4_join_31 : decode cX4_join 31 = .ok (.aload_n 0, 1) := by decide +kernel
theorem dX4_join_32 : decode cX4_join 32 = .ok (.getfield 59, 3) := by decide +kernel
theorem dX4_join_35 : decode cX4_join 35 = .ok (.iconst 2, 1) := by decide +kernel
theorem dX4_join_36 : decode cX4_join 36 = .ok (.isub, 1) := by decide +kernel
theorem dX4_join_37 : decode cX4_join 37 = .ok (.imul, 1) := by decide +kernel
theorem dX4_join_38 : decode cX4_join 38 = .ok (.istore_n 2, 1) := by decide +kernel
theorem dX4_join_39 : decode cX4_join 39 = .ok (.sipush 200, 3) := by decide +kernel
theorem dX4_join_42 : decode cX4_join 42 = .ok (.aload_n 0, 1) := by decide +kernel
theorem dX4_join_43 : decode cX4_join 43 = .ok (.getfield 59, 3) := by decide +kernel
theorem dX4_join_46 : decode cX4_join 46 = .ok (.iconst 1, 1) := by decide +kernel
theorem dX4_join_47 : decode cX4_join 47 = .ok (.isub, 1) := by decide +kernel
theorem dX4_join_48 : decode cX4_join 48 = .ok (.imul, 1) := by decide +kernel
theorem dX4_join_49 : decode cX4_join 49 = .ok (.istore_n 3, 1) := by decide +kernel
theorem dX4_join_50 : decode cX4_join 50 = .ok (.iconst 0, 1) := by decide +kernel
theorem dX4_join_51 : decode cX4_join 51 = .ok (.istore 4, 2) := by decide +kernel
theorem dX4_join_53 : decode cX4_join 53 = .ok (.iload 4, 2) := by decide +kernel
theorem dX4_join_55 : decode cX4_join 55 = .ok (.aload_n 0, 1) := by decide +kernel
theorem dX4_join_56 : decode cX4_join 56 = .ok (.getfield 49, 3) := by decide +kernel
theorem dX4_join_59 : decode cX4_join 59 = .ok (.if_icmp .ge 151, 3) := by decide +kernel
theorem dX4_join_62 : decode cX4_join 62 = .ok (.aload_n 0, 1) := by decide +kernel
theorem dX4_join_63 : decode cX4_join 63 = .ok (.getfield 32, 3) := by decide +kernel
theorem dX4_join_66 : decode cX4_join 66 = .ok (.iload_n 2, 1) := by decide +kernel
theorem dX4_join_67 : decode cX4_join 67 = .ok (.iload 4, 2) := by decide +kernel
theorem dX4_join_69 : decode cX4_join 69 = .ok (.iadd, 1) := by decide +kernel
theorem dX4_join_70 : decode cX4_join 70 = .ok (.baload, 1) := by decide +kernel
theorem dX4_join_71 : decode cX4_join 71 = .ok (.istore 5, 2) := by decide +kernel
theorem dX4_join_73 : decode cX4_join 73 = .ok (.aload_n 0, 1) := by decide +kernel
theorem dX4_join_74 : decode cX4_join 74 = .ok (.getfield 32, 3) := by decide +kernel
theorem dX4_join_77 : decode cX4_join 77 = .ok (.iload_n 3, 1) := by decide +kernel
theorem dX4_join_78 : decode cX4_join 78 = .ok (.iload 4, 2) := by decide +kernel
theorem dX4_join_80 : decode cX4_join 80 = .ok (.iadd, 1) := by decide +kernel
theorem dX4_join_81 : decode cX4_join 81 = .ok (.baload, 1) := by decide +kernel
theorem dX4_join_82 : decode cX4_join 82 = .ok (.istore 6, 2) := by decide +kernel
theorem dX4_join_84 : decode cX4_join 84 = .ok (.iload_n 1, 1) := by decide +kernel
theorem dX4_join_85 : decode cX4_join 85 = .ok (.iconst 2, 1) := by decide +kernel
theorem dX4_join_86 : decode cX4_join 86 = .ok (.if_icmp .ge 49, 3) := by decide +kernel
theorem dX4_join_89 : decode cX4_join 89 = .ok (.aload_n 0, 1) := by decide +kernel
theorem dX4_join_90 : decode cX4_join 90 = .ok (.getfield 35, 3) := by decide +kernel
theorem dX4_join_93 : decode cX4_join 93 = .ok (.iload_n 2, 1) := by decide +kernel
theorem dX4_join_94 : decode cX4_join 94 = .ok (.iload 4, 2) := by decide +kernel
theorem dX4_join_96 : decode cX4_join 96 = .ok (.iadd, 1) := by decide +kernel
theorem dX4_join_97 : decode cX4_join 97 = .ok (.iload 5, 2) := by decide +kernel
theorem dX4_join_99 : decode cX4_join 99 = .ok (.ifCond .eq 15, 3) := by decide +kernel
theorem dX4_join_102 : decode cX4_join 102 = .ok (.aload_n 0, 1) := by decide +kernel
theorem dX4_join_103 : decode cX4_join 103 = .ok (.getfield 35, 3) := by decide +kernel
theorem dX4_join_106 : decode cX4_join 106 = .ok (.iload_n 2, 1) := by decide +kernel
theorem dX4_join_107 : decode cX4_join 107 = .ok (.iload 4, 2) := by decide +kernel
theorem dX4_join_109 : decode cX4_join 109 = .ok (.iadd, 1) := by decide +kernel
theorem dX4_join_110 : decode cX4_join 110 = .ok (.laload, 1) := by decide +kernel
theorem dX4_join_111 : decode cX4_join 111 = .ok (.goto 4, 3) := by decide +kernel
theorem dX4_join_114 : decode cX4_join 114 = .ok (.lconst 0, 1) := by decide +kernel
theorem dX4_join_115 : decode cX4_join 115 = .ok (.iload 6, 2) := by decide +kernel
theorem dX4_join_117 : decode cX4_join 117 = .ok (.ifCond .eq 15, 3) := by decide +kernel
theorem dX4_join_120 : decode cX4_join 120 = .ok (.aload_n 0, 1) := by decide +kernel
theorem dX4_join_121 : decode cX4_join 121 = .ok (.getfield 35, 3) := by decide +kernel
theorem dX4_join_124 : decode cX4_join 124 = .ok (.iload_n 3, 1) := by decide +kernel
theorem dX4_join_125 : decode cX4_join 125 = .ok (.iload 4, 2) := by decide +kernel
theorem dX4_join_127 : decode cX4_join 127 = .ok (.iadd, 1) := by decide +kernel
theorem dX4_join_128 : decode cX4_join 128 = .ok (.laload, 1) := by decide +kernel
theorem dX4_join_129 : decode cX4_join 129 = .ok (.goto 4, 3) := by decide +kernel
theorem dX4_join_132 : decode cX4_join 132 = .ok (.lconst 0, 1) := by decide +kernel
theorem dX4_join_133 : decode cX4_join 133 = .ok (.ladd, 1) := by decide +kernel
theorem dX4_join_134 : decode cX4_join 134 = .ok (.lastore, 1) := by decide +kernel
theorem dX4_join_135 : decode cX4_join 135 = .ok (.aload_n 0, 1) := by decide +kernel
theorem dX4_join_136 : decode cX4_join 136 = .ok (.getfield 32, 3) := by decide +kernel
theorem dX4_join_139 : decode cX4_join 139 = .ok (.iload_n 2, 1) := by decide +kernel
theorem dX4_join_140 : decode cX4_join 140 = .ok (.iload 4, 2) := by decide +kernel
theorem dX4_join_142 : decode cX4_join 142 = .ok (.iadd, 1) := by decide +kernel
theorem dX4_join_143 : decode cX4_join 143 = .ok (.iload_n 1, 1) := by decide +kernel
theorem dX4_join_144 : decode cX4_join 144 = .ok (.ifCond .ne 21, 3) := by decide +kernel
theorem dX4_join_147 : decode cX4_join 147 = .ok (.iload 5, 2) := by decide +kernel
theorem dX4_join_149 : decode cX4_join 149 = .ok (.ifCond .eq 12, 3) := by decide +kernel
theorem dX4_join_152 : decode cX4_join 152 = .ok (.iload 6, 2) := by decide +kernel
theorem dX4_join_154 : decode cX4_join 154 = .ok (.ifCond .eq 7, 3) := by decide +kernel
theorem dX4_join_157 : decode cX4_join 157 = .ok (.iconst 1, 1) := by decide +kernel
theorem dX4_join_158 : decode cX4_join 158 = .ok (.goto 45, 3) := by decide +kernel
theorem dX4_join_161 : decode cX4_join 161 = .ok (.iconst 0, 1) := by decide +kernel
theorem dX4_join_162 : decode cX4_join 162 = .ok (.goto 41, 3) := by decide +kernel
theorem dX4_join_165 : decode cX4_join 165 = .ok (.iload_n 1, 1) := by decide +kernel
theorem dX4_join_166 : decode cX4_join 166 = .ok (.iconst 1, 1) := by decide +kernel
theorem dX4_join_167 : decode cX4_join 167 = .ok (.if_icmp .ne 21, 3) := by decide +kernel
theorem dX4_join_170 : decode cX4_join 170 = .ok (.iload 5, 2) := by decide +kernel
theorem dX4_join_172 : decode cX4_join 172 = .ok (.ifCond .ne 8, 3) := by decide +kernel
theorem dX4_join_175 : decode cX4_join 175 = .ok (.iload 6, 2) := by decide +kernel
theorem dX4_join_177 : decode cX4_join 177 = .ok (.ifCond .eq 7, 3) := by decide +kernel
theorem dX4_join_180 : decode cX4_join 180 = .ok (.iconst 1, 1) := by decide +kernel
theorem dX4_join_181 : decode cX4_join 181 = .ok (.goto 22, 3) := by decide +kernel
theorem dX4_join_184 : decode cX4_join 184 = .ok (.iconst 0, 1) := by decide +kernel
theorem dX4_join_185 : decode cX4_join 185 = .ok (.goto 18, 3) := by decide +kernel
theorem dX4_join_188 : decode cX4_join 188 = .ok (.iload 5, 2) := by decide +kernel
theorem dX4_join_190 : decode cX4_join 190 = .ok (.ifCond .eq 12, 3) := by decide +kernel
theorem dX4_join_193 : decode cX4_join 193 = .ok (.iload 6, 2) := by decide +kernel
theorem dX4_join_195 : decode cX4_join 195 = .ok (.ifCond .ne 7, 3) := by decide +kernel
theorem dX4_join_198 : decode cX4_join 198 = .ok (.iconst 1, 1) := by decide +kernel
theorem dX4_join_199 : decode cX4_join 199 = .ok (.goto 4, 3) := by decide +kernel
theorem dX4_join_202 : decode cX4_join 202 = .ok (.iconst 0, 1) := by decide +kernel
theorem dX4_join_203 : decode cX4_join 203 = .ok (.bastore, 1) := by decide +kernel
theorem dX4_join_204 : decode cX4_join 204 = .ok (.iinc 4 1, 3) := by decide +kernel
theorem dX4_join_207 : decode cX4_join 207 = .ok (.goto (-154), 3) := by decide +kernel
theorem dX4_join_210 : decode cX4_join 210 = .ok (.aload_n 0, 1) := by decide +kernel
theorem dX4_join_211 : decode cX4_join 211 = .ok (.dup, 1) := by decide +kernel
theorem dX4_join_212 : decode cX4_join 212 = .ok (.getfield 59, 3) := by decide +kernel
theorem dX4_join_215 : decode cX4_join 215 = .ok (.iconst 1, 1) := by decide +kernel
theorem dX4_join_216 : decode cX4_join 216 = .ok (.isub, 1) := by decide +kernel
theorem dX4_join_217 : decode cX4_join 217 = .ok (.putfield 59, 3) := by decide +kernel
theorem dX4_join_220 : decode cX4_join 220 = .ok (.aload_n 0, 1) := by decide +kernel
theorem dX4_join_221 : decode cX4_join 221 = .ok (.aload_n 0, 1) := by decide +kernel
theorem dX4_join_222 : decode cX4_join 222 = .ok (.getfield 59, 3) := by decide +kernel
theorem dX4_join_225 : decode cX4_join 225 = .ok (.iconst 1, 1) := by decide +kernel
theorem dX4_join_226 : decode cX4_join 226 = .ok (.isub, 1) := by decide +kernel
theorem dX4_join_227 : decode cX4_join 227 = .ok (.invokevirtual 104, 3) := by decide +kernel
theorem dX4_join_230 : decode cX4_join 230 = .ok (.ireturn, 1) := by decide +kernel
theorem dX4_takeLast_0 : decode cX4_takeLast 0 = .ok (.sipush 200, 3) := by decide +kernel
theorem dX4_takeLast_3 : decode cX4_takeLast 3 = .ok (.aload_n 0, 1) := by decide +kernel
theorem dX4_takeLast_4 : decode cX4_takeLast 4 = .ok (.getfield 59, 3) := by decide +kernel
theorem dX4_takeLast_7 : decode cX4_takeLast 7 = .ok (.iconst 1, 1) := by decide +kernel
theorem dX4_takeLast_8 : decode cX4_takeLast 8 = .ok (.isub, 1) := by decide +kernel
theorem dX4_takeLast_9 : decode cX4_takeLast 9 = .ok (.imul, 1) := by decide +kernel
theorem dX4_takeLast_10 : decode cX4_takeLast 10 = .ok (.istore_n 1, 1) := by decide +kernel
theorem dX4_takeLast_11 : decode cX4_takeLast 11 = .ok (.iconst 0, 1) := by decide +kernel
theorem dX4_takeLast_12 : decode cX4_takeLast 12 = .ok (.istore_n 2, 1) := by decide +kernel
theorem dX4_takeLast_13 : decode cX4_takeLast 13 = .ok (.iload_n 2, 1) := by decide +kernel
theorem dX4_takeLast_14 : decode cX4_takeLast 14 = .ok (.aload_n 0, 1) := by decide +kernel
theorem dX4_takeLast_15 : decode cX4_takeLast 15 = .ok (.getfield 49, 3) := by decide +kernel
theorem dX4_takeLast_18 : decode cX4_takeLast 18 = .ok (.if_icmp .ge 55, 3) := by decide +kernel
theorem dX4_takeLast_21 : decode cX4_takeLast 21 = .ok (.aload_n 0, 1) := by decide +kernel
theorem dX4_takeLast_22 : decode cX4_takeLast 22 = .ok (.getfield 39, 3) := by decide +kernel
theorem dX4_takeLast_25 : decode cX4_takeLast 25 = .ok (.iload_n 2, 1) := by decide +kernel
theorem dX4_takeLast_26 : decode cX4_takeLast 26 = .ok (.aload_n 0, 1) := by decide +kernel
theorem dX4_takeLast_27 : decode cX4_takeLast 27 = .ok (.getfield 32, 3) := by decide +kernel
theorem dX4_takeLast_30 : decode cX4_takeLast 30 = .ok (.iload_n 1, 1) := by decide +kernel
theorem dX4_takeLast_31 : decode cX4_takeLast 31 = .ok (.iload_n 2, 1) := by decide +kernel
theorem dX4_takeLast_32 : decode cX4_takeLast 32 = .ok (.iadd, 1) := by decide +kernel
theorem dX4_takeLast_33 : decode cX4_takeLast 33 = .ok (.baload, 1) := by decide +kernel
theorem dX4_takeLast_34 : decode cX4_takeLast 34 = .ok (.bastore, 1) := by decide +kernel
theorem dX4_takeLast_35 : decode cX4_takeLast 35 = .ok (.aload_n 0, 1) := by decide +kernel
theorem dX4_takeLast_36 : decode cX4_takeLast 36 = .ok (.getfield 42, 3) := by decide +kernel
theorem dX4_takeLast_39 : decode cX4_takeLast 39 = .ok (.iload_n 2, 1) := by decide +kernel
theorem dX4_takeLast_40 : decode cX4_takeLast 40 = .ok (.aload_n 0, 1) := by decide +kernel
theorem dX4_takeLast_41 : decode cX4_takeLast 41 = .ok (.getfield 35, 3) := by decide +kernel
theorem dX4_takeLast_44 : decode cX4_takeLast 44 = .ok (.iload_n 1, 1) := by decide +kernel
theorem dX4_takeLast_45 : decode cX4_takeLast 45 = .ok (.iload_n 2, 1) := by decide +kernel
theorem dX4_takeLast_46 : decode cX4_takeLast 46 = .ok (.iadd, 1) := by decide +kernel
theorem dX4_takeLast_47 : decode cX4_takeLast 47 = .ok (.laload, 1) := by decide +kernel
theorem dX4_takeLast_48 : decode cX4_takeLast 48 = .ok (.lastore, 1) := by decide +kernel
theorem dX4_takeLast_49 : decode cX4_takeLast 49 = .ok (.aload_n 0, 1) := by decide +kernel
theorem dX4_takeLast_50 : decode cX4_takeLast 50 = .ok (.getfield 32, 3) := by decide +kernel
theorem dX4_takeLast_53 : decode cX4_takeLast 53 = .ok (.iload_n 1, 1) := by decide +kernel
theorem dX4_takeLast_54 : decode cX4_takeLast 54 = .ok (.iload_n 2, 1) := by decide +kernel
theorem dX4_takeLast_55 : decode cX4_takeLast 55 = .ok (.iadd, 1) := by decide +kernel
theorem dX4_takeLast_56 : decode cX4_takeLast 56 = .ok (.iconst 0, 1) := by decide +kernel
theorem dX4_takeLast_57 : decode cX4_takeLast 57 = .ok (.bastore, 1) := by decide +kernel
theorem dX4_takeLast_58 : decode cX4_takeLast 58 = .ok (.aload_n 0, 1) := by decide +kernel
theorem dX4_takeLast_59 : decode cX4_takeLast 59 = .ok (.getfield 35, 3) := by decide +kernel
theorem dX4_takeLast_62 : decode cX4_takeLast 62 = .ok (.iload_n 1, 1) := by decide +kernel
theorem dX4_takeLast_63 : decode cX4_takeLast 63 = .ok (.iload_n 2, 1) := by decide +kernel
theorem dX4_takeLast_64 : decode cX4_takeLast 64 = .ok (.iadd, 1) := by decide +kernel
theorem dX4_takeLast_65 : decode cX4_takeLast 65 = .ok (.lconst 0, 1) := by decide +kernel
theorem dX4_takeLast_66 : decode cX4_takeLast 66 = .ok (.lastore, 1) := by decide +kernel
theorem dX4_takeLast_67 : decode cX4_takeLast 67 = .ok (.iinc 2 1, 3) := by decide +kernel
theorem dX4_takeLast_70 : decode cX4_takeLast 70 = .ok (.goto (-57), 3) := by decide +kernel
theorem dX4_takeLast_73 : decode cX4_takeLast 73 = .ok (.return_, 1) := by decide +kernel
set_option maxRecDepth 20000 in
theorem ggX4_up_X4_isIn : GoodIn wsX4_up wsX4_isIn := goodIn_r _ [13] (by decide +kernel) (by decide +kernel)
set_option maxRecDepth 20000 in
theorem gX4_up_X4_isIn : GoodIn wsX4_up (va_wsS RX4 52 yX4_isIn wsX4_isIn) := goodIn_app (goodIn_of _ (by decide +kernel)) ggX4_up_X4_isIn
set_option maxRecDepth 20000 in
theorem ggX4_up_X4_takeLast : GoodIn wsX4_up wsX4_takeLast := goodIn_r _ [17, 2, 4, 6, 5, 8, 7, 30, 31, 32, 33, 34, 35, 36, 37, 38, 39, 40, 41, 42, 43, 44, 45] (by decide +kernel) (by decide +kernel)
set_option maxRecDepth 20000 in
theorem gX4_up_X4_takeLast : GoodIn wsX4_up (wsV RX4 107 RX4 yX4_takeLast wsX4_takeLast) := goodIn_app (goodIn_of _ (by decide +kernel)) ggX4_up_X4_takeLast
set_option maxRecDepth 20000 in
theorem ggX4_up_X4_isAbove : GoodIn wsX4_up wsX4_isAbove := goodIn_r _ [21, 22, 23, 24, 12, 25, 9, 30, 31, 32, 33, 34, 35, 36, 37, 38, 39, 40, 41, 42, 43, 44, 45] (by decide +kernel) (by decide +kernel)
set_option maxRecDepth 20000 in
theorem gX4_up_X4_isAbove : GoodIn wsX4_up (wsV RX4 83 RX4 yX4_isAbove wsX4_isAbove) := goodIn_app (goodIn_of _ (by decide +kernel)) ggX4_up_X4_isAbove
set_option maxRecDepth 20000 in
theorem ggX4_up_X4_sizeOf : GoodIn wsX4_up wsX4_sizeOf := goodIn_r _ [29, 4, 5, 30, 31, 32, 33, 34, 35, 36, 37, 38, 39, 40, 41, 42, 43, 44, 45] (by decide +kernel) (by decide +kernel)
set_option maxRecDepth 20000 in
theorem gX4_up_X4_sizeOf : GoodIn wsX4_up (wsV RX4 104 RX4 yX4_sizeOf wsX4_sizeOf) := goodIn_app (goodIn_of _ (by decide +kernel)) ggX4_up_X4_sizeOf
theorem dX4_up_0 : decode cX4_up 0 = .ok (.aload_n 0, 1) := by decide +kernel
theorem dX4_up_1 : decode cX4_up 1 = .ok (.iconst 0, 1) := by decide +kernel
theorem dX4_up_2 : decode cX4_up 2 = .ok (.putfield 45, 3) := by decide +kernel
theorem dX4_up_5 : decode cX4_up 5 = .ok (.iload_n 1, 1) := by decide +kernel
theorem dX4_up_6 : decode cX4_up 6 = .ok (.iconst 1, 1) := by decide +kernel
theorem dX4_up_7 : decode cX4_up 7 = .ok (.iconst 2, 1) := by decide +kernel
theorem dX4_up_8 : decode cX4_up 8 = .ok (.invokestatic 52, 3) := by decide +kernel
theorem dX4_up_11 : decode cX4_up 11 = .ok (.ifCond .eq 12, 3) := by decide +kernel
theorem dX4_up_14 : decode cX4_up 14 = .ok (.iload_n 2, 1) := by decide +kernel
theorem dX4_up_15 : decode cX4_up 15 = .ok (.iconst 0, 1) := by decide +kernel
theorem dX4_up_16 : decode cX4_up 16 = .ok (.iconst 4, 1) := by decide +kernel
theorem dX4_up_17 : decode cX4_up 17 = .ok (.invokestatic 52, 3) := by decide +kernel
theorem dX4_up_20 : decode cX4_up 20 = .ok (.ifCond .ne 6, 3) := by decide +kernel
theorem dX4_up_23 : decode cX4_up 23 = .ok (.bipush (-2), 2) := by decide +kernel
theorem dX4_up_25 : decode cX4_up 25 = .ok (.ireturn, 1) := by decide +kernel
theorem dX4_up_26 : decode cX4_up 26 = .ok (.aload_n 0, 1) := by decide +kernel
theorem dX4_up_27 : decode cX4_up 27 = .ok (.getfield 59, 3) := by decide +kernel
theorem dX4_up_30 : decode cX4_up 30 = .ok (.ifCond .ne 6, 3) := by decide +kernel
theorem dX4_up_33 : decode cX4_up 33 = .ok (.bipush (-3), 2) := by decide +kernel
theorem dX4_up_35 : decode cX4_up 35 = .ok (.ireturn, 1) := by decide +kernel
theorem dX4_up_36 : decode cX4_up 36 = .ok (.aload_n 0, 1) := by decide +kernel
theorem dX4_up_37 : decode cX4_up 37 = .ok (.invokevirtual 107, 3) := by decide +kernel
theorem dX4_up_40 : decode cX4_up 40 = .ok (.aload_n 0, 1) := by decide +kernel
theorem dX4_up_41 : decode cX4_up 41 = .ok (.iconst 1, 1) := by decide +kernel
theorem dX4_up_42 : decode cX4_up 42 = .ok (.putfield 62, 3) := by decide +kernel
theorem dX4_up_45 : decode cX4_up 45 = .ok (.iconst 0, 1) := by decide +kernel
theorem dX4_up_46 : decode cX4_up 46 = .ok (.istore_n 3, 1) := by decide +kernel
theorem dX4_up_47 : decode cX4_up 47 = .ok (.iload_n 3, 1) := by decide +kernel
theorem dX4_up_48 : decode cX4_up 48 = .ok (.aload_n 0, 1) := by decide +kernel
theorem dX4_up_49 : decode cX4_up 49 = .ok (.getfield 49, 3) := by decide +kernel
theorem dX4_up_52 : decode cX4_up 52 = .ok (.if_icmp .ge 41, 3) := by decide +kernel
theorem dX4_up_55 : decode cX4_up 55 = .ok (.aload_n 0, 1) := by decide +kernel
theorem dX4_up_56 : decode cX4_up 56 = .ok (.getfield 32, 3) := by decide +kernel
theorem dX4_up_59 : decode cX4_up 59 = .ok (.sipush 1600, 3) := by decide +kernel
theorem dX4_up_62 : decode cX4_up 62 = .ok (.iload_n 3, 1) := by decide +kernel
theorem dX4_up_63 : decode cX4_up 63 = .ok (.iadd, 1) := by decide +kernel
theorem dX4_up_64 : decode cX4_up 64 = .ok (.aload_n 0, 1) := by decide +kernel
theorem dX4_up_65 : decode cX4_up 65 = .ok (.getfield 39, 3) := by decide +kernel
theorem dX4_up_68 : decode cX4_up 68 = .ok (.iload_n 3, 1) := by decide +kernel
theorem dX4_up_69 : decode cX4_up 69 = .ok (.baload, 1) := by decide +kernel
theorem dX4_up_70 : decode cX4_up 70 = .ok (.bastore, 1) := by decide +kernel
theorem dX4_up_71 : decode cX4_up 71 = .ok (.aload_n 0, 1) := by decide +kernel
theorem dX4_up_72 : decode cX4_up 72 = .ok (.getfield 35, 3) := by decide +kernel
theorem dX4_up_75 : decode cX4_up 75 = .ok (.sipush 1600, 3) := by decide +kernel
theorem dX4_up_78 : decode cX4_up 78 = .ok (.iload_n 3, 1) := by decide +kernel
theorem dX4_up_79 : decode cX4_up 79 = .ok (.iadd, 1) := by decide +kernel
theorem dX4_up_80 : decode cX4_up 80 = .ok (.aload_n 0, 1) := by decide +kernel
theorem dX4_up_81 : decode cX4_up 81 = .ok (.getfield 42, 3) := by decide +kernel
theorem dX4_up_84 : decode cX4_up 84 = .ok (.iload_n 3, 1) := by decide +kernel
theorem dX4_up_85 : decode cX4_up 85 = .ok (.laload, 1) := by decide +kernel
theorem dX4_up_86 : decode cX4_up 86 = .ok (.lastore, 1) := by decide +kernel
theorem dX4_up_87 : decode cX4_up 87 = .ok (.iinc 3 1, 3) := by decide +kernel
theorem dX4_up_90 : decode cX4_up 90 = .ok (.goto (-43), 3) := by decide +kernel
theorem dX4_up_93 : decode cX4_up 93 = .ok (.sipush 200, 3) := by decide +kernel
theorem dX4_up_96 : decode cX4_up 96 = .ok (.aload_n 0, 1) := by decide +kernel
theorem dX4_up_97 : decode cX4_up 97 = .ok (.getfield 59, 3) := by decide +kernel
theorem dX4_up_100 : decode cX4_up 100 = .ok (.iconst 1, 1) := by decide +kernel
theorem dX4_up_101 : decode cX4_up 101 = .ok (.isub, 1) := by decide +kernel
theorem dX4_up_102 : decode cX4_up 102 = .ok (.imul, 1) := by decide +kernel
theorem dX4_up_103 : decode cX4_up 103 = .ok (.istore_n 3, 1) := by decide +kernel
theorem dX4_up_104 : decode cX4_up 104 = .ok (.iconst 0, 1) := by decide +kernel
theorem dX4_up_105 : decode cX4_up 105 = .ok (.istore 4, 2) := by decide +kernel
theorem dX4_up_107 : decode cX4_up 107 = .ok (.iload 4, 2) := by decide +kernel
theorem dX4_up_109 : decode cX4_up 109 = .ok (.aload_n 0, 1) := by decide +kernel
theorem dX4_up_110 : decode cX4_up 110 = .ok (.getfield 49, 3) := by decide +kernel
theorem dX4_up_113 : decode cX4_up 113 = .ok (.if_icmp .ge 223, 3) := by decide +kernel
theorem dX4_up_116 : decode cX4_up 116 = .ok (.aload_n 0, 1) := by decide +kernel
theorem dX4_up_117 : decode cX4_up 117 = .ok (.getfield 7, 3) := by decide +kernel
theorem dX4_up_120 : decode cX4_up 120 = .ok (.iload 4, 2) := by decide +kernel
theorem dX4_up_122 : decode cX4_up 122 = .ok (.iaload, 1) := by decide +kernel
theorem dX4_up_123 : decode cX4_up 123 = .ok (.iload_n 1, 1) := by decide +kernel
theorem dX4_up_124 : decode cX4_up 124 = .ok (.if_icmp .eq 6, 3) := by decide +kernel
theorem dX4_up_127 : decode cX4_up 127 = .ok (.goto 203, 3) := by decide +kernel
theorem dX4_up_130 : decode cX4_up 130 = .ok (.lconst 0, 1) := by decide +kernel
theorem dX4_up_131 : decode cX4_up 131 = .ok (.lstore 5, 2) := by decide +kernel
theorem dX4_up_133 : decode cX4_up 133 = .ok (.lconst 0, 1) := by decide +kernel
theorem dX4_up_134 : decode cX4_up 134 = .ok (.lstore 7, 2) := by decide +kernel
theorem dX4_up_136 : decode cX4_up 136 = .ok (.lconst 0, 1) := by decide +kernel
theorem dX4_up_137 : decode cX4_up 137 = .ok (.lstore 9, 2) := by decide +kernel
theorem dX4_up_139 : decode cX4_up 139 = .ok (.iconst 0, 1) := by decide +kernel
theorem dX4_up_140 : decode cX4_up 140 = .ok (.istore 11, 2) := by decide +kernel
theorem dX4_up_142 : decode cX4_up 142 = .ok (.iconst 0, 1) := by decide +kernel
theorem dX4_up_143 : decode cX4_up 143 = .ok (.istore 12, 2) := by decide +kernel
theorem dX4_up_145 : decode cX4_up 145 = .ok (.iload 12, 2) := by decide +kernel
theorem dX4_up_147 : decode cX4_up 147 = .ok (.aload_n 0, 1) := by decide +kernel
theorem dX4_up_148 : decode cX4_up 148 = .ok (.getfield 49, 3) := by decide +kernel
theorem dX4_up_151 : decode cX4_up 151 = .ok (.if_icmp .ge 109, 3) := by decide +kernel
theorem dX4_up_154 : decode cX4_up 154 = .ok (.aload_n 0, 1) := by decide +kernel
theorem dX4_up_155 : decode cX4_up 155 = .ok (.getfield 39, 3) := by decide +kernel
theorem dX4_up_158 : decode cX4_up 158 = .ok (.iload 12, 2) := by decide +kernel
theorem dX4_up_160 : decode cX4_up 160 = .ok (.baload, 1) := by decide +kernel
theorem dX4_up_161 : decode cX4_up 161 = .ok (.ifCond .eq 93, 3) := by decide +kernel
theorem dX4_up_164 : decode cX4_up 164 = .ok (.aload_n 0, 1) := by decide +kernel
theorem dX4_up_165 : decode cX4_up 165 = .ok (.iload 4, 2) := by decide +kernel
theorem dX4_up_167 : decode cX4_up 167 = .ok (.iload 12, 2) := by decide +kernel
theorem dX4_up_169 : decode cX4_up 169 = .ok (.invokevirtual 83, 3) := by decide +kernel
theorem dX4_up_172 : decode cX4_up 172 = .ok (.ifCond .eq 82, 3) := by decide +kernel
theorem dX4_up_175 : decode cX4_up 175 = .ok (.lload 5, 2) := by decide +kernel
theorem dX4_up_177 : decode cX4_up 177 = .ok (.aload_n 0, 1) := by decide +kernel
theorem dX4_up_178 : decode cX4_up 178 = .ok (.getfield 42, 3) := by decide +kernel
theorem dX4_up_181 : decode cX4_up 181 = .ok (.iload 12, 2) := by decide +kernel
theorem dX4_up_183 : decode cX4_up 183 = .ok (.laload, 1) := by decide +kernel
theorem dX4_up_184 : decode cX4_up 184 = .ok (.ladd, 1) := by decide +kernel
theorem dX4_up_185 : decode cX4_up 185 = .ok (.lstore 5, 2) := by decide +kernel
theorem dX4_up_187 : decode cX4_up 187 = .ok (.iload 11, 2) := by decide +kernel
theorem dX4_up_189 : decode cX4_up 189 = .ok (.ifCond .eq 16, 3) := by decide +kernel
theorem dX4_up_192 : decode cX4_up 192 = .ok (.aload_n 0, 1) := by decide +kernel
theorem dX4_up_193 : decode cX4_up 193 = .ok (.getfield 42, 3) := by decide +kernel
theorem dX4_up_196 : decode cX4_up 196 = .ok (.iload 12, 2) := by decide +kernel
theorem dX4_up_198 : decode cX4_up 198 = .ok (.laload, 1) := by decide +kernel
theorem dX4_up_199 : decode cX4_up 199 = .ok (.lload 7, 2) := by decide +kernel
theorem dX4_up_201 : decode cX4_up 201 = .ok (.lcmp, 1) := by decide +kernel
theorem dX4_up_202 : decode cX4_up 202 = .ok (.ifCond .le 13, 3) := by decide +kernel
theorem dX4_up_205 : decode cX4_up 205 = .ok (.aload_n 0, 1) := by decide +kernel
theorem dX4_up_206 : decode cX4_up 206 = .ok (.getfield 42, 3) := by decide +kernel
theorem dX4_up_209 : decode cX4_up 209 = .ok (.iload 12, 2) := by decide +kernel
theorem dX4_up_211 : decode cX4_up 211 = .ok (.laload, 1) := by decide +kernel
theorem dX4_up_212 : decode cX4_up 212 = .ok (.goto 5, 3) := by decide +kernel
theorem dX4_up_215 : decode cX4_up 215 = .ok (.lload 7, 2) := by decide +kernel
theorem dX4_up_217 : decode cX4_up 217 = .ok (.lstore 7, 2) := by decide +kernel
theorem dX4_up_219 : decode cX4_up 219 = .ok (.iload 11, 2) := by decide +kernel
theorem dX4_up_221 : decode cX4_up 221 = .ok (.ifCond .eq 16, 3) := by decide +kernel
theorem dX4_up_224 : decode cX4_up 224 = .ok (.aload_n 0, 1) := by decide +kernel
theorem dX4_up_225 : decode cX4_up 225 = .ok (.getfield 42, 3) := by decide +kernel
theorem dX4_up_228 : decode cX4_up 228 = .ok (.iload 12, 2) := by decide +kernel
theorem dX4_up_230 : decode cX4_up 230 = .ok (.laload, 1) := by decide +kernel
theorem dX4_up_231 : decode cX4_up 231 = .ok (.lload 9, 2) := by decide +kernel
theorem dX4_up_233 : decode cX4_up 233 = .ok (.lcmp, 1) := by decide +kernel
theorem dX4_up_234 : decode cX4_up 234 = .ok (.ifCond .ge 13, 3) := by decide +kernel
theorem dX4_up_237 : decode cX4_up 237 = .ok (.aload_n 0, 1) := by decide +kernel
theorem dX4_up_238 : decode cX4_up 238 = .ok (.getfield 42, 3) := by decide +kernel
theorem dX4_up_241 : decode cX4_up 241 = .ok (.iload 12, 2) := by decide +kernel
theorem dX4_up_243 : decode cX4_up 243 = .ok (.laload, 1) := by decide +kernel
theorem dX4_up_244 : decode cX4_up 244 = .ok (.goto 5, 3) := by decide +kernel
theorem dX4_up_247 : decode cX4_up 247 = .ok (.lload 9, 2) := by decide +kernel
theorem dX4_up_249 : decode cX4_up 249 = .ok (.lstore 9, 2) := by decide +kernel
theorem dX4_up_251 : decode cX4_up 251 = .ok (.iinc 11 1, 3) := by decide +kernel
theorem dX4_up_254 : decode cX4_up 254 = .ok (.iinc 12 1, 3) := by decide +kernel
theorem dX4_up_257 : decode cX4_up 257 = .ok (.goto (-112), 3) := by decide +kernel
theorem dX4_up_260 : decode cX4_up 260 = .ok (.iload 11, 2) := by decide +kernel
theorem dX4_up_262 : decode cX4_up 262 = .ok (.ifCond .le 68, 3) := by decide +kernel
theorem dX4_up_265 : decode cX4_up 265 = .ok (.aload_n 0, 1) := by decide +kernel
theorem dX4_up_266 : decode cX4_up 266 = .ok (.getfield 32, 3) := by decide +kernel
theorem dX4_up_269 : decode cX4_up 269 = .ok (.iload_n 3, 1) := by decide +kernel
theorem dX4_up_270 : decode cX4_up 270 = .ok (.iload 4, 2) := by decide +kernel
theorem dX4_up_272 : decode cX4_up 272 = .ok (.iadd, 1) := by decide +kernel
theorem dX4_up_273 : decode cX4_up 273 = .ok (.iconst 1, 1) := by decide +kernel
theorem dX4_up_274 : decode cX4_up 274 = .ok (.bastore, 1) := by decide +kernel
theorem dX4_up_275 : decode cX4_up 275 = .ok (.aload_n 0, 1) := by decide +kernel
theorem dX4_up_276 : decode cX4_up 276 = .ok (.getfield 35, 3) := by decide +kernel
theorem dX4_up_279 : decode cX4_up 279 = .ok (.iload_n 3, 1) := by decide +kernel
theorem dX4_up_280 : decode cX4_up 280 = .ok (.iload 4, 2) := by decide +kernel
theorem dX4_up_282 : decode cX4_up 282 = .ok (.iadd, 1) := by decide +kernel
theorem dX4_up_283 : decode cX4_up 283 = .ok (.iload_n 2, 1) := by decide +kernel
theorem dX4_up_284 : decode cX4_up 284 = .ok (.ifCond .ne 8, 3) := by decide +kernel
theorem dX4_up_287 : decode cX4_up 287 = .ok (.lload 5, 2) := by decide +kernel
theorem dX4_up_289 : decode cX4_up 289 = .ok (.goto 40, 3) := by decide +kernel
theorem dX4_up_292 : decode cX4_up 292 = .ok (.iload_n 2, 1) := by decide +kernel
theorem dX4_up_293 : decode cX4_up 293 = .ok (.iconst 1, 1) := by decide +kernel
theorem dX4_up_294 : decode cX4_up 294 = .ok (.if_icmp .ne 8, 3) := by decide +kernel
theorem dX4_up_297 : decode cX4_up 297 = .ok (.lload 7, 2) := by decide +kernel
theorem dX4_up_299 : decode cX4_up 299 = .ok (.goto 30, 3) := by decide +kernel
theorem dX4_up_302 : decode cX4_up 302 = .ok (.iload_n 2, 1) := by decide +kernel
theorem dX4_up_303 : decode cX4_up 303 = .ok (.iconst 2, 1) := by decide +kernel
theorem dX4_up_304 : decode cX4_up 304 = .ok (.if_icmp .ne 8, 3) := by decide +kernel
theorem dX4_up_307 : decode cX4_up 307 = .ok (.lload 9, 2) := by decide +kernel
theorem dX4_up_309 : decode cX4_up 309 = .ok (.goto 20, 3) := by decide +kernel
theorem dX4_up_312 : decode cX4_up 312 = .ok (.iload_n 2, 1) := by decide +kernel
theorem dX4_up_313 : decode cX4_up 313 = .ok (.iconst 3, 1) := by decide +kernel
theorem dX4_up_314 : decode cX4_up 314 = .ok (.if_icmp .ne 9, 3) := by decide +kernel
theorem dX4_up_317 : decode cX4_up 317 = .ok (.iload 11, 2) := by decide +kernel
theorem dX4_up_319 : decode cX4_up 319 = .ok (.i2l, 1) := by decide +kernel
theorem dX4_up_320 : decode cX4_up 320 = .ok (.goto 9, 3) := by decide +kernel
theorem dX4_up_323 : decode cX4_up 323 = .ok (.lload 5, 2) := by decide +kernel
theorem dX4_up_325 : decode cX4_up 325 = .ok (.iload 11, 2) := by decide +kernel
theorem dX4_up_327 : decode cX4_up 327 = .ok (.i2l, 1) := by decide +kernel
theorem dX4_up_328 : decode cX4_up 328 = .ok (.ldiv, 1) := by decide +kernel
theorem dX4_up_329 : decode cX4_up 329 = .ok (.lastore, 1) := by decide +kernel
theorem dX4_up_330 : decode cX4_up 330 = .ok (.iinc 4 1, 3) := by decide +kernel
theorem dX4_up_333 : decode cX4_up 333 = .ok (.goto (-226), 3) := by decide +kernel
theorem dX4_up_336 : decode cX4_up 336 = .ok (.aload_n 0, 1) := by decide +kernel
theorem dX4_up_337 : decode cX4_up 337 = .ok (.aload_n 0, 1) := by decide +kernel
theorem dX4_up_338 : decode cX4_up 338 = .ok (.getfield 59, 3) := by decide +kernel
theorem dX4_up_341 : decode cX4_up 341 = .ok (.iconst 1, 1) := by decide +kernel
theorem dX4_up_342 : decode cX4_up 342 = .ok (.isub, 1) := by decide +kernel
theorem dX4_up_343 : decode cX4_up 343 = .ok (.invokevirtual 104, 3) := by decide +kernel
theorem dX4_up_346 : decode cX4_up 346 = .ok (.ireturn, 1) := by decide +kernel
set_option maxRecDepth 20000 in
theorem ggX4_down_X4_isIn : GoodIn wsX4_down wsX4_isIn := goodIn_r _ [12] (by decide +kernel) (by decide +kernel)
set_option maxRecDepth 20000 in
theorem gX4_down_X4_isIn : GoodIn wsX4_down (va_wsS RX4 52 yX4_isIn wsX4_isIn) := goodIn_app (goodIn_of _ (by decide +kernel)) ggX4_down_X4_isIn
set_option maxRecDepth 20000 in
theorem ggX4_down_X4_takeLast : GoodIn wsX4_down wsX4_takeLast := goodIn_r _ [16, 2, 3, 5, 6, 8, 7, 25, 26, 27, 28, 29, 30, 31, 32, 33, 34, 35, 36, 37, 38, 39, 40] (by decide +kernel) (by decide +kernel)
set_option maxRecDepth 20000 in
theorem gX4_down_X4_takeLast : GoodIn wsX4_down (wsV RX4 107 RX4 yX4_takeLast wsX4_takeLast) := goodIn_app (goodIn_of _ (by decide +kernel)) ggX4_down_X4_takeLast
set_option maxRecDepth 20000 in
theorem ggX4_down_X4_parent : GoodIn wsX4_down wsX4_parent := goodIn_r _ [20, 4, 25, 26, 27, 28, 29, 30, 31, 32, 33, 34, 35, 36, 37, 38, 39, 40] (by decide +kernel) (by decide +kernel)
set_option maxRecDepth 20000 in
theorem gX4_down_X4_parent : GoodIn wsX4_down (wsV RX4 80 RX4 yX4_parent wsX4_parent) := goodIn_app (goodIn_of _ (by decide +kernel)) ggX4_down_X4_parent
set_option maxRecDepth 20000 in
theorem ggX4_down_X4_sizeOf : GoodIn wsX4_down wsX4_sizeOf := goodIn_r _ [24, 3, 6, 25, 26, 27, 28, 29, 30, 31, 32, 33, 34, 35, 36, 37, 38, 39, 40] (by decide +kernel) (by decide +kernel)
set_option maxRecDepth 20000 in
theorem gX4_down_X4_sizeOf : GoodIn wsX4_down (wsV RX4 104 RX4 yX4_sizeOf wsX4_sizeOf) := goodIn_app (goodIn_of _ (by decide +kernel)) ggX4_down_X4_sizeOf
theorem dX4_down_0 : decode cX4_down 0 = .ok (.aload_n 0, 1) := by decide +kernel
theorem dX4_down_1 : decode cX4_down 1 = .ok (.iconst 0, 1) := by decide +kernel
theorem dX4_down_2 : decode cX4_down 2 = .ok (.putfield 45, 3) := by decide +kernel
theorem dX4_down_5 : decode cX4_down 5 = .ok (.iload_n 1, 1) := by decide +kernel
theorem dX4_down_6 : decode cX4_down 6 = .ok (.iconst 0, 1) := by decide +kernel
theorem dX4_down_7 : decode cX4_down 7 = .ok (.iconst 1, 1) := by decide +kernel
theorem dX4_down_8 : decode cX4_down 8 = .ok (.invokestatic 52, 3) := by decide +kernel
theorem dX4_down_11 : decode cX4_down 11 = .ok (.ifCond .ne 6, 3) := by decide +kernel
theorem dX4_down_14 : decode cX4_down 14 = .ok (.bipush (-2), 2) := by decide +kernel
theorem dX4_down_16 : decode cX4_down 16 = .ok (.ireturn, 1) := by decide +kernel
theorem dX4_down_17 : decode cX4_down 17 = .ok (.aload_n 0, 1) := by decide +kernel
theorem dX4_down_18 : decode cX4_down 18 = .ok (.getfield 59, 3) := by decide +kernel
theorem dX4_down_21 : decode cX4_down 21 = .ok (.ifCond .ne 6, 3) := by decide +kernel
theorem dX4_down_24 : decode cX4_down 24 = .ok (.bipush (-3), 2) := by decide +kernel
theorem dX4_down_26 : decode cX4_down 26 = .ok (.ireturn, 1) := by decide +kernel
theorem dX4_down_27 : decode cX4_down 27 = .ok (.aload_n 0, 1) := by decide +kernel
theorem dX4_down_28 : decode cX4_down 28 = .ok (.invokevirtual 107, 3) := by decide +kernel
theorem dX4_down_31 : decode cX4_down 31 = .ok (.sipush 200, 3) := by decide +kernel
theorem dX4_down_34 : decode cX4_down 34 = .ok (.aload_n 0, 1) := by decide +kernel
theorem dX4_down_35 : decode cX4_down 35 = .ok (.getfield 59, 3) := by decide +kernel
theorem dX4_down_38 : decode cX4_down 38 = .ok (.iconst 1, 1) := by decide +kernel
theorem dX4_down_39 : decode cX4_down 39 = .ok (.isub, 1) := by decide +kernel
theorem dX4_down_40 : decode cX4_down 40 = .ok (.imul, 1) := by decide +kernel
theorem dX4_down_41 : decode cX4_down 41 = .ok (.istore_n 2, 1) := by decide +kernel
theorem dX4_down_42 : decode cX4_down 42 = .ok (.iconst 0, 1) := by decide +kernel
theorem dX4_down_43 : decode cX4_down 43 = .ok (.istore_n 3, 1) := by decide +kernel
theorem dX4_down_44 : decode cX4_down 44 = .ok (.iload_n 3, 1) := by decide +kernel
theorem dX4_down_45 : decode cX4_down 45 = .ok (.aload_n 0, 1) := by decide +kernel
theorem dX4_down_46 : decode cX4_down 46 = .ok (.getfield 49, 3) := by decide +kernel
theorem dX4_down_49 : decode cX4_down 49 = .ok (.if_icmp .ge 79, 3) := by decide +kernel
theorem dX4_down_52 : decode cX4_down 52 = .ok (.aload_n 0, 1) := by decide +kernel
theorem dX4_down_53 : decode cX4_down 53 = .ok (.iload_n 3, 1) := by decide +kernel
theorem dX4_down_54 : decode cX4_down 54 = .ok (.invokevirtual 80, 3) := by decide +kernel
theorem dX4_down_57 : decode cX4_down 57 = .ok (.istore 4, 2) := by decide +kernel
theorem dX4_down_59 : decode cX4_down 59 = .ok (.iload 4, 2) := by decide +kernel
theorem dX4_down_61 : decode cX4_down 61 = .ok (.ifCond .lt 61, 3) := by decide +kernel
theorem dX4_down_64 : decode cX4_down 64 = .ok (.aload_n 0, 1) := by decide +kernel
theorem dX4_down_65 : decode cX4_down 65 = .ok (.getfield 7, 3) := by decide +kernel
theorem dX4_down_68 : decode cX4_down 68 = .ok (.iload_n 3, 1) := by decide +kernel
theorem dX4_down_69 : decode cX4_down 69 = .ok (.iaload, 1) := by decide +kernel
theorem dX4_down_70 : decode cX4_down 70 = .ok (.iload_n 1, 1) := by decide +kernel
theorem dX4_down_71 : decode cX4_down 71 = .ok (.if_icmp .ne 51, 3) := by decide +kernel
theorem dX4_down_74 : decode cX4_down 74 = .ok (.aload_n 0, 1) := by decide +kernel
theorem dX4_down_75 : decode cX4_down 75 = .ok (.getfield 39, 3) := by decide +kernel
theorem dX4_down_78 : decode cX4_down 78 = .ok (.iload 4, 2) := by decide +kernel
theorem dX4_down_80 : decode cX4_down 80 = .ok (.baload, 1) := by decide +kernel
theorem dX4_down_81 : decode cX4_down 81 = .ok (.ifCond .eq 30, 3) := by decide +kernel
theorem dX4_down_84 : decode cX4_down 84 = .ok (.aload_n 0, 1) := by decide +kernel
theorem dX4_down_85 : decode cX4_down 85 = .ok (.getfield 32, 3) := by decide +kernel
theorem dX4_down_88 : decode cX4_down 88 = .ok (.iload_n 2, 1) := by decide +kernel
theorem dX4_down_89 : decode cX4_down 89 = .ok (.iload_n 3, 1) := by decide +kernel
theorem dX4_down_90 : decode cX4_down 90 = .ok (.iadd, 1) := by decide +kernel
theorem dX4_down_91 : decode cX4_down 91 = .ok (.iconst 1, 1) := by decide +kernel
theorem dX4_down_92 : decode cX4_down 92 = .ok (.bastore, 1) := by decide +kernel
theorem dX4_down_93 : decode cX4_down 93 = .ok (.aload_n 0, 1) := by decide +kernel
theorem dX4_down_94 : decode cX4_down 94 = .ok (.getfield 35, 3) := by decide +kernel
theorem dX4_down_97 : decode cX4_down 97 = .ok (.iload_n 2, 1) := by decide +kernel
theorem dX4_down_98 : decode cX4_down 98 = .ok (.iload_n 3, 1) := by decide +kernel
theorem dX4_down_99 : decode cX4_down 99 = .ok (.iadd, 1) := by decide +kernel
theorem dX4_down_100 : decode cX4_down 100 = .ok (.dup2, 1) := by decide +kernel
theorem dX4_down_101 : decode cX4_down 101 = .ok (.laload, 1) := by decide +kernel
theorem dX4_down_102 : decode cX4_down 102 = .ok (.aload_n 0, 1) := by decide +kernel
theorem dX4_down_103 : decode cX4_down 103 = .ok (.getfield 42, 3) := by decide +kernel
theorem dX4_down_106 : decode cX4_down 106 = .ok (.iload 4, 2) := by decide +kernel
theorem dX4_down_108 : decode cX4_down 108 = .ok (.laload, 1) := by decide +kernel
theorem dX4_down_109 : decode cX4_down 109 = .ok (.ladd, 1) := by decide +kernel
theorem dX4_down_110 : decode cX4_down 110 = .ok (.lastore, 1) := by decide +kernel
theorem dX4_down_111 : decode cX4_down 111 = .ok (.aload_n 0, 1) := by decide +kernel
theorem dX4_down_112 : decode cX4_down 112 = .ok (.iload 4, 2) := by decide +kernel
theorem dX4_down_114 : decode cX4_down 114 = .ok (.invokevirtual 80, 3) := by decide +kernel
theorem dX4_down_117 : decode cX4_down 117 = .ok (.istore 4, 2) := by decide +kernel
theorem dX4_down_119 : decode cX4_down 119 = .ok (.goto (-60), 3) := by decide +kernel
theorem dX4_down_122 : decode cX4_down 122 = .ok (.iinc 3 1, 3) := by decide +kernel
theorem dX4_down_125 : decode cX4_down 125 = .ok (.goto (-81), 3) := by decide +kernel
theorem dX4_down_128 : decode cX4_down 128 = .ok (.aload_n 0, 1) := by decide +kernel
theorem dX4_down_129 : decode cX4_down 129 = .ok (.aload_n 0, 1) := by decide +kernel
theorem dX4_down_130 : decode cX4_down 130 = .ok (.getfield 59, 3) := by decide +kernel
theorem dX4_down_133 : decode cX4_down 133 = .ok (.iconst 1, 1) := by decide +kernel
theorem dX4_down_134 : decode cX4_down 134 = .ok (.isub, 1) := by decide +kernel
theorem dX4_down_135 : decode cX4_down 135 = .ok (.invokevirtual 104, 3) := by decide +kernel
theorem dX4_down_138 : decode cX4_down 138 = .ok (.ireturn, 1) := by decide +kernel
set_option maxRecDepth 20000 in
theorem ggX4_over_X4_takeLast : GoodIn wsX4_over wsX4_takeLast := goodIn_r _ [16, 2, 3, 4, 9, 11, 10, 21, 22, 23, 24, 25, 26, 27, 28, 29, 30, 31, 32, 33, 34, 35, 36] (by decide +kernel) (by decide +kernel)
set_option maxRecDepth 20000 in
theorem gX4_over_X4_takeLast : GoodIn wsX4_over (wsV RX4 107 RX4 yX4_takeLast wsX4_takeLast) := goodIn_app (goodIn_of _ (by decide +kernel)) ggX4_over_X4_takeLast
set_option maxRecDepth 20000 in
theorem ggX4_over_X4_sizeOf : GoodIn wsX4_over wsX4_sizeOf := goodIn_r _ [20, 3, 9, 21, 22, 23, 24, 25, 26, 27, 28, 29, 30, 31, 32, 33, 34, 35, 36] (by decide +kernel) (by decide +kernel)
set_option maxRecDepth 20000 in
theorem gX4_over_X4_sizeOf : GoodIn wsX4_over (wsV RX4 104 RX4 yX4_sizeOf wsX4_sizeOf) := goodIn_app (goodIn_of _ (by decide +kernel)) ggX4_over_X4_sizeOf
theorem dX4_over_0 : decode cX4_over 0 = .ok (.aload_n 0, 1) := by decide +kernel
theorem dX4_over_1 : decode cX4_over 1 = .ok (.iconst 0, 1) := by decide +kernel
theorem dX4_over_2 : decode cX4_over 2 = .ok (.putfield 45, 3) := by decide +kernel
theorem dX4_over_5 : decode cX4_over 5 = .ok (.aload_n 0, 1) := by decide +kernel
theorem dX4_over_6 : decode cX4_over 6 = .ok (.getfield 59, 3) := by decide +kernel
theorem dX4_over_9 : decode cX4_over 9 = .ok (.ifCond .ne 6, 3) := by decide +kernel
theorem dX4_over_12 : decode cX4_over 12 = .ok (.bipush (-3), 2) := by decide +kernel
theorem dX4_over_14 : decode cX4_over 14 = .ok (.ireturn, 1) := by decide +kernel
theorem dX4_over_15 : decode cX4_over 15 = .ok (.aload_n 0, 1) := by decide +kernel
theorem dX4_over_16 : decode cX4_over 16 = .ok (.invokevirtual 107, 3) := by decide +kernel
theorem dX4_over_19 : decode cX4_over 19 = .ok (.sipush 200, 3) := by decide +kernel
theorem dX4_over_22 : decode cX4_over 22 = .ok (.aload_n 0, 1) := by decide +kernel
theorem dX4_over_23 : decode cX4_over 23 = .ok (.getfield 59, 3) := by decide +kernel
theorem dX4_over_26 : decode cX4_over 26 = .ok (.iconst 1, 1) := by decide +kernel
theorem dX4_over_27 : decode cX4_over 27 = .ok (.isub, 1) := by decide +kernel
theorem dX4_over_28 : decode cX4_over 28 = .ok (.imul, 1) := by decide +kernel
theorem dX4_over_29 : decode cX4_over 29 = .ok (.istore_n 1, 1) := by decide +kernel
theorem dX4_over_30 : decode cX4_over 30 = .ok (.iconst 0, 1) := by decide +kernel
theorem dX4_over_31 : decode cX4_over 31 = .ok (.istore_n 2, 1) := by decide +kernel
theorem dX4_over_32 : decode cX4_over 32 = .ok (.iload_n 2, 1) := by decide +kernel
theorem dX4_over_33 : decode cX4_over 33 = .ok (.aload_n 0, 1) := by decide +kernel
theorem dX4_over_34 : decode cX4_over 34 = .ok (.getfield 49, 3) := by decide +kernel
theorem dX4_over_37 : decode cX4_over 37 = .ok (.if_icmp .ge 91, 3) := by decide +kernel
theorem dX4_over_40 : decode cX4_over 40 = .ok (.iconst 0, 1) := by decide +kernel
theorem dX4_over_41 : decode cX4_over 41 = .ok (.istore_n 3, 1) := by decide +kernel
theorem dX4_over_42 : decode cX4_over 42 = .ok (.iload_n 3, 1) := by decide +kernel
theorem dX4_over_43 : decode cX4_over 43 = .ok (.aload_n 0, 1) := by decide +kernel
theorem dX4_over_44 : decode cX4_over 44 = .ok (.getfield 49, 3) := by decide +kernel
theorem dX4_over_47 : decode cX4_over 47 = .ok (.if_icmp .ge 75, 3) := by decide +kernel
theorem dX4_over_50 : decode cX4_over 50 = .ok (.aload_n 0, 1) := by decide +kernel
theorem dX4_over_51 : decode cX4_over 51 = .ok (.getfield 39, 3) := by decide +kernel
theorem dX4_over_54 : decode cX4_over 54 = .ok (.iload_n 2, 1) := by decide +kernel
theorem dX4_over_55 : decode cX4_over 55 = .ok (.baload, 1) := by decide +kernel
theorem dX4_over_56 : decode cX4_over 56 = .ok (.ifCond .eq 66, 3) := by decide +kernel
theorem dX4_over_59 : decode cX4_over 59 = .ok (.aload_n 0, 1) := by decide +kernel
theorem dX4_over_60 : decode cX4_over 60 = .ok (.getfield 7, 3) := by decide +kernel
theorem dX4_over_63 : decode cX4_over 63 = .ok (.iload_n 2, 1) := by decide +kernel
theorem dX4_over_64 : decode cX4_over 64 = .ok (.iaload, 1) := by decide +kernel
theorem dX4_over_65 : decode cX4_over 65 = .ok (.iconst 2, 1) := by decide +kernel
theorem dX4_over_66 : decode cX4_over 66 = .ok (.if_icmp .ne 56, 3) := by decide +kernel
theorem dX4_over_69 : decode cX4_over 69 = .ok (.aload_n 0, 1) := by decide +kernel
theorem dX4_over_70 : decode cX4_over 70 = .ok (.getfield 25, 3) := by decide +kernel
theorem dX4_over_73 : decode cX4_over 73 = .ok (.iload_n 3, 1) := by decide +kernel
theorem dX4_over_74 : decode cX4_over 74 = .ok (.baload, 1) := by decide +kernel
theorem dX4_over_75 : decode cX4_over 75 = .ok (.ifCond .eq 41, 3) := by decide +kernel
theorem dX4_over_78 : decode cX4_over 78 = .ok (.aload_n 0, 1) := by decide +kernel
theorem dX4_over_79 : decode cX4_over 79 = .ok (.getfield 19, 3) := by decide +kernel
theorem dX4_over_82 : decode cX4_over 82 = .ok (.iload_n 3, 1) := by decide +kernel
theorem dX4_over_83 : decode cX4_over 83 = .ok (.iaload, 1) := by decide +kernel
theorem dX4_over_84 : decode cX4_over 84 = .ok (.aload_n 0, 1) := by decide +kernel
theorem dX4_over_85 : decode cX4_over 85 = .ok (.getfield 22, 3) := by decide +kernel
theorem dX4_over_88 : decode cX4_over 88 = .ok (.iload_n 2, 1) := by decide +kernel
theorem dX4_over_89 : decode cX4_over 89 = .ok (.iaload, 1) := by decide +kernel
theorem dX4_over_90 : decode cX4_over 90 = .ok (.if_icmp .ne 26, 3) := by decide +kernel
theorem dX4_over_93 : decode cX4_over 93 = .ok (.aload_n 0, 1) := by decide +kernel
theorem dX4_over_94 : decode cX4_over 94 = .ok (.getfield 32, 3) := by decide +kernel
theorem dX4_over_97 : decode cX4_over 97 = .ok (.iload_n 1, 1) := by decide +kernel
theorem dX4_over_98 : decode cX4_over 98 = .ok (.iload_n 3, 1) := by decide +kernel
theorem dX4_over_99 : decode cX4_over 99 = .ok (.iadd, 1) := by decide +kernel
theorem dX4_over_100 : decode cX4_over 100 = .ok (.iconst 1, 1) := by decide +kernel
theorem dX4_over_101 : decode cX4_over 101 = .ok (.bastore, 1) := by decide +kernel
theorem dX4_over_102 : decode cX4_over 102 = .ok (.aload_n 0, 1) := by decide +kernel
theorem dX4_over_103 : decode cX4_over 103 = .ok (.getfield 35, 3) := by decide +kernel
theorem dX4_over_106 : decode cX4_over 106 = .ok (.iload_n 1, 1) := by decide +kernel
theorem dX4_over_107 : decode cX4_over 107 = .ok (.iload_n 3, 1) := by decide +kernel
theorem dX4_over_108 : decode cX4_over 108 = .ok (.iadd, 1) := by decide +kernel
theorem dX4_over_109 : decode cX4_over 109 = .ok (.aload_n 0, 1) := by decide +kernel
theorem dX4_over_110 : decode cX4_over 110 = .ok (.getfield 42, 3) := by decide +kernel
theorem dX4_over_113 : decode cX4_over 113 = .ok (.iload_n 2, 1) := by decide +kernel
theorem dX4_over_114 : decode cX4_over 114 = .ok (.laload, 1) := by decide +kernel
theorem dX4_over_115 : decode cX4_over 115 = .ok (.lastore, 1) := by decide +kernel
theorem dX4_over_116 : decode cX4_over 116 = .ok (.iinc 3 1, 3) := by decide +kernel
theorem dX4_over_119 : decode cX4_over 119 = .ok (.goto (-77), 3) := by decide +kernel
theorem dX4_over_122 : decode cX4_over 122 = .ok (.iinc 2 1, 3) := by decide +kernel
theorem dX4_over_125 : decode cX4_over 125 = .ok (.goto (-93), 3) := by decide +kernel
theorem dX4_over_128 : decode cX4_over 128 = .ok (.aload_n 0, 1) := by decide +kernel
theorem dX4_over_129 : decode cX4_over 129 = .ok (.aload_n 0, 1) := by decide +kernel
theorem dX4_over_130 : decode cX4_over 130 = .ok (.getfield 59, 3) := by decide +kernel
theorem dX4_over_133 : decode cX4_over 133 = .ok (.iconst 1, 1) := by decide +kernel
theorem dX4_over_134 : decode cX4_over 134 = .ok (.isub, 1) := by decide +kernel
theorem dX4_over_135 : decode cX4_over 135 = .ok (.invokevirtual 104, 3) := by decide +kernel
theorem dX4_over_138 : decode cX4_over 138 = .ok (.ireturn, 1) := by decide +kernel
theorem dX4_again_0 : decode cX4_again 0 = .ok (.aload_n 0, 1) := by decide +kernel
theorem dX4_again_1 : decode cX4_again 1 = .ok (.iconst 0, 1) := by decide +kernel
theorem dX4_again_2 : decode cX4_again 2 = .ok (.putfield 45, 3) := by decide +kernel
theorem dX4_again_5 : decode cX4_again 5 = .ok (.aload_n 0, 1) := by decide +kernel
theorem dX4_again_6 : decode cX4_again 6 = .ok (.getfield 59, 3) := by decide +kernel
theorem dX4_again_9 : decode cX4_again 9 = .ok (.ifCond .ne 6, 3) := by decide +kernel
theorem dX4_again_12 : decode cX4_again 12 = .ok (.bipush (-3), 2) := by decide +kernel
theorem dX4_again_14 : decode cX4_again 14 = .ok (.ireturn, 1) := by decide +kernel
theorem dX4_again_15 : decode cX4_again 15 = .ok (.aload_n 0, 1) := by decide +kernel
theorem dX4_again_16 : decode cX4_again 16 = .ok (.getfield 59, 3) := by decide +kernel
theorem dX4_again_19 : decode cX4_again 19 = .ok (.bipush 8, 2) := by decide +kernel
theorem dX4_again_21 : decode cX4_again 21 = .ok (.if_icmp .ne 6, 3) := by decide +kernel
theorem dX4_again_24 : decode cX4_again 24 = .ok (.bipush (-4), 2) := by decide +kernel
theorem dX4_again_26 : decode cX4_again 26 = .ok (.ireturn, 1) := by decide +kernel
theorem dX4_again_27 : decode cX4_again 27 = .ok (.iconst 0, 1) := by decide +kernel
theorem dX4_again_28 : decode cX4_again 28 = .ok (.istore_n 1, 1) := by decide +kernel
theorem dX4_again_29 : decode cX4_again 29 = .ok (.iload_n 1, 1) := by decide +kernel
theorem dX4_again_30 : decode cX4_again 30 = .ok (.aload_n 0, 1) := by decide +kernel
theorem dX4_again_31 : decode cX4_again 31 = .ok (.getfield 49, 3) := by decide +kernel
theorem dX4_again_34 : decode cX4_again 34 = .ok (.if_icmp .ge 73, 3) := by decide +kernel
theorem dX4_again_37 : decode cX4_again 37 = .ok (.aload_n 0, 1) := by decide +kernel
theorem dX4_again_38 : decode cX4_again 38 = .ok (.getfield 32, 3) := by decide +kernel
theorem dX4_again_41 : decode cX4_again 41 = .ok (.sipush 200, 3) := by decide +kernel
theorem dX4_again_44 : decode cX4_again 44 = .ok (.aload_n 0, 1) := by decide +kernel
theorem dX4_again_45 : decode cX4_again 45 = .ok (.getfield 59, 3) := by decide +kernel
theorem dX4_again_48 : decode cX4_again 48 = .ok (.imul, 1) := by decide +kernel
theorem dX4_again_49 : decode cX4_again 49 = .ok (.iload_n 1, 1) := by decide +kernel
theorem dX4_again_50 : decode cX4_again 50 = .ok (.iadd, 1) := by decide +kernel
theorem dX4_again_51 : decode cX4_again 51 = .ok (.aload_n 0, 1) := by decide +kernel
theorem dX4_again_52 : decode cX4_again 52 = .ok (.getfield 32, 3) := by decide +kernel
theorem dX4_again_55 : decode cX4_again 55 = .ok (.sipush 200, 3) := by decide +kernel
theorem dX4_again_58 : decode cX4_again 58 = .ok (.aload_n 0, 1) := by decide +kernel
theorem dX4_again_59 : decode cX4_again 59 = .ok (.getfield 59, 3) := by decide +kernel
theorem dX4_again_62 : decode cX4_again 62 = .ok (.iconst 1, 1) := by decide +kernel
theorem dX4_again_63 : decode cX4_again 63 = .ok (.isub, 1) := by decide +kernel
theorem dX4_again_64 : decode cX4_again 64 = .ok (.imul, 1) := by decide +kernel
theorem dX4_again_65 : decode cX4_again 65 = .ok (.iload_n 1, 1) := by decide +kernel
theorem dX4_again_66 : decode cX4_again 66 = .ok (.iadd, 1) := by decide +kernel
theorem dX4_again_67 : decode cX4_again 67 = .ok (.baload, 1) := by decide +kernel
theorem dX4_again_68 : decode cX4_again 68 = .ok (.bastore, 1) := by decide +kernel
theorem dX4_again_69 : decode cX4_again 69 = .ok (.aload_n 0, 1) := by decide +kernel
theorem dX4_again_70 : decode cX4_again 70 = .ok (.getfield 35, 3) := by decide +kernel
theorem dX4_again_73 : decode cX4_again 73 = .ok (.sipush 200, 3) := by decide +kernel
theorem dX4_again_76 : decode cX4_again 76 = .ok (.aload_n 0, 1) := by decide +kernel
theorem dX4_again_77 : decode cX4_again 77 = .ok (.getfield 59, 3) := by decide +kernel
theorem dX4_again_80 : decode cX4_again 80 = .ok (.imul, 1) := by decide +kernel
theorem dX4_again_81 : decode cX4_again 81 = .ok (.iload_n 1, 1) := by decide +kernel
theorem dX4_again_82 : decode cX4_again 82 = .ok (.iadd, 1) := by decide +kernel
theorem dX4_again_83 : decode cX4_again 83 = .ok (.aload_n 0, 1) := by decide +kernel
theorem dX4_again_84 : decode cX4_again 84 = .ok (.getfield 35, 3) := by decide +kernel
theorem dX4_again_87 : decode cX4_again 87 = .ok (.sipush 200, 3) := by decide +kernel
theorem dX4_again_90 : decode cX4_again 90 = .ok (.aload_n 0, 1) := by decide +kernel
theorem dX4_again_91 : decode cX4_again 91 = .ok (.getfield 59, 3) := by decide +kernel
theorem dX4_again_94 : decode cX4_again 94 = .ok (.iconst 1, 1) := by decide +kernel
theorem dX4_again_95 : decode cX4_again 95 = .ok (.isub, 1) := by decide +kernel
theorem dX4_again_96 : decode cX4_again 96 = .ok (.imul, 1) := by decide +kernel
theorem dX4_again_97 : decode cX4_again 97 = .ok (.iload_n 1, 1) := by decide +kernel
theorem dX4_again_98 : decode cX4_again 98 = .ok (.iadd, 1) := by decide +kernel
theorem dX4_again_99 : decode cX4_again 99 = .ok (.laload, 1) := by decide +kernel
theorem dX4_again_100 : decode cX4_again 100 = .ok (.lastore, 1) := by decide +kernel
theorem dX4_again_101 : decode cX4_again 101 = .ok (.iinc 1 1, 3) := by decide +kernel
theorem dX4_again_104 : decode cX4_again 104 = .ok (.goto (-75), 3) := by decide +kernel
theorem dX4_again_107 : decode cX4_again 107 = .ok (.aload_n 0, 1) := by decide +kernel
theorem dX4_again_108 : decode cX4_again 108 = .ok (.dup, 1) := by decide +kernel
theorem dX4_again_109 : decode cX4_again 109 = .ok (.getfield 59, 3) := by decide +kernel
theorem dX4_again_112 : decode cX4_again 112 = .ok (.iconst 1, 1) := by decide +kernel
theorem dX4_again_113 : decode cX4_again 113 = .ok (.iadd, 1) := by decide +kernel
theorem dX4_again_114 : decode cX4_again 114 = .ok (.putfield 59, 3) := by decide +kernel
theorem dX4_again_117 : decode cX4_again 117 = .ok (.aload_n 0, 1) := by decide +kernel
theorem dX4_again_118 : decode cX4_again 118 = .ok (.getfield 59, 3) := by decide +kernel
theorem dX4_again_121 : decode cX4_again 121 = .ok (.ireturn, 1) := by decide +kernel
theorem dX4_pop_0 : decode cX4_pop 0 = .ok (.aload_n 0, 1) := by decide +kernel
theorem dX4_pop_1 : decode cX4_pop 1 = .ok (.iconst 0, 1) := by decide +kernel
theorem dX4_pop_2 : decode cX4_pop 2 = .ok (.putfield 45, 3) := by decide +kernel
theorem dX4_pop_5 : decode cX4_pop 5 = .ok (.aload_n 0, 1) := by decide +kernel
theorem dX4_pop_6 : decode cX4_pop 6 = .ok (.getfield 59, 3) := by decide +kernel
theorem dX4_pop_9 : decode cX4_pop 9 = .ok (.ifCond .ne 6, 3) := by decide +kernel
theorem dX4_pop_12 : decode cX4_pop 12 = .ok (.bipush (-3), 2) := by decide +kernel
theorem dX4_pop_14 : decode cX4_pop 14 = .ok (.ireturn, 1) := by decide +kernel
theorem dX4_pop_15 : decode cX4_pop 15 = .ok (.aload_n 0, 1) := by decide +kernel
theorem dX4_pop_16 : decode cX4_pop 16 = .ok (.dup, 1) := by decide +kernel
theorem dX4_pop_17 : decode cX4_pop 17 = .ok (.getfield 59, 3) := by decide +kernel
theorem dX4_pop_20 : decode cX4_pop 20 = .ok (.iconst 1, 1) := by decide +kernel
theorem dX4_pop_21 : decode cX4_pop 21 = .ok (.isub, 1) := by decide +kernel
theorem dX4_pop_22 : decode cX4_pop 22 = .ok (.putfield 59, 3) := by decide +kernel
theorem dX4_pop_25 : decode cX4_pop 25 = .ok (.aload_n 0, 1) := by decide +kernel
theorem dX4_pop_26 : decode cX4_pop 26 = .ok (.getfield 59, 3) := by decide +kernel
theorem dX4_pop_29 : decode cX4_pop 29 = .ok (.ireturn, 1) := by decide +kernel
set_option maxRecDepth 20000 in
theorem ggX4_kth_X4_isAbove : GoodIn wsX4_kth wsX4_isAbove := goodIn_r _ [8, 9, 10, 11, 7, 12, 13, 14, 15, 16, 17, 18, 19, 20, 21, 22, 23, 24, 25, 26, 27, 28, 29] (by decide +kernel) (by decide +kernel)
set_option maxRecDepth 20000 in
theorem gX4_kth_X4_isAbove : GoodIn wsX4_kth (wsV RX4 83 RX4 yX4_isAbove wsX4_isAbove) := goodIn_app (goodIn_of _ (by decide +kernel)) ggX4_kth_X4_isAbove
theorem dX4_kth_0 : decode cX4_kth 0 = .ok (.iconst 0, 1) := by decide +kernel
theorem dX4_kth_1 : decode cX4_kth 1 = .ok (.istore 4, 2) := by decide +kernel
theorem dX4_kth_3 : decode cX4_kth 3 = .ok (.iconst (-1), 1) := by decide +kernel
theorem dX4_kth_4 : decode cX4_kth 4 = .ok (.istore 5, 2) := by decide +kernel
theorem dX4_kth_6 : decode cX4_kth 6 = .ok (.iconst 0, 1) := by decide +kernel
theorem dX4_kth_7 : decode cX4_kth 7 = .ok (.istore 6, 2) := by decide +kernel
theorem dX4_kth_9 : decode cX4_kth 9 = .ok (.iload 6, 2) := by decide +kernel
theorem dX4_kth_11 : decode cX4_kth 11 = .ok (.aload_n 0, 1) := by decide +kernel
theorem dX4_kth_12 : decode cX4_kth 12 = .ok (.getfield 49, 3) := by decide +kernel
theorem dX4_kth_15 : decode cX4_kth 15 = .ok (.if_icmp .ge 174, 3) := by decide +kernel
theorem dX4_kth_18 : decode cX4_kth 18 = .ok (.aload_n 0, 1) := by decide +kernel
theorem dX4_kth_19 : decode cX4_kth 19 = .ok (.getfield 32, 3) := by decide +kernel
theorem dX4_kth_22 : decode cX4_kth 22 = .ok (.sipush 200, 3) := by decide +kernel
theorem dX4_kth_25 : decode cX4_kth 25 = .ok (.iload_n 1, 1) := by decide +kernel
theorem dX4_kth_26 : decode cX4_kth 26 = .ok (.imul, 1) := by decide +kernel
theorem dX4_kth_27 : decode cX4_kth 27 = .ok (.iload 6, 2) := by decide +kernel
theorem dX4_kth_29 : decode cX4_kth 29 = .ok (.iadd, 1) := by decide +kernel
theorem dX4_kth_30 : decode cX4_kth 30 = .ok (.baload, 1) := by decide +kernel
theorem dX4_kth_31 : decode cX4_kth 31 = .ok (.ifCond .eq 152, 3) := by decide +kernel
theorem dX4_kth_34 : decode cX4_kth 34 = .ok (.iload_n 2, 1) := by decide +kernel
theorem dX4_kth_35 : decode cX4_kth 35 = .ok (.ifCond .lt 16, 3) := by decide +kernel
theorem dX4_kth_38 : decode cX4_kth 38 = .ok (.aload_n 0, 1) := by decide +kernel
theorem dX4_kth_39 : decode cX4_kth 39 = .ok (.iload_n 2, 1) := by decide +kernel
theorem dX4_kth_40 : decode cX4_kth 40 = .ok (.iload 6, 2) := by decide +kernel
theorem dX4_kth_42 : decode cX4_kth 42 = .ok (.invokevirtual 83, 3) := by decide +kernel
theorem dX4_kth_45 : decode cX4_kth 45 = .ok (.ifCond .ne 6, 3) := by decide +kernel
theorem dX4_kth_48 : decode cX4_kth 48 = .ok (.goto 135, 3) := by decide +kernel
theorem dX4_kth_51 : decode cX4_kth 51 = .ok (.iinc 4 1, 3) := by decide +kernel
theorem dX4_kth_54 : decode cX4_kth 54 = .ok (.iconst 0, 1) := by decide +kernel
theorem dX4_kth_55 : decode cX4_kth 55 = .ok (.istore 7, 2) := by decide +kernel
theorem dX4_kth_57 : decode cX4_kth 57 = .ok (.iconst 0, 1) := by decide +kernel
theorem dX4_kth_58 : decode cX4_kth 58 = .ok (.istore 8, 2) := by decide +kernel
theorem dX4_kth_60 : decode cX4_kth 60 = .ok (.iload 8, 2) := by decide +kernel
theorem dX4_kth_62 : decode cX4_kth 62 = .ok (.aload_n 0, 1) := by decide +kernel
theorem dX4_kth_63 : decode cX4_kth 63 = .ok (.getfield 49, 3) := by decide +kernel
theorem dX4_kth_66 : decode cX4_kth 66 = .ok (.if_icmp .ge 102, 3) := by decide +kernel
theorem dX4_kth_69 : decode cX4_kth 69 = .ok (.aload_n 0, 1) := by decide +kernel
theorem dX4_kth_70 : decode cX4_kth 70 = .ok (.getfield 32, 3) := by decide +kernel
theorem dX4_kth_73 : decode cX4_kth 73 = .ok (.sipush 200, 3) := by decide +kernel
theorem dX4_kth_76 : decode cX4_kth 76 = .ok (.iload_n 1, 1) := by decide +kernel
theorem dX4_kth_77 : decode cX4_kth 77 = .ok (.imul, 1) := by decide +kernel
theorem dX4_kth_78 : decode cX4_kth 78 = .ok (.iload 8, 2) := by decide +kernel
theorem dX4_kth_80 : decode cX4_kth 80 = .ok (.iadd, 1) := by decide +kernel
theorem dX4_kth_81 : decode cX4_kth 81 = .ok (.baload, 1) := by decide +kernel
theorem dX4_kth_82 : decode cX4_kth 82 = .ok (.ifCond .eq 80, 3) := by decide +kernel
theorem dX4_kth_85 : decode cX4_kth 85 = .ok (.iload_n 2, 1) := by decide +kernel
theorem dX4_kth_86 : decode cX4_kth 86 = .ok (.ifCond .lt 13, 3) := by decide +kernel
theorem dX4_kth_89 : decode cX4_kth 89 = .ok (.aload_n 0, 1) := by decide +kernel
theorem dX4_kth_90 : decode cX4_kth 90 = .ok (.iload_n 2, 1) := by decide +kernel
theorem dX4_kth_91 : decode cX4_kth 91 = .ok (.iload 8, 2) := by decide +kernel
theorem dX4_kth_93 : decode cX4_kth 93 = .ok (.invokevirtual 83, 3) := by decide +kernel
theorem dX4_kth_96 : decode cX4_kth 96 = .ok (.ifCond .eq 66, 3) := by decide +kernel
theorem dX4_kth_99 : decode cX4_kth 99 = .ok (.aload_n 0, 1) := by decide +kernel
theorem dX4_kth_100 : decode cX4_kth 100 = .ok (.getfield 35, 3) := by decide +kernel
theorem dX4_kth_103 : decode cX4_kth 103 = .ok (.sipush 200, 3) := by decide +kernel
theorem dX4_kth_106 : decode cX4_kth 106 = .ok (.iload_n 1, 1) := by decide +kernel
theorem dX4_kth_107 : decode cX4_kth 107 = .ok (.imul, 1) := by decide +kernel
theorem dX4_kth_108 : decode cX4_kth 108 = .ok (.iload 8, 2) := by decide +kernel
theorem dX4_kth_110 : decode cX4_kth 110 = .ok (.iadd, 1) := by decide +kernel
theorem dX4_kth_111 : decode cX4_kth 111 = .ok (.laload, 1) := by decide +kernel
theorem dX4_kth_112 : decode cX4_kth 112 = .ok (.lstore 9, 2) := by decide +kernel
theorem dX4_kth_114 : decode cX4_kth 114 = .ok (.aload_n 0, 1) := by decide +kernel
theorem dX4_kth_115 : decode cX4_kth 115 = .ok (.getfield 35, 3) := by decide +kernel
theorem dX4_kth_118 : decode cX4_kth 118 = .ok (.sipush 200, 3) := by decide +kernel
theorem dX4_kth_121 : decode cX4_kth 121 = .ok (.iload_n 1, 1) := by decide +kernel
theorem dX4_kth_122 : decode cX4_kth 122 = .ok (.imul, 1) := by decide +kernel
theorem dX4_kth_123 : decode cX4_kth 123 = .ok (.iload 6, 2) := by decide +kernel
theorem dX4_kth_125 : decode cX4_kth 125 = .ok (.iadd, 1) := by decide +kernel
theorem dX4_kth_126 : decode cX4_kth 126 = .ok (.laload, 1) := by decide +kernel
theorem dX4_kth_127 : decode cX4_kth 127 = .ok (.lstore 11, 2) := by decide +kernel
theorem dX4_kth_129 : decode cX4_kth 129 = .ok (.iload 7, 2) := by decide +kernel
theorem dX4_kth_131 : decode cX4_kth 131 = .ok (.lload 9, 2) := by decide +kernel
theorem dX4_kth_133 : decode cX4_kth 133 = .ok (.lload 11, 2) := by decide +kernel
theorem dX4_kth_135 : decode cX4_kth 135 = .ok (.lcmp, 1) := by decide +kernel
theorem dX4_kth_136 : decode cX4_kth 136 = .ok (.ifCond .gt 18, 3) := by decide +kernel
theorem dX4_kth_139 : decode cX4_kth 139 = .ok (.lload 9, 2) := by decide +kernel
theorem dX4_kth_141 : decode cX4_kth 141 = .ok (.lload 11, 2) := by decide +kernel
theorem dX4_kth_143 : decode cX4_kth 143 = .ok (.lcmp, 1) := by decide +kernel
theorem dX4_kth_144 : decode cX4_kth 144 = .ok (.ifCond .ne 14, 3) := by decide +kernel
theorem dX4_kth_147 : decode cX4_kth 147 = .ok (.iload 8, 2) := by decide +kernel
theorem dX4_kth_149 : decode cX4_kth 149 = .ok (.iload 6, 2) := by decide +kernel
theorem dX4_kth_151 : decode cX4_kth 151 = .ok (.if_icmp .ge 7, 3) := by decide +kernel
theorem dX4_kth_154 : decode cX4_kth 154 = .ok (.iconst 1, 1) := by decide +kernel
theorem dX4_kth_155 : decode cX4_kth 155 = .ok (.goto 4, 3) := by decide +kernel
theorem dX4_kth_158 : decode cX4_kth 158 = .ok (.iconst 0, 1) := by decide +kernel
theorem dX4_kth_159 : decode cX4_kth 159 = .ok (.iadd, 1) := by decide +kernel
theorem dX4_kth_160 : decode cX4_kth 160 = .ok (.istore 7, 2) := by decide +kernel
theorem dX4_kth_162 : decode cX4_kth 162 = .ok (.iinc 8 1, 3) := by decide +kernel
theorem dX4_kth_165 : decode cX4_kth 165 = .ok (.goto (-105), 3) := by decide +kernel
theorem dX4_kth_168 : decode cX4_kth 168 = .ok (.iload 7, 2) := by decide +kernel
theorem dX4_kth_170 : decode cX4_kth 170 = .ok (.iload_n 3, 1) := by decide +kernel
theorem dX4_kth_171 : decode cX4_kth 171 = .ok (.if_icmp .ne 8, 3) := by decide +kernel
theorem dX4_kth_174 : decode cX4_kth 174 = .ok (.iload 6, 2) := by decide +kernel
theorem dX4_kth_176 : decode cX4_kth 176 = .ok (.goto 5, 3) := by decide +kernel
theorem dX4_kth_179 : decode cX4_kth 179 = .ok (.iload 5, 2) := by decide +kernel
theorem dX4_kth_181 : decode cX4_kth 181 = .ok (.istore 5, 2) := by decide +kernel
theorem dX4_kth_183 : decode cX4_kth 183 = .ok (.iinc 6 1, 3) := by decide +kernel
theorem dX4_kth_186 : decode cX4_kth 186 = .ok (.goto (-177), 3) := by decide +kernel
theorem dX4_kth_189 : decode cX4_kth 189 = .ok (.iload_n 3, 1) := by decide +kernel
theorem dX4_kth_190 : decode cX4_kth 190 = .ok (.iconst (-1), 1) := by decide +kernel
theorem dX4_kth_191 : decode cX4_kth 191 = .ok (.if_icmp .ne 8, 3) := by decide +kernel
theorem dX4_kth_194 : decode cX4_kth 194 = .ok (.iload 4, 2) := by decide +kernel
theorem dX4_kth_196 : decode cX4_kth 196 = .ok (.goto 5, 3) := by decide +kernel
theorem dX4_kth_199 : decode cX4_kth 199 = .ok (.iload 5, 2) := by decide +kernel
theorem dX4_kth_201 : decode cX4_kth 201 = .ok (.ireturn, 1) := by decide +kernel
set_option maxRecDepth 20000 in
theorem ggX4_hit_X4_kth : GoodIn wsX4_hit wsX4_kth := goodIn_r _ [7, 8, 9, 10, 11, 12, 13, 6, 14, 15, 16, 17, 18, 19, 20, 21, 22, 23, 24, 25, 26, 27, 28, 29, 30, 31, 32, 33, 34, 35] (by decide +kernel) (by decide +kernel)
set_option maxRecDepth 20000 in
theorem gX4_hit_X4_kth : GoodIn wsX4_hit (wsV RX4 110 RX4 yX4_kth wsX4_kth) := goodIn_app (goodIn_of _ (by decide +kernel)) ggX4_hit_X4_kth
theorem dX4_hit_0 : decode cX4_hit 0 = .ok (.aload_n 0, 1) := by decide +kernel
theorem dX4_hit_1 : decode cX4_hit 1 = .ok (.iconst 0, 1) := by decide +kernel
theorem dX4_hit_2 : decode cX4_hit 2 = .ok (.putfield 45, 3) := by decide +kernel
theorem dX4_hit_5 : decode cX4_hit 5 = .ok (.aload_n 0, 1) := by decide +kernel
theorem dX4_hit_6 : decode cX4_hit 6 = .ok (.getfield 59, 3) := by decide +kernel
theorem dX4_hit_9 : decode cX4_hit 9 = .ok (.ifCond .ne 8, 3) := by decide +kernel
theorem dX4_hit_12 : decode cX4_hit 12 = .ok (.bipush (-3), 2) := by decide +kernel
theorem dX4_hit_14 : decode cX4_hit 14 = .ok (.goto 15, 3) := by decide +kernel
theorem dX4_hit_17 : decode cX4_hit 17 = .ok (.aload_n 0, 1) := by decide +kernel
theorem dX4_hit_18 : decode cX4_hit 18 = .ok (.aload_n 0, 1) := by decide +kernel
theorem dX4_hit_19 : decode cX4_hit 19 = .ok (.getfield 59, 3) := by decide +kernel
theorem dX4_hit_22 : decode cX4_hit 22 = .ok (.iconst 1, 1) := by decide +kernel
theorem dX4_hit_23 : decode cX4_hit 23 = .ok (.isub, 1) := by decide +kernel
theorem dX4_hit_24 : decode cX4_hit 24 = .ok (.iconst (-1), 1) := by decide +kernel
theorem dX4_hit_25 : decode cX4_hit 25 = .ok (.iload_n 1, 1) := by decide +kernel
theorem dX4_hit_26 : decode cX4_hit 26 = .ok (.invokevirtual 110, 3) := by decide +kernel
theorem dX4_hit_29 : decode cX4_hit 29 = .ok (.ireturn, 1) := by decide +kernel
set_option maxRecDepth 20000 in
theorem ggX4_score_X4_isObject : GoodIn wsX4_score wsX4_isObject := goodIn_r _ [10, 11, 12, 13, 9, 14, 15, 16, 17, 18, 19, 20, 21, 22, 23, 24, 25, 26, 27, 28, 29, 30] (by decide +kernel) (by decide +kernel)
set_option maxRecDepth 20000 in
theorem gX4_score_X4_isObject : GoodIn wsX4_score (wsV RX4 87 RX4 yX4_isObject wsX4_isObject) := goodIn_app (goodIn_of _ (by decide +kernel)) ggX4_score_X4_isObject
theorem dX4_score_0 : decode cX4_score 0 = .ok (.aload_n 0, 1) := by decide +kernel
theorem dX4_score_1 : decode cX4_score 1 = .ok (.iconst 0, 1) := by decide +kernel
theorem dX4_score_2 : decode cX4_score 2 = .ok (.putfield 45, 3) := by decide +kernel
theorem dX4_score_5 : decode cX4_score 5 = .ok (.aload_n 0, 1) := by decide +kernel
theorem dX4_score_6 : decode cX4_score 6 = .ok (.getfield 59, 3) := by decide +kernel
theorem dX4_score_9 : decode cX4_score 9 = .ok (.ifCond .eq 31, 3) := by decide +kernel
theorem dX4_score_12 : decode cX4_score 12 = .ok (.aload_n 0, 1) := by decide +kernel
theorem dX4_score_13 : decode cX4_score 13 = .ok (.iload_n 1, 1) := by decide +kernel
theorem dX4_score_14 : decode cX4_score 14 = .ok (.invokevirtual 87, 3) := by decide +kernel
theorem dX4_score_17 : decode cX4_score 17 = .ok (.ifCond .eq 23, 3) := by decide +kernel
theorem dX4_score_20 : decode cX4_score 20 = .ok (.aload_n 0, 1) := by decide +kernel
theorem dX4_score_21 : decode cX4_score 21 = .ok (.getfield 32, 3) := by decide +kernel
theorem dX4_score_24 : decode cX4_score 24 = .ok (.sipush 200, 3) := by decide +kernel
theorem dX4_score_27 : decode cX4_score 27 = .ok (.aload_n 0, 1) := by decide +kernel
theorem dX4_score_28 : decode cX4_score 28 = .ok (.getfield 59, 3) := by decide +kernel
theorem dX4_score_31 : decode cX4_score 31 = .ok (.iconst 1, 1) := by decide +kernel
theorem dX4_score_32 : decode cX4_score 32 = .ok (.isub, 1) := by decide +kernel
theorem dX4_score_33 : decode cX4_score 33 = .ok (.imul, 1) := by decide +kernel
theorem dX4_score_34 : decode cX4_score 34 = .ok (.iload_n 1, 1) := by decide +kernel
theorem dX4_score_35 : decode cX4_score 35 = .ok (.iadd, 1) := by decide +kernel
theorem dX4_score_36 : decode cX4_score 36 = .ok (.baload, 1) := by decide +kernel
theorem dX4_score_37 : decode cX4_score 37 = .ok (.ifCond .ne 9, 3) := by decide +kernel
theorem dX4_score_40 : decode cX4_score 40 = .ok (.ldc2_w 114, 3) := by decide +kernel
theorem dX4_score_43 : decode cX4_score 43 = .ok (.goto 20, 3) := by decide +kernel
theorem dX4_score_46 : decode cX4_score 46 = .ok (.aload_n 0, 1) := by decide +kernel
theorem dX4_score_47 : decode cX4_score 47 = .ok (.getfield 35, 3) := by decide +kernel
theorem dX4_score_50 : decode cX4_score 50 = .ok (.sipush 200, 3) := by decide +kernel
theorem dX4_score_53 : decode cX4_score 53 = .ok (.aload_n 0, 1) := by decide +kernel
theorem dX4_score_54 : decode cX4_score 54 = .ok (.getfield 59, 3) := by decide +kernel
theorem dX4_score_57 : decode cX4_score 57 = .ok (.iconst 1, 1) := by decide +kernel
theorem dX4_score_58 : decode cX4_score 58 = .ok (.isub, 1) := by decide +kernel
theorem dX4_score_59 : decode cX4_score 59 = .ok (.imul, 1) := by decide +kernel
theorem dX4_score_60 : decode cX4_score 60 = .ok (.iload_n 1, 1) := by decide +kernel
theorem dX4_score_61 : decode cX4_score 61 = .ok (.iadd, 1) := by decide +kernel
theorem dX4_score_62 : decode cX4_score 62 = .ok (.laload, 1) := by decide +kernel
theorem dX4_score_63 : decode cX4_score 63 = .ok (.lreturn, 1) := by decide +kernel
set_option maxRecDepth 20000 in
theorem ggX4_family_X4_isObject : GoodIn wsX4_family wsX4_isObject := goodIn_r _ [7, 8, 9, 10, 6, 11, 27, 28, 29, 30, 31, 32, 33, 34, 35, 36, 37, 38, 39, 40, 41, 42] (by decide +kernel) (by decide +kernel)
set_option maxRecDepth 20000 in
theorem gX4_family_X4_isObject : GoodIn wsX4_family (wsV RX4 87 RX4 yX4_isObject wsX4_isObject) := goodIn_app (goodIn_of _ (by decide +kernel)) ggX4_family_X4_isObject
set_option maxRecDepth 20000 in
theorem ggX4_family_X4_kth : GoodIn wsX4_family wsX4_kth := goodIn_r _ [15, 8, 16, 17, 18, 19, 20, 6, 21, 22, 23, 24, 25, 26, 27, 28, 29, 30, 31, 32, 33, 34, 35, 36, 37, 38, 39, 40, 41, 42] (by decide +kernel) (by decide +kernel)
set_option maxRecDepth 20000 in
theorem gX4_family_X4_kth : GoodIn wsX4_family (wsV RX4 110 RX4 yX4_kth wsX4_kth) := goodIn_app (goodIn_of _ (by decide +kernel)) ggX4_family_X4_kth
theorem dX4_family_0 : decode cX4_family 0 = .ok (.aload_n 0, 1) := by decide +kernel
theorem dX4_family_1 : decode cX4_family 1 = .ok (.iconst 0, 1) := by decide +kernel
theorem dX4_family_2 : decode cX4_family 2 = .ok (.putfield 45, 3) := by decide +kernel
theorem dX4_family_5 : decode cX4_family 5 = .ok (.aload_n 0, 1) := by decide +kernel
theorem dX4_family_6 : decode cX4_family 6 = .ok (.iload_n 1, 1) := by decide +kernel
theorem dX4_family_7 : decode cX4_family 7 = .ok (.invokevirtual 87, 3) := by decide +kernel
theorem dX4_family_10 : decode cX4_family 10 = .ok (.ifCond .eq 10, 3) := by decide +kernel
theorem dX4_family_13 : decode cX4_family 13 = .ok (.aload_n 0, 1) := by decide +kernel
theorem dX4_family_14 : decode cX4_family 14 = .ok (.getfield 62, 3) := by decide +kernel
theorem dX4_family_17 : decode cX4_family 17 = .ok (.ifCond .ne 7, 3) := by decide +kernel
theorem dX4_family_20 : decode cX4_family 20 = .ok (.iconst (-1), 1) := by decide +kernel
theorem dX4_family_21 : decode cX4_family 21 = .ok (.goto 11, 3) := by decide +kernel
theorem dX4_family_24 : decode cX4_family 24 = .ok (.aload_n 0, 1) := by decide +kernel
theorem dX4_family_25 : decode cX4_family 25 = .ok (.bipush 8, 2) := by decide +kernel
theorem dX4_family_27 : decode cX4_family 27 = .ok (.iload_n 1, 1) := by decide +kernel
theorem dX4_family_28 : decode cX4_family 28 = .ok (.iload_n 2, 1) := by decide +kernel
theorem dX4_family_29 : decode cX4_family 29 = .ok (.invokevirtual 110, 3) := by decide +kernel
theorem dX4_family_32 : decode cX4_family 32 = .ok (.ireturn, 1) := by decide +kernel
set_option maxRecDepth 20000 in
theorem ggX4_share_X4_sizeOf : GoodIn wsX4_share wsX4_sizeOf := goodIn_r _ [9, 10, 11, 12, 13, 14, 15, 16, 17, 18, 19, 20, 21, 22, 23, 24, 25, 26, 27] (by decide +kernel) (by decide +kernel)
set_option maxRecDepth 20000 in
theorem gX4_share_X4_sizeOf : GoodIn wsX4_share (wsV RX4 104 RX4 yX4_sizeOf wsX4_sizeOf) := goodIn_app (goodIn_of _ (by decide +kernel)) ggX4_share_X4_sizeOf
theorem dX4_share_0 : decode cX4_share 0 = .ok (.aload_n 0, 1) := by decide +kernel
theorem dX4_share_1 : decode cX4_share 1 = .ok (.iconst 0, 1) := by decide +kernel
theorem dX4_share_2 : decode cX4_share 2 = .ok (.putfield 45, 3) := by decide +kernel
theorem dX4_share_5 : decode cX4_share 5 = .ok (.aload_n 0, 1) := by decide +kernel
theorem dX4_share_6 : decode cX4_share 6 = .ok (.getfield 59, 3) := by decide +kernel
theorem dX4_share_9 : decode cX4_share 9 = .ok (.iconst 2, 1) := by decide +kernel
theorem dX4_share_10 : decode cX4_share 10 = .ok (.if_icmp .ge 7, 3) := by decide +kernel
theorem dX4_share_13 : decode cX4_share 13 = .ok (.ldc2_w 114, 3) := by decide +kernel
theorem dX4_share_16 : decode cX4_share 16 = .ok (.lreturn, 1) := by decide +kernel
theorem dX4_share_17 : decode cX4_share 17 = .ok (.aload_n 0, 1) := by decide +kernel
theorem dX4_share_18 : decode cX4_share 18 = .ok (.aload_n 0, 1) := by decide +kernel
theorem dX4_share_19 : decode cX4_share 19 = .ok (.getfield 59, 3) := by decide +kernel
theorem dX4_share_22 : decode cX4_share 22 = .ok (.iconst 2, 1) := by decide +kernel
theorem dX4_share_23 : decode cX4_share 23 = .ok (.isub, 1) := by decide +kernel
theorem dX4_share_24 : decode cX4_share 24 = .ok (.invokevirtual 104, 3) := by decide +kernel
theorem dX4_share_27 : decode cX4_share 27 = .ok (.istore_n 1, 1) := by decide +kernel
theorem dX4_share_28 : decode cX4_share 28 = .ok (.iload_n 1, 1) := by decide +kernel
theorem dX4_share_29 : decode cX4_share 29 = .ok (.ifCond .ne 10, 3) := by decide +kernel
theorem dX4_share_32 : decode cX4_share 32 = .ok (.aload_n 0, 1) := by decide +kernel
theorem dX4_share_33 : decode cX4_share 33 = .ok (.iconst 1, 1) := by decide +kernel
theorem dX4_share_34 : decode cX4_share 34 = .ok (.putfield 45, 3) := by decide +kernel
theorem dX4_share_37 : decode cX4_share 37 = .ok (.lconst 0, 1) := by decide +kernel
theorem dX4_share_38 : decode cX4_share 38 = .ok (.lreturn, 1) := by decide +kernel
theorem dX4_share_39 : decode cX4_share 39 = .ok (.ldc2_w 116, 3) := by decide +kernel
theorem dX4_share_42 : decode cX4_share 42 = .ok (.aload_n 0, 1) := by decide +kernel
theorem dX4_share_43 : decode cX4_share 43 = .ok (.aload_n 0, 1) := by decide +kernel
theorem dX4_share_44 : decode cX4_share 44 = .ok (.getfield 59, 3) := by decide +kernel
theorem dX4_share_47 : decode cX4_share 47 = .ok (.iconst 1, 1) := by decide +kernel
theorem dX4_share_48 : decode cX4_share 48 = .ok (.isub, 1) := by decide +kernel
theorem dX4_share_49 : decode cX4_share 49 = .ok (.invokevirtual 104, 3) := by decide +kernel
theorem dX4_share_52 : decode cX4_share 52 = .ok (.i2l, 1) := by decide +kernel
theorem dX4_share_53 : decode cX4_share 53 = .ok (.lmul, 1) := by decide +kernel
theorem dX4_share_54 : decode cX4_share 54 = .ok (.iload_n 1, 1) := by decide +kernel
theorem dX4_share_55 : decode cX4_share 55 = .ok (.i2l, 1) := by decide +kernel
theorem dX4_share_56 : decode cX4_share 56 = .ok (.ldiv, 1) := by decide +kernel
theorem dX4_share_57 : decode cX4_share 57 = .ok (.lreturn, 1) := by decide +kernel
theorem dJ6_bitCount_0f7a4_0 : decode cJ6_bitCount_0f7a4 0 = .ok (.iload_n 0, 1) := by decide +kernel
theorem dJ6_bitCount_0f7a4_1 : decode cJ6_bitCount_0f7a4 1 = .ok (.iload_n 0, 1) := by decide +kernel
theorem dJ6_bitCount_0f7a4_2 : decode cJ6_bitCount_0f7a4 2 = .ok (.iconst 1, 1) := by decide +kernel
theorem dJ6_bitCount_0f7a4_3 : decode cJ6_bitCount_0f7a4 3 = .ok (.iushr, 1) := by decide +kernel
theorem dJ6_bitCount_0f7a4_4 : decode cJ6_bitCount_0f7a4 4 = .ok (.ldc_w 265, 3) := by decide +kernel
theorem dJ6_bitCount_0f7a4_7 : decode cJ6_bitCount_0f7a4 7 = .ok (.iand, 1) := by decide +kernel
theorem dJ6_bitCount_0f7a4_8 : decode cJ6_bitCount_0f7a4 8 = .ok (.isub, 1) := by decide +kernel
theorem dJ6_bitCount_0f7a4_9 : decode cJ6_bitCount_0f7a4 9 = .ok (.istore_n 0, 1) := by decide +kernel
theorem dJ6_bitCount_0f7a4_10 : decode cJ6_bitCount_0f7a4 10 = .ok (.iload_n 0, 1) := by decide +kernel
theorem dJ6_bitCount_0f7a4_11 : decode cJ6_bitCount_0f7a4 11 = .ok (.ldc_w 266, 3) := by decide +kernel
theorem dJ6_bitCount_0f7a4_14 : decode cJ6_bitCount_0f7a4 14 = .ok (.iand, 1) := by decide +kernel
theorem dJ6_bitCount_0f7a4_15 : decode cJ6_bitCount_0f7a4 15 = .ok (.iload_n 0, 1) := by decide +kernel
theorem dJ6_bitCount_0f7a4_16 : decode cJ6_bitCount_0f7a4 16 = .ok (.iconst 2, 1) := by decide +kernel
theorem dJ6_bitCount_0f7a4_17 : decode cJ6_bitCount_0f7a4 17 = .ok (.iushr, 1) := by decide +kernel
theorem dJ6_bitCount_0f7a4_18 : decode cJ6_bitCount_0f7a4 18 = .ok (.ldc_w 266, 3) := by decide +kernel
theorem dJ6_bitCount_0f7a4_21 : decode cJ6_bitCount_0f7a4 21 = .ok (.iand, 1) := by decide +kernel
theorem dJ6_bitCount_0f7a4_22 : decode cJ6_bitCount_0f7a4 22 = .ok (.iadd, 1) := by decide +kernel
theorem dJ6_bitCount_0f7a4_23 : decode cJ6_bitCount_0f7a4 23 = .ok (.istore_n 0, 1) := by decide +kernel
theorem dJ6_bitCount_0f7a4_24 : decode cJ6_bitCount_0f7a4 24 = .ok (.iload_n 0, 1) := by decide +kernel
theorem dJ6_bitCount_0f7a4_25 : decode cJ6_bitCount_0f7a4 25 = .ok (.iload_n 0, 1) := by decide +kernel
theorem dJ6_bitCount_0f7a4_26 : decode cJ6_bitCount_0f7a4 26 = .ok (.iconst 4, 1) := by decide +kernel
theorem dJ6_bitCount_0f7a4_27 : decode cJ6_bitCount_0f7a4 27 = .ok (.iushr, 1) := by decide +kernel
theorem dJ6_bitCount_0f7a4_28 : decode cJ6_bitCount_0f7a4 28 = .ok (.iadd, 1) := by decide +kernel
theorem dJ6_bitCount_0f7a4_29 : decode cJ6_bitCount_0f7a4 29 = .ok (.ldc_w 267, 3) := by decide +kernel
theorem dJ6_bitCount_0f7a4_32 : decode cJ6_bitCount_0f7a4 32 = .ok (.iand, 1) := by decide +kernel
theorem dJ6_bitCount_0f7a4_33 : decode cJ6_bitCount_0f7a4 33 = .ok (.istore_n 0, 1) := by decide +kernel
theorem dJ6_bitCount_0f7a4_34 : decode cJ6_bitCount_0f7a4 34 = .ok (.iload_n 0, 1) := by decide +kernel
theorem dJ6_bitCount_0f7a4_35 : decode cJ6_bitCount_0f7a4 35 = .ok (.iload_n 0, 1) := by decide +kernel
theorem dJ6_bitCount_0f7a4_36 : decode cJ6_bitCount_0f7a4 36 = .ok (.bipush 8, 2) := by decide +kernel
theorem dJ6_bitCount_0f7a4_38 : decode cJ6_bitCount_0f7a4 38 = .ok (.iushr, 1) := by decide +kernel
theorem dJ6_bitCount_0f7a4_39 : decode cJ6_bitCount_0f7a4 39 = .ok (.iadd, 1) := by decide +kernel
theorem dJ6_bitCount_0f7a4_40 : decode cJ6_bitCount_0f7a4 40 = .ok (.istore_n 0, 1) := by decide +kernel
theorem dJ6_bitCount_0f7a4_41 : decode cJ6_bitCount_0f7a4 41 = .ok (.iload_n 0, 1) := by decide +kernel
theorem dJ6_bitCount_0f7a4_42 : decode cJ6_bitCount_0f7a4 42 = .ok (.iload_n 0, 1) := by decide +kernel
theorem dJ6_bitCount_0f7a4_43 : decode cJ6_bitCount_0f7a4 43 = .ok (.bipush 16, 2) := by decide +kernel
theorem dJ6_bitCount_0f7a4_45 : decode cJ6_bitCount_0f7a4 45 = .ok (.iushr, 1) := by decide +kernel
theorem dJ6_bitCount_0f7a4_46 : decode cJ6_bitCount_0f7a4 46 = .ok (.iadd, 1) := by decide +kernel
theorem dJ6_bitCount_0f7a4_47 : decode cJ6_bitCount_0f7a4 47 = .ok (.istore_n 0, 1) := by decide +kernel
theorem dJ6_bitCount_0f7a4_48 : decode cJ6_bitCount_0f7a4 48 = .ok (.iload_n 0, 1) := by decide +kernel
theorem dJ6_bitCount_0f7a4_49 : decode cJ6_bitCount_0f7a4 49 = .ok (.bipush 63, 2) := by decide +kernel
theorem dJ6_bitCount_0f7a4_51 : decode cJ6_bitCount_0f7a4 51 = .ok (.iand, 1) := by decide +kernel
theorem dJ6_bitCount_0f7a4_52 : decode cJ6_bitCount_0f7a4 52 = .ok (.ireturn, 1) := by decide +kernel
theorem dJ9_max_f86c9_0 : decode cJ9_max_f86c9 0 = .ok (.lload_n 0, 1) := by decide +kernel
theorem dJ9_max_f86c9_1 : decode cJ9_max_f86c9 1 = .ok (.lload_n 2, 1) := by decide +kernel
theorem dJ9_max_f86c9_2 : decode cJ9_max_f86c9 2 = .ok (.lcmp, 1) := by decide +kernel
theorem dJ9_max_f86c9_3 : decode cJ9_max_f86c9 3 = .ok (.ifCond .lt 7, 3) := by decide +kernel
theorem dJ9_max_f86c9_6 : decode cJ9_max_f86c9 6 = .ok (.lload_n 0, 1) := by decide +kernel
theorem dJ9_max_f86c9_7 : decode cJ9_max_f86c9 7 = .ok (.goto 4, 3) := by decide +kernel
theorem dJ9_max_f86c9_10 : decode cJ9_max_f86c9 10 = .ok (.lload_n 2, 1) := by decide +kernel
theorem dJ9_max_f86c9_11 : decode cJ9_max_f86c9 11 = .ok (.lreturn, 1) := by decide +kernel
theorem dJ9_min_7cf53_0 : decode cJ9_min_7cf53 0 = .ok (.iload_n 0, 1) := by decide +kernel
theorem dJ9_min_7cf53_1 : decode cJ9_min_7cf53 1 = .ok (.iload_n 1, 1) := by decide +kernel
theorem dJ9_min_7cf53_2 : decode cJ9_min_7cf53 2 = .ok (.if_icmp .gt 7, 3) := by decide +kernel
theorem dJ9_min_7cf53_5 : decode cJ9_min_7cf53 5 = .ok (.iload_n 0, 1) := by decide +kernel
theorem dJ9_min_7cf53_6 : decode cJ9_min_7cf53 6 = .ok (.goto 4, 3) := by decide +kernel
theorem dJ9_min_7cf53_9 : decode cJ9_min_7cf53 9 = .ok (.iload_n 1, 1) := by decide +kernel
theorem dJ9_min_7cf53_10 : decode cJ9_min_7cf53 10 = .ok (.ireturn, 1) := by decide +kernel
theorem dJ9_min_f86c9_0 : decode cJ9_min_f86c9 0 = .ok (.lload_n 0, 1) := by decide +kernel
theorem dJ9_min_f86c9_1 : decode cJ9_min_f86c9 1 = .ok (.lload_n 2, 1) := by decide +kernel
theorem dJ9_min_f86c9_2 : decode cJ9_min_f86c9 2 = .ok (.lcmp, 1) := by decide +kernel
theorem dJ9_min_f86c9_3 : decode cJ9_min_f86c9 3 = .ok (.ifCond .gt 7, 3) := by decide +kernel
theorem dJ9_min_f86c9_6 : decode cJ9_min_f86c9 6 = .ok (.lload_n 0, 1) := by decide +kernel
theorem dJ9_min_f86c9_7 : decode cJ9_min_f86c9 7 = .ok (.goto 4, 3) := by decide +kernel
theorem dJ9_min_f86c9_10 : decode cJ9_min_f86c9 10 = .ok (.lload_n 2, 1) := by decide +kernel
theorem dJ9_min_f86c9_11 : decode cJ9_min_f86c9 11 = .ok (.lreturn, 1) := by decide +kernel
set_option maxRecDepth 20000 in
theorem ggL_share_X3_share : GoodIn wsL_share wsX3_share := goodIn_ca (goodIn_r _ [6, 7, 8, 9, 10, 11, 12, 13, 14, 15, 16, 17, 18, 19, 20, 21, 22, 23, 24] (by decide +kernel) (by decide +kernel)) (goodIn_sub (fun _ h => List.mem_cons_of_mem _ (List.mem_append_right _ h)) (by decide +kernel))
set_option maxRecDepth 20000 in
theorem gL_share_X3_share : GoodIn wsL_share (wsV RL 7 RX3 yX3_share wsX3_share) := goodIn_app (goodIn_of _ (by decide +kernel)) ggL_share_X3_share
theorem dL_share_0 : decode cL_share 0 = .ok (.aload_n 1, 1) := by decide +kernel
theorem dL_share_1 : decode cL_share 1 = .ok (.iconst 0, 1) := by decide +kernel
theorem dL_share_2 : decode cL_share 2 = .ok (.aload_n 0, 1) := by decide +kernel
theorem dL_share_3 : decode cL_share 3 = .ok (.invokevirtual 7, 3) := by decide +kernel
theorem dL_share_6 : decode cL_share 6 = .ok (.lastore, 1) := by decide +kernel
theorem dL_share_7 : decode cL_share 7 = .ok (.goto 6, 3) := by decide +kernel
theorem dL_share_10 : decode cL_share 10 = .ok (.astore_n 2, 1) := by decide +kernel
theorem dL_share_11 : decode cL_share 11 = .ok (.iconst 1, 1) := by decide +kernel
theorem dL_share_12 : decode cL_share 12 = .ok (.ireturn, 1) := by decide +kernel
theorem dL_share_13 : decode cL_share 13 = .ok (.iconst 0, 1) := by decide +kernel
theorem dL_share_14 : decode cL_share 14 = .ok (.ireturn, 1) := by decide +kernel
abbrev vwCl : List vw_C := [(RX0, TX0, 3), (RX1, TX1, 7), (RX2, TX2, 3), (RX3, TX3, 8), (RX4, TX4, 16)]
end
section
/-! contracts over a picture; an instruction's rows with an index as a Nat; one row a kind of call -/
def b2i (b : Bool) : Int32 := if b then 1 else 0
theorem b2i_t : b2i true = 1 := rfl
theorem b2i_f : b2i false = 0 := rfl
theorem b2i_eq0 (b : Bool) : b2i b = 0 ↔ b = false := by cases b <;> decide
theorem b2i_nar (b : Bool) : vp_nar .boolean (b2i b) = b2i b := by cases b <;> decide
theorem b2i_narrow (b : Bool) : narrow .boolean (.int (b2i b)) = .int (b2i b) := by cases b <;> decide
theorem b2i_fits (b : Bool) : fits .boolean (.int (b2i b)) = true := by cases b <;> decide
theorem b2i_inj {a b : Bool} (h : b2i a = b2i b) : a = b := by revert h; cases a <;> cases b <;> decide
/-- a row of booleans as the machine holds it -/
def bF (f : Nat → Bool) : Nat → Int32 := fun j => b2i (f j)
abbrev tyL (cs : Nat → ClassId) : List (ClassId × FieldType) := [(cs 0, .int), (cs 1, .boolean), (cs 2, .long), (cs 3, .object "JoinBlocks$ScoredSet")]
/-- the array classes by their names -/
def kN (cs : Nat → ClassId) (U : State) : Prop := U.vm.findClass ("[" ++ (FieldType.int).toString) = some (cs 0) ∧ U.vm.findClass ("[" ++ (FieldType.boolean).toString) = some (cs 1) ∧ U.vm.findClass ("[" ++ (FieldType.long).toString) = some (cs 2) ∧ U.vm.findClass ("[" ++ (FieldType.object "JoinBlocks$ScoredSet").toString) = some (cs 3)
def sK (D : va_G) (cs : Nat → ClassId) (U : State) : Prop := va_K D vwCl (tyL cs) U ∧ kN cs U
theorem sK.moved {D : va_G} {cs : Nat → ClassId} {u U : State} (hvm : u.vm.Alike U.vm) (h : sK D cs u) : sK D cs U :=
  ⟨va_K.moved hvm h.1, by rw [kN, hvm.findClass, hvm.findClass, hvm.findClass, hvm.findClass]; exact h.2⟩
def sP (D : va_G) (cs : Nat → ClassId) (wc : va_W) (sz : Nat) (U : State) : Prop := U.heap.size = sz ∧ va_P D vwCl wc U.heap ∧ sK D cs U ∧ va_D (fun _ => True) wc
def sB {S : Type} (D : va_G) (cs : Nat → ClassId) (A : Nat → Prop) (wf : S → va_W) (u : S) (t : State) : Prop := va_P D vwCl (wf u) t.heap ∧ sK D cs t ∧ va_D A (wf u)
def CtI {S : Type} (l : Launch) (y : MethodName) (ws : List Cond) (rm : Room) (D : va_G) (cs : Nat → ClassId) (av : List Value) (wc : va_W) (wf : S → va_W) (Q : Int32 → S → Prop) : Prop :=
  ∀ sz : Nat, Met l y ws rm (va_Pc av (sP D cs wc sz)) (va_Qi Q (sB D cs (va_A wc sz) wf) (va_A wc sz)) 0 0 (va_A wc sz)
def CtZ {S : Type} (l : Launch) (y : MethodName) (ws : List Cond) (rm : Room) (D : va_G) (cs : Nat → ClassId) (av : List Value) (wc : va_W) (wf : S → va_W) (Q : Bool → S → Prop) : Prop :=
  ∀ sz : Nat, Met l y ws rm (va_Pc av (sP D cs wc sz)) (va_Qi (fun r u => ∃ b, r = b2i b ∧ Q b u) (sB D cs (va_A wc sz) wf) (va_A wc sz)) 0 0 (va_A wc sz)
def CtL {S : Type} (l : Launch) (y : MethodName) (ws : List Cond) (rm : Room) (D : va_G) (cs : Nat → ClassId) (av : List Value) (wc : va_W) (wf : S → va_W) (Q : Int64 → S → Prop) : Prop :=
  ∀ sz : Nat, Met l y ws rm (va_Pc av (sP D cs wc sz)) (va_Ql Q (sB D cs (va_A wc sz) wf) (va_A wc sz)) 0 0 (va_A wc sz)
def CtV {S : Type} (l : Launch) (y : MethodName) (ws : List Cond) (rm : Room) (D : va_G) (cs : Nat → ClassId) (av : List Value) (wc : va_W) (wf : S → va_W) (mc ms : Nat) (Q : S → Prop) : Prop :=
  ∀ sz : Nat, Met l y ws rm (va_Pc av (sP D cs wc sz)) (va_Qv Q (sB D cs (va_A wc sz) wf) (va_A wc sz)) mc ms (va_A wc sz)
theorem sP_blind {D : va_G} {cs : Nat → ClassId} {wc : va_W} {sz : Nat} {av : List Value} : FrameBlind (va_Pc av (sP D cs wc sz)) := fun a U g mk q => by
  obtain ⟨q0, q1, qP, qK, qD⟩ := q
  exact ⟨q0, q1, qP, sK.moved (u := U) (U := U.calling g mk a) (Vm.Alike.refl U.vm) qK, qD⟩
theorem xt_cut {a b : Prop} (h : a) (k : a → b) : b := k h

section XE
variable {l : Launch} {y : MethodName} {ws ws' : List Cond} {rm : Room} {D : va_G} {cs : Nat → ClassId} {av : List Value} {wc : va_W} {cc : ByteArray} {maxL : Nat} {own : String} {lv0 : List (Nat × Value)} {S : Type} {wf : S → va_W}
theorem xo_I {Q : Int32 → S → Prop} (hy : plainName y.cls = true) (hw : ws = Cond.code y cc maxL (some .int) :: ws') (ho : y.cls = own) (hlen : (lg_sl av).length ≤ maxL) (hlv : lv_args 0 av = lv0)
    (body : ∀ (p : Program) (e : Env) (s : State) (m : MethodId) (args : Array Value) (below : List Frame) (meth : Method) (c : Code) (A : Nat → Prop) (Z : State → Prop) (ls : Array Slot),
      CallFix p m c cc maxL s args ws own → sK D cs s → (∀ q : Nat, s.heap.size ≤ q → A q) → va_P D vwCl wc s.heap → va_D A wc → va_S A s.heap s.heap [] → lv_has ls maxL lv0 →
      (∀ (r : Int32) (u : S) (H : Heap) (locs : List Loc) (pc : Nat) (ls : Array Slot), Q r u → va_P D vwCl (wf u) H → va_D A (wf u) → va_S A s.heap H locs → decode cc pc = .ok (.ireturn, 1) → W p l e rm s m args below meth c H locs 0 0 Z (F0 m pc ls [.int r])) →
      W p l e rm s m args below meth c s.heap [] 0 0 Z (F0 m 0 ls [])) : CtI l y ws rm D cs av wc wf Q := by
  intro sz
  refine Met.ofW (cc := cc) (maxL := maxL) (ret := some .int) hy hw ?_
  intro p e s m args below meth c s₁ B hml hv
  obtain ⟨rfl, hsz, hP, hK, hD0⟩ := hv
  subst hsz
  have hl := lv_entry av (n := maxL) hlen
  rw [hlv] at hl
  rw [lg_entry_eq]
  refine body p e s m _ below meth c (va_A wc s.heap.size) _ _ ⟨B.exec, B.bytes, hml, by rw [← ho]; exact findClass_of_methodNamed B.named, atoms_spec (ws := ws) B.pre⟩ hK (fun q h => Or.inr h) hP (hD0.self) va_S.rf hl ?_
  intro r u H locs pc ls hQ hP1 hD1 hS hdg
  exact W.iret B.exec B.bytes B.returns (fun t ht hW => ⟨⟨r, u, rfl, hQ, by rw [ht]; exact hP1, sK.moved hW.alike hK, hD1⟩, hS.F ht⟩) hS.2.2 hdg B.notSynchronized
theorem xo_Z {Q : Bool → S → Prop} (hy : plainName y.cls = true) (hw : ws = Cond.code y cc maxL (some .boolean) :: ws') (ho : y.cls = own) (hlen : (lg_sl av).length ≤ maxL) (hlv : lv_args 0 av = lv0)
    (body : ∀ (p : Program) (e : Env) (s : State) (m : MethodId) (args : Array Value) (below : List Frame) (meth : Method) (c : Code) (A : Nat → Prop) (Z : State → Prop) (ls : Array Slot),
      CallFix p m c cc maxL s args ws own → sK D cs s → (∀ q : Nat, s.heap.size ≤ q → A q) → va_P D vwCl wc s.heap → va_D A wc → va_S A s.heap s.heap [] → lv_has ls maxL lv0 →
      (∀ (r : Bool) (u : S) (H : Heap) (locs : List Loc) (pc : Nat) (ls : Array Slot) (x : Int32), x = b2i r → Q r u → va_P D vwCl (wf u) H → va_D A (wf u) → va_S A s.heap H locs → decode cc pc = .ok (.ireturn, 1) → W p l e rm s m args below meth c H locs 0 0 Z (F0 m pc ls [.int x])) →
      W p l e rm s m args below meth c s.heap [] 0 0 Z (F0 m 0 ls [])) : CtZ l y ws rm D cs av wc wf Q := by
  intro sz
  refine Met.ofW (cc := cc) (maxL := maxL) (ret := some .boolean) hy hw ?_
  intro p e s m args below meth c s₁ B hml hv
  obtain ⟨rfl, hsz, hP, hK, hD0⟩ := hv
  subst hsz
  have hl := lv_entry av (n := maxL) hlen
  rw [hlv] at hl
  rw [lg_entry_eq]
  refine body p e s m _ below meth c (va_A wc s.heap.size) _ _ ⟨B.exec, B.bytes, hml, by rw [← ho]; exact findClass_of_methodNamed B.named, atoms_spec (ws := ws) B.pre⟩ hK (fun q h => Or.inr h) hP (hD0.self) va_S.rf hl ?_
  intro r u H locs pc ls x hx hQ hP1 hD1 hS hdg
  subst hx
  exact W.zret (ty := .boolean) B.exec B.bytes B.returns (b2i_narrow r) (fun t ht hW => ⟨⟨b2i r, u, rfl, ⟨r, rfl, hQ⟩, by rw [ht]; exact hP1, sK.moved hW.alike hK, hD1⟩, hS.F ht⟩) hS.2.2 hdg B.notSynchronized
theorem xo_L {Q : Int64 → S → Prop} (hy : plainName y.cls = true) (hw : ws = Cond.code y cc maxL (some .long) :: ws') (ho : y.cls = own) (hlen : (lg_sl av).length ≤ maxL) (hlv : lv_args 0 av = lv0)
    (body : ∀ (p : Program) (e : Env) (s : State) (m : MethodId) (args : Array Value) (below : List Frame) (meth : Method) (c : Code) (A : Nat → Prop) (Z : State → Prop) (ls : Array Slot),
      CallFix p m c cc maxL s args ws own → sK D cs s → (∀ q : Nat, s.heap.size ≤ q → A q) → va_P D vwCl wc s.heap → va_D A wc → va_S A s.heap s.heap [] → lv_has ls maxL lv0 →
      (∀ (r : Int64) (u : S) (H : Heap) (locs : List Loc) (pc : Nat) (ls : Array Slot), Q r u → va_P D vwCl (wf u) H → va_D A (wf u) → va_S A s.heap H locs → decode cc pc = .ok (.lreturn, 1) → W p l e rm s m args below meth c H locs 0 0 Z (F0 m pc ls [.long r])) →
      W p l e rm s m args below meth c s.heap [] 0 0 Z (F0 m 0 ls [])) : CtL l y ws rm D cs av wc wf Q := by
  intro sz
  refine Met.ofW (cc := cc) (maxL := maxL) (ret := some .long) hy hw ?_
  intro p e s m args below meth c s₁ B hml hv
  obtain ⟨rfl, hsz, hP, hK, hD0⟩ := hv
  subst hsz
  have hl := lv_entry av (n := maxL) hlen
  rw [hlv] at hl
  rw [lg_entry_eq]
  refine body p e s m _ below meth c (va_A wc s.heap.size) _ _ ⟨B.exec, B.bytes, hml, by rw [← ho]; exact findClass_of_methodNamed B.named, atoms_spec (ws := ws) B.pre⟩ hK (fun q h => Or.inr h) hP (hD0.self) va_S.rf hl ?_
  intro r u H locs pc ls hQ hP1 hD1 hS hdg
  exact W.lret B.exec B.bytes B.returns (fun t ht hW => ⟨⟨r, u, rfl, hQ, by rw [ht]; exact hP1, sK.moved hW.alike hK, hD1⟩, hS.F ht⟩) hS.2.2 hdg B.notSynchronized
theorem xo_V {Q : S → Prop} {mc ms : Nat} (hy : plainName y.cls = true) (hw : ws = Cond.code y cc maxL none :: ws') (ho : y.cls = own) (hlen : (lg_sl av).length ≤ maxL) (hlv : lv_args 0 av = lv0)
    (body : ∀ (p : Program) (e : Env) (s : State) (m : MethodId) (args : Array Value) (below : List Frame) (meth : Method) (c : Code) (A : Nat → Prop) (Z : State → Prop) (ls : Array Slot), meth.name = y.name →
      CallFix p m c cc maxL s args ws own → sK D cs s → (∀ q : Nat, s.heap.size ≤ q → A q) → va_P D vwCl wc s.heap → va_D A wc → va_S A s.heap s.heap [] → lv_has ls maxL lv0 →
      (∀ (u : S) (H : Heap) (locs : List Loc) (pc : Nat) (ls : Array Slot), Q u → va_P D vwCl (wf u) H → va_D A (wf u) → va_S A s.heap H locs → decode cc pc = .ok (.return_, 1) → W p l e rm s m args below meth c H locs mc ms Z (F0 m pc ls [])) →
      W p l e rm s m args below meth c s.heap [] 0 0 Z (F0 m 0 ls [])) : CtV l y ws rm D cs av wc wf mc ms Q := by
  intro sz
  refine Met.ofW (cc := cc) (maxL := maxL) (ret := none) hy hw ?_
  intro p e s m args below meth c s₁ B hml hv
  obtain ⟨rfl, hsz, hP, hK, hD0⟩ := hv
  subst hsz
  have hl := lv_entry av (n := maxL) hlen
  rw [hlv] at hl
  rw [lg_entry_eq]
  refine body p e s m _ below meth c (va_A wc s.heap.size) _ _ (name_of_methodNamed B.named B.method).1 ⟨B.exec, B.bytes, hml, by rw [← ho]; exact findClass_of_methodNamed B.named, atoms_spec (ws := ws) B.pre⟩ hK (fun q h => Or.inr h) hP (hD0.self) va_S.rf hl ?_
  intro u H locs pc ls hQ hP1 hD1 hS hdg
  exact W.vret B.exec B.bytes B.returns (fun t ht hW => ⟨⟨u, rfl, hQ, by rw [ht]; exact hP1, sK.moved hW.alike hK, hD1⟩, hS.F ht⟩) hS.2.2 hdg B.notSynchronized
end XE

section XR
variable {p : Program} {l : Launch} {e : Env} {R : Room} {s : State} {m : MethodId} {args : Array Value} {below : List Frame} {meth : Method} {c : Code} {H : Heap} {locs : List Loc} {cells slots : Nat} {Q : State → Prop}
variable {cc : ByteArray} {pc nL : Nat} {ls : Array Slot} {rest : List Value} {D : va_G} {cs : Nat → ClassId} {A : Nat → Prop} {a : Nat} {ws : va_W} {H0 : Heap} {Ts : List Cond} {own : String}
theorem xi_get (F : CallFix p m c cc nL s args Ts own) {C : String} {T : u_T} {N ci index : Nat} (hin : ∀ w ∈ u_ws C T N, w ∈ Ts) (hK : sK D cs s) (hP : va_P D vwCl ws H) (q0 : Nat) {fs : List Value} (he : ws[q0]? = some (a, .inr (ci, fs))) (hc : vwCl[ci]? = some (C, T, N)) (k : Nat) (hk : k < N) (hlink : Cond.fieldLink own index (T k).1 (T k).2.1 (T k).2.2.1 ∈ Ts) {v : Value} (hv : fs[k]? = some v) (hdg : decode cc pc = .ok (.getfield index, 3))
    (kk : W p l e R s m args below meth c H locs cells slots Q (F0 m (pc + 3) ls (v :: rest))) : W p l e R s m args below meth c H locs cells slots Q (F0 m pc ls (.ref a :: rest)) :=
  va_get F.1 F.2.1 F.2.2.2.2 hin F.2.2.2.1 hK.1 hP q0 he hc k hk (F.2.2.2.2 _ hlink) (fun _ h => h) hv hdg kk
theorem xi_put (F : CallFix p m c cc nL s args Ts own) {C : String} {T : u_T} {N ci index : Nat} (hin : ∀ w ∈ u_ws C T N, w ∈ Ts) (ty0 : Nat → FieldType) (hty : ∀ k, k < N → parseFieldDescriptor (T k).2.2.1 = some (ty0 k)) (hnm : ∀ a, a < N → ∀ b, b < N → a ≠ b → (T a).2.1 ≠ (T b).2.1) (hK : sK D cs s) (hP : va_P D vwCl ws H) (hD : va_D A ws) (hS0 : va_S A H0 H locs) (q0 : Nat) {fs : List Value} (he : ws[q0]? = some (a, .inr (ci, fs))) (hc : vwCl[ci]? = some (C, T, N)) (k : Nat) (hk : k < N) (hlink : Cond.fieldLink own index (T k).1 (T k).2.1 (T k).2.2.1 ∈ Ts) (hfin : (T k).2.2.2 = false) {ty : FieldType} {v : Value} (hd : parseFieldDescriptor (T k).2.2.1 = some ty) (hn : narrow ty v = v) (hfit : fits ty v = true) (hl : k < fs.length) (hdg : decode cc pc = .ok (.putfield index, 3))
    (kk : ∀ (H1 : Heap) (locs1 : List Loc), va_P D vwCl (ws.set q0 (a, .inr (ci, fs.set k v))) H1 → va_D A (ws.set q0 (a, .inr (ci, fs.set k v))) → va_S A H0 H1 locs1 → W p l e R s m args below meth c H1 locs1 cells slots Q (F0 m (pc + 3) ls rest)) : W p l e R s m args below meth c H locs cells slots Q (F0 m pc ls (v :: .ref a :: rest)) :=
  va_put F.1 F.2.1 F.2.2.2.2 hin ty0 hty hnm F.2.2.2.1 hK.1 hP hD hS0 q0 he hc k hk (F.2.2.2.2 _ hlink) (fun _ h => h) hfin hd hn hfit hl hdg kk
theorem xi_putF (F : CallFix p m c cc nL s args Ts own) {C : String} {T : u_T} {N ci index : Nat} (hin : ∀ w ∈ u_ws C T N, w ∈ Ts) (ty0 : Nat → FieldType) (hty : ∀ k, k < N → parseFieldDescriptor (T k).2.2.1 = some (ty0 k)) (hnm : ∀ a, a < N → ∀ b, b < N → a ≠ b → (T a).2.1 ≠ (T b).2.1) (hK : sK D cs s) (hP : va_P D vwCl ws H) (hD : va_D A ws) (hS0 : va_S A H0 H locs) (q0 : Nat) {fs : List Value} (he : ws[q0]? = some (a, .inr (ci, fs))) (hc : vwCl[ci]? = some (C, T, N)) (k : Nat) (hk : k < N) (hlink : Cond.fieldLink own index (T k).1 (T k).2.1 (T k).2.2.1 ∈ Ts) (hfin : (T k).2.2.2 = true) (hin2 : meth.name = "<init>") (hdecl : (T k).1 = own) {ty : FieldType} {v : Value} (hd : parseFieldDescriptor (T k).2.2.1 = some ty) (hn : narrow ty v = v) (hfit : fits ty v = true) (hl : k < fs.length) (hdg : decode cc pc = .ok (.putfield index, 3))
    (kk : ∀ (H1 : Heap) (locs1 : List Loc), va_P D vwCl (ws.set q0 (a, .inr (ci, fs.set k v))) H1 → va_D A (ws.set q0 (a, .inr (ci, fs.set k v))) → va_S A H0 H1 locs1 → W p l e R s m args below meth c H1 locs1 cells slots Q (F0 m (pc + 3) ls rest)) : W p l e R s m args below meth c H locs cells slots Q (F0 m pc ls (v :: .ref a :: rest)) :=
  va_putF F.1 F.2.1 F.2.2.2.2 hin ty0 hty hnm F.2.2.2.1 hK.1 hP hD hS0 q0 he hc k hk (F.2.2.2.2 _ hlink) (fun _ h => h) hfin hin2 hdecl hd hn hfit hl hdg kk
theorem xi_iald (F : CallFix p m c cc nL s args Ts own) (hK : sK D cs s) (hP : va_P D vwCl ws H) (q0 : Nat) {n : Nat} {f : Nat → Int32} (ha : ws[q0]? = some (a, .inl (cs 0, n, .inl f))) (hn : n < 2 ^ 31) {i : Int32} {j : Nat} (hj : j < n) (hi : i = nI j) (hdg : decode cc pc = .ok (.iaload, 1))
    (kk : W p l e R s m args below meth c H locs cells slots Q (F0 m (pc + 1) ls (.int (f j) :: rest))) : W p l e R s m args below meth c H locs cells slots Q (F0 m pc ls (.int i :: .ref a :: rest)) := by
  subst hi
  refine va_iald F.1 F.2.1 hK.1 hP q0 0 ha rfl (vp_in_nI hj hn) hdg ?_
  rw [nI_clamp (Nat.lt_trans hj hn)]
  exact kk
theorem xi_zald (F : CallFix p m c cc nL s args Ts own) (hK : sK D cs s) (hP : va_P D vwCl ws H) (q0 : Nat) {n : Nat} {f : Nat → Bool} (ha : ws[q0]? = some (a, .inl (cs 1, n, .inl (bF f)))) (hn : n < 2 ^ 31) {i : Int32} {j : Nat} (hj : j < n) (hi : i = nI j) (hdg : decode cc pc = .ok (.baload, 1))
    (kk : W p l e R s m args below meth c H locs cells slots Q (F0 m (pc + 1) ls (.int (b2i (f j)) :: rest))) : W p l e R s m args below meth c H locs cells slots Q (F0 m pc ls (.int i :: .ref a :: rest)) := by
  subst hi
  refine va_zald F.1 F.2.1 hK.1 hP q0 1 ha rfl (vp_in_nI hj hn) hdg ?_
  rw [nI_clamp (Nat.lt_trans hj hn)]
  exact kk
theorem xi_lald (F : CallFix p m c cc nL s args Ts own) (hK : sK D cs s) (hP : va_P D vwCl ws H) (q0 : Nat) {n : Nat} {f : Nat → Int64} (ha : ws[q0]? = some (a, .inl (cs 2, n, .inr (.inl f)))) (hn : n < 2 ^ 31) {i : Int32} {j : Nat} (hj : j < n) (hi : i = nI j) (hdg : decode cc pc = .ok (.laload, 1))
    (kk : W p l e R s m args below meth c H locs cells slots Q (F0 m (pc + 1) ls (.long (f j) :: rest))) : W p l e R s m args below meth c H locs cells slots Q (F0 m pc ls (.int i :: .ref a :: rest)) := by
  subst hi
  refine va_lald F.1 F.2.1 hK.1 hP q0 2 ha rfl (vp_in_nI hj hn) hdg ?_
  rw [nI_clamp (Nat.lt_trans hj hn)]
  exact kk
theorem xi_aald (F : CallFix p m c cc nL s args Ts own) (hK : sK D cs s) (hP : va_P D vwCl ws H) (q0 : Nat) {n : Nat} {f : Nat → Option Nat} (ha : ws[q0]? = some (a, .inl (cs 3, n, .inr (.inr (.inr (.inr f)))))) (hn : n < 2 ^ 31) {i : Int32} {j x : Nat} (hj : j < n) (hi : i = nI j) (hf : f j = some x) (hdg : decode cc pc = .ok (.aaload, 1))
    (kk : W p l e R s m args below meth c H locs cells slots Q (F0 m (pc + 1) ls (.ref x :: rest))) : W p l e R s m args below meth c H locs cells slots Q (F0 m pc ls (.int i :: .ref a :: rest)) := by
  subst hi
  refine va_aldq F.1 F.2.1 hK.1 hP q0 3 ha rfl (vp_in_nI hj hn) hdg ?_
  rw [nI_clamp (Nat.lt_trans hj hn), hf]
  exact kk
theorem xi_iast (F : CallFix p m c cc nL s args Ts own) (hK : sK D cs s) (hP : va_P D vwCl ws H) (hD : va_D A ws) (hS : va_S A H0 H locs) (q0 : Nat) {n : Nat} {f : Nat → Int32} (ha : ws[q0]? = some (a, .inl (cs 0, n, .inl f))) (hn : n < 2 ^ 31) {i : Int32} {x : Int32} {j : Nat} (hj : j < n) (hi : i = nI j) (hdg : decode cc pc = .ok (.iastore, 1))
    (kk : ∀ (H1 : Heap) (locs1 : List Loc), va_P D vwCl (ws.set q0 (a, .inl (cs 0, n, .inl (va_up f j x)))) H1 → va_D A (ws.set q0 (a, .inl (cs 0, n, .inl (va_up f j x)))) → va_S A H0 H1 locs1 → W p l e R s m args below meth c H1 locs1 cells slots Q (F0 m (pc + 1) ls rest)) : W p l e R s m args below meth c H locs cells slots Q (F0 m pc ls (.int x :: .int i :: .ref a :: rest)) := by
  subst hi
  refine va_iast F.1 F.2.1 hK.1 hP hD hS q0 0 ha rfl (vp_in_nI hj hn) hdg ?_
  rw [nI_clamp (Nat.lt_trans hj hn)]
  exact kk
theorem xi_zast (F : CallFix p m c cc nL s args Ts own) (hK : sK D cs s) (hP : va_P D vwCl ws H) (hD : va_D A ws) (hS : va_S A H0 H locs) (q0 : Nat) {n : Nat} {f : Nat → Bool} (ha : ws[q0]? = some (a, .inl (cs 1, n, .inl (bF f)))) (hn : n < 2 ^ 31) {i : Int32} {x : Int32} {v : Bool} {j : Nat} (hj : j < n) (hi : i = nI j) (hxv : x = b2i v) (hdg : decode cc pc = .ok (.bastore, 1))
    (kk : ∀ (H1 : Heap) (locs1 : List Loc), va_P D vwCl (ws.set q0 (a, .inl (cs 1, n, .inl (bF (va_up f j v))))) H1 → va_D A (ws.set q0 (a, .inl (cs 1, n, .inl (bF (va_up f j v))))) → va_S A H0 H1 locs1 → W p l e R s m args below meth c H1 locs1 cells slots Q (F0 m (pc + 1) ls rest)) : W p l e R s m args below meth c H locs cells slots Q (F0 m pc ls (.int x :: .int i :: .ref a :: rest)) := by
  subst hi; subst hxv
  refine va_zast F.1 F.2.1 hK.1 hP hD hS q0 1 ha rfl (vp_in_nI hj hn) hdg ?_
  rw [nI_clamp (Nat.lt_trans hj hn), b2i_nar]
  have e : upd (bF f) j (b2i v) = bF (va_up f j v) := by
    funext k
    by_cases h : k = j
    · simp [upd, bF, va_up, h]
    · simp [upd, bF, va_up, h]
  rw [e]
  exact kk
theorem xi_last (F : CallFix p m c cc nL s args Ts own) (hK : sK D cs s) (hP : va_P D vwCl ws H) (hD : va_D A ws) (hS : va_S A H0 H locs) (q0 : Nat) {n : Nat} {f : Nat → Int64} (ha : ws[q0]? = some (a, .inl (cs 2, n, .inr (.inl f)))) (hn : n < 2 ^ 31) {i : Int32} {x : Int64} {j : Nat} (hj : j < n) (hi : i = nI j) (hdg : decode cc pc = .ok (.lastore, 1))
    (kk : ∀ (H1 : Heap) (locs1 : List Loc), va_P D vwCl (ws.set q0 (a, .inl (cs 2, n, .inr (.inl (va_up f j x))))) H1 → va_D A (ws.set q0 (a, .inl (cs 2, n, .inr (.inl (va_up f j x))))) → va_S A H0 H1 locs1 → W p l e R s m args below meth c H1 locs1 cells slots Q (F0 m (pc + 1) ls rest)) : W p l e R s m args below meth c H locs cells slots Q (F0 m pc ls (.long x :: .int i :: .ref a :: rest)) := by
  subst hi
  refine va_last F.1 F.2.1 hK.1 hP hD hS q0 2 ha rfl (vp_in_nI hj hn) hdg ?_
  rw [nI_clamp (Nat.lt_trans hj hn)]
  exact kk
end XR
end
section
/-! one row a kind of call: the callee's cells are cut out, the rest is beside what comes back -/
theorem xs_fm {α β : Type} {f : α → Option β} {is : List α} {w : List β} (h : is.map f = w.map some) : is.filterMap f = w := by
  have e : is.filterMap f = (is.map f).filterMap id := by rw [List.filterMap_map]; rfl
  rw [e, h, List.filterMap_map]
  show w.filterMap some = w
  exact List.filterMap_some
/-- the places isR of a list -/
def pk (W0 : va_W) (isR : List Nat) : va_W := isR.filterMap (fun i => W0[i]?)
def xs_ok (W0 : va_W) (isC isR : List Nat) : Bool := va_nd isC && va_nd isR && isR.all (fun i => !isC.contains i) && isR.all (fun i => Nat.blt i W0.length)
theorem xs_all {W0 : va_W} (isR : List Nat) (h : isR.all (fun i => Nat.blt i W0.length) = true) : isR.map (fun i => W0[i]?) = (pk W0 isR).map some := by
  induction isR with
  | nil => rfl
  | cons i r ih =>
    simp only [List.all_cons, Bool.and_eq_true] at h
    have hi : i < W0.length := Nat.blt_eq.mp h.1
    have e : W0[i]? = some W0[i] := List.getElem?_eq_getElem hi
    simp only [pk, List.map_cons, List.filterMap_cons, e]
    have := ih h.2
    simp only [pk] at this
    rw [this]
theorem xs_dis {W0 : va_W} {isC isR : List Nat} (h : xs_ok W0 isC isR = true) : va_nd isC = true ∧ va_nd isR = true ∧ (∀ i ∈ isR, i ∉ isC) ∧ isR.map (fun i => W0[i]?) = (pk W0 isR).map some := by
  simp only [xs_ok, Bool.and_eq_true] at h
  refine ⟨h.1.1.1, h.1.1.2, fun i hi hc => ?_, xs_all isR h.2⟩
  have := List.all_eq_true.mp h.1.2 i hi
  simp [hc] at this
section XC
variable {p : Program} {l : Launch} {e : Env} {R : Room} {s : State} {m : MethodId} {args : Array Value} {below : List Frame} {meth : Method} {c : Code} {H : Heap} {locs : List Loc} {cells slots : Nat} {Q : State → Prop}
variable {cc bytes : ByteArray} {pc nL maxL n index : Nat} {ret : Option FieldType} {ls : Array Slot} {rest As st0 : List Value} {D : va_G} {cs : Nat → ClassId} {A : Nat → Prop} {b : Nat} {W0 wc : va_W} {H0 : Heap} {Ts ws : List Cond} {own C : String} {rm : Room} {y : MethodName} {S : Type} {wf : S → va_W}
theorem xc_Vi {post : Int32 → S → Prop} (hM : CtI l y ws rm D cs (.ref b :: As) wc wf post) (F : CallFix p m c cc nL s args Ts own) (cw : CallW R s args own C index y bytes maxL ret ws rm 0 0 n)
    (hK : sK D cs s) (hP : va_P D vwCl W0 H) (hD : va_D A W0) (hS : va_S A H0 H locs) (hA : ∀ q : Nat, H0.size ≤ q → A q) (isC isR : List Nat) (hC : isC.map (fun i => W0[i]?) = wc.map some) (hnd : xs_ok W0 isC isR = true)
    (q0 : Nat) {ci N : Nat} {T : u_T} {fs : List Value} (hr : wc[q0]? = some (b, .inr (ci, fs))) (hci : vwCl[ci]? = some (C, T, N)) (hn : As.length = n) (hsize : ls.size = nL) (hst : st0 = As.reverse ++ .ref b :: rest) (hW : (rest.map fun v => v.category).sum ≤ 8) (hdg : decode cc pc = .ok (.invokevirtual index, 3)) (hroom : cells ≤ R.cells ∧ slots ≤ R.slots) 
    (kk : ∀ (r : Int32) (u : S) (H1 : Heap) (locs1 : List Loc), post r u → va_P D vwCl (pk W0 isR ++ wf u) H1 → va_D A (pk W0 isR ++ wf u) → va_S A H0 H1 locs1 → W p l e R s m args below meth c H1 locs1 cells slots Q (F0 m (pc + 3) ls (.int r :: rest))) :
    W p l e R s m args below meth c H locs cells slots Q (F0 m pc ls st0) := by
  obtain ⟨hnC, hnR, hdis, hR⟩ := xs_dis hnd
  have hPc : va_P D vwCl wc H := hP.sub isC (xs_fm hC)
  have hDc : va_D A wc := hD.sub isC hnC hC
  have hFc := va_free (wc := wc) hD hS hA isC hC
  refine va_calli (va_runV (As := As) (rest := rest) F (hM H.size) cw ⟨sP_blind, va_recv hK.1 hPc hci hr, fun U hU hW => ⟨rfl, by rw [hU], by rw [hU]; exact hPc, sK.moved hW.alike hK, hDc.weaken (fun _ _ _ _ => trivial)⟩⟩ rfl hn hsize hst (lv_room hW) hdg hroom) hS (fun q _ h => hFc q h) hFc (fun r u t H1 locs1 ht hvm hw hB hz1 hk1 hS1 => ?_)
  obtain ⟨hP1, hK1, hD1⟩ := hB
  rw [ht] at hP1
  obtain ⟨hP2, hD2⟩ := va_join (wr := pk W0 isR) (w1 := wf u) hP hD isC isR hC hR hnR hdis hk1 hFc hP1 hD1
  exact kk r u H1 locs1 hw hP2 hD2 hS1
theorem xc_Vz {post : Bool → S → Prop} (hM : CtZ l y ws rm D cs (.ref b :: As) wc wf post) (F : CallFix p m c cc nL s args Ts own) (cw : CallW R s args own C index y bytes maxL ret ws rm 0 0 n)
    (hK : sK D cs s) (hP : va_P D vwCl W0 H) (hD : va_D A W0) (hS : va_S A H0 H locs) (hA : ∀ q : Nat, H0.size ≤ q → A q) (isC isR : List Nat) (hC : isC.map (fun i => W0[i]?) = wc.map some) (hnd : xs_ok W0 isC isR = true)
    (q0 : Nat) {ci N : Nat} {T : u_T} {fs : List Value} (hr : wc[q0]? = some (b, .inr (ci, fs))) (hci : vwCl[ci]? = some (C, T, N)) (hn : As.length = n) (hsize : ls.size = nL) (hst : st0 = As.reverse ++ .ref b :: rest) (hW : (rest.map fun v => v.category).sum ≤ 8) (hdg : decode cc pc = .ok (.invokevirtual index, 3)) (hroom : cells ≤ R.cells ∧ slots ≤ R.slots) 
    (kk : ∀ (r : Bool) (u : S) (H1 : Heap) (locs1 : List Loc), post r u → va_P D vwCl (pk W0 isR ++ wf u) H1 → va_D A (pk W0 isR ++ wf u) → va_S A H0 H1 locs1 → W p l e R s m args below meth c H1 locs1 cells slots Q (F0 m (pc + 3) ls (.int (b2i r) :: rest))) :
    W p l e R s m args below meth c H locs cells slots Q (F0 m pc ls st0) := by
  obtain ⟨hnC, hnR, hdis, hR⟩ := xs_dis hnd
  have hPc : va_P D vwCl wc H := hP.sub isC (xs_fm hC)
  have hDc : va_D A wc := hD.sub isC hnC hC
  have hFc := va_free (wc := wc) hD hS hA isC hC
  refine va_calli (va_runV (As := As) (rest := rest) F (hM H.size) cw ⟨sP_blind, va_recv hK.1 hPc hci hr, fun U hU hW => ⟨rfl, by rw [hU], by rw [hU]; exact hPc, sK.moved hW.alike hK, hDc.weaken (fun _ _ _ _ => trivial)⟩⟩ rfl hn hsize hst (lv_room hW) hdg hroom) hS (fun q _ h => hFc q h) hFc (fun r0 u t H1 locs1 ht hvm hw hB hz1 hk1 hS1 => ?_)
  obtain ⟨hP1, hK1, hD1⟩ := hB
  rw [ht] at hP1
  obtain ⟨r, rfl, hw⟩ := hw
  obtain ⟨hP2, hD2⟩ := va_join (wr := pk W0 isR) (w1 := wf u) hP hD isC isR hC hR hnR hdis hk1 hFc hP1 hD1
  exact kk r u H1 locs1 hw hP2 hD2 hS1
theorem xc_Vl {post : Int64 → S → Prop} (hM : CtL l y ws rm D cs (.ref b :: As) wc wf post) (F : CallFix p m c cc nL s args Ts own) (cw : CallW R s args own C index y bytes maxL ret ws rm 0 0 n)
    (hK : sK D cs s) (hP : va_P D vwCl W0 H) (hD : va_D A W0) (hS : va_S A H0 H locs) (hA : ∀ q : Nat, H0.size ≤ q → A q) (isC isR : List Nat) (hC : isC.map (fun i => W0[i]?) = wc.map some) (hnd : xs_ok W0 isC isR = true)
    (q0 : Nat) {ci N : Nat} {T : u_T} {fs : List Value} (hr : wc[q0]? = some (b, .inr (ci, fs))) (hci : vwCl[ci]? = some (C, T, N)) (hn : As.length = n) (hsize : ls.size = nL) (hst : st0 = As.reverse ++ .ref b :: rest) (hW : (rest.map fun v => v.category).sum ≤ 8) (hdg : decode cc pc = .ok (.invokevirtual index, 3)) (hroom : cells ≤ R.cells ∧ slots ≤ R.slots) 
    (kk : ∀ (r : Int64) (u : S) (H1 : Heap) (locs1 : List Loc), post r u → va_P D vwCl (pk W0 isR ++ wf u) H1 → va_D A (pk W0 isR ++ wf u) → va_S A H0 H1 locs1 → W p l e R s m args below meth c H1 locs1 cells slots Q (F0 m (pc + 3) ls (.long r :: rest))) :
    W p l e R s m args below meth c H locs cells slots Q (F0 m pc ls st0) := by
  obtain ⟨hnC, hnR, hdis, hR⟩ := xs_dis hnd
  have hPc : va_P D vwCl wc H := hP.sub isC (xs_fm hC)
  have hDc : va_D A wc := hD.sub isC hnC hC
  have hFc := va_free (wc := wc) hD hS hA isC hC
  refine va_calll (va_runV (As := As) (rest := rest) F (hM H.size) cw ⟨sP_blind, va_recv hK.1 hPc hci hr, fun U hU hW => ⟨rfl, by rw [hU], by rw [hU]; exact hPc, sK.moved hW.alike hK, hDc.weaken (fun _ _ _ _ => trivial)⟩⟩ rfl hn hsize hst (lv_room hW) hdg hroom) hS (fun q _ h => hFc q h) hFc (fun r u t H1 locs1 ht hvm hw hB hz1 hk1 hS1 => ?_)
  obtain ⟨hP1, hK1, hD1⟩ := hB
  rw [ht] at hP1
  obtain ⟨hP2, hD2⟩ := va_join (wr := pk W0 isR) (w1 := wf u) hP hD isC isR hC hR hnR hdis hk1 hFc hP1 hD1
  exact kk r u H1 locs1 hw hP2 hD2 hS1
theorem xc_Vv {post : S → Prop} (hM : CtV l y ws rm D cs (.ref b :: As) wc wf 0 0 post) (F : CallFix p m c cc nL s args Ts own) (cw : CallW R s args own C index y bytes maxL ret ws rm 0 0 n)
    (hK : sK D cs s) (hP : va_P D vwCl W0 H) (hD : va_D A W0) (hS : va_S A H0 H locs) (hA : ∀ q : Nat, H0.size ≤ q → A q) (isC isR : List Nat) (hC : isC.map (fun i => W0[i]?) = wc.map some) (hnd : xs_ok W0 isC isR = true)
    (q0 : Nat) {ci N : Nat} {T : u_T} {fs : List Value} (hr : wc[q0]? = some (b, .inr (ci, fs))) (hci : vwCl[ci]? = some (C, T, N)) (hn : As.length = n) (hsize : ls.size = nL) (hst : st0 = As.reverse ++ .ref b :: rest) (hW : (rest.map fun v => v.category).sum ≤ 8) (hdg : decode cc pc = .ok (.invokevirtual index, 3)) (hroom : cells ≤ R.cells ∧ slots ≤ R.slots) 
    (kk : ∀ (u : S) (H1 : Heap) (locs1 : List Loc), post u → va_P D vwCl (pk W0 isR ++ wf u) H1 → va_D A (pk W0 isR ++ wf u) → va_S A H0 H1 locs1 → W p l e R s m args below meth c H1 locs1 cells slots Q (F0 m (pc + 3) ls (rest))) :
    W p l e R s m args below meth c H locs cells slots Q (F0 m pc ls st0) := by
  obtain ⟨hnC, hnR, hdis, hR⟩ := xs_dis hnd
  have hPc : va_P D vwCl wc H := hP.sub isC (xs_fm hC)
  have hDc : va_D A wc := hD.sub isC hnC hC
  have hFc := va_free (wc := wc) hD hS hA isC hC
  refine va_callv (va_runV (As := As) (rest := rest) F (hM H.size) cw ⟨sP_blind, va_recv hK.1 hPc hci hr, fun U hU hW => ⟨rfl, by rw [hU], by rw [hU]; exact hPc, sK.moved hW.alike hK, hDc.weaken (fun _ _ _ _ => trivial)⟩⟩ rfl hn hsize hst (lv_room hW) hdg hroom) hS (fun q _ h => hFc q h) hFc (fun u t H1 locs1 ht hvm hw hB hz1 hk1 hS1 => ?_)
  obtain ⟨hP1, hK1, hD1⟩ := hB
  rw [ht] at hP1
  obtain ⟨hP2, hD2⟩ := va_join (wr := pk W0 isR) (w1 := wf u) hP hD isC isR hC hR hnR hdis hk1 hFc hP1 hD1
  exact kk u H1 locs1 hw hP2 hD2 hS1
theorem xc_Si {post : Int32 → S → Prop} (hM : CtI l y ws rm D cs As wc wf post) (F : CallFix p m c cc nL s args Ts own) (cw : CallB R s args own index y bytes maxL ret ws rm 0 0 n ∧ (Cond.static y).before args s = true)
    (hK : sK D cs s) (hP : va_P D vwCl W0 H) (hD : va_D A W0) (hS : va_S A H0 H locs) (hA : ∀ q : Nat, H0.size ≤ q → A q) (isC isR : List Nat) (hC : isC.map (fun i => W0[i]?) = wc.map some) (hnd : xs_ok W0 isC isR = true)
    (hn : As.length = n) (hsize : ls.size = nL) (hst : st0 = As.reverse ++ rest) (hW : (rest.map fun v => v.category).sum ≤ 8) (hdg : decode cc pc = .ok (.invokestatic index, 3)) (hroom : cells ≤ R.cells ∧ slots ≤ R.slots) 
    (kk : ∀ (r : Int32) (u : S) (H1 : Heap) (locs1 : List Loc), post r u → va_P D vwCl (pk W0 isR ++ wf u) H1 → va_D A (pk W0 isR ++ wf u) → va_S A H0 H1 locs1 → W p l e R s m args below meth c H1 locs1 cells slots Q (F0 m (pc + 3) ls (.int r :: rest))) :
    W p l e R s m args below meth c H locs cells slots Q (F0 m pc ls st0) := by
  obtain ⟨hnC, hnR, hdis, hR⟩ := xs_dis hnd
  have hPc : va_P D vwCl wc H := hP.sub isC (xs_fm hC)
  have hDc : va_D A wc := hD.sub isC hnC hC
  have hFc := va_free (wc := wc) hD hS hA isC hC
  refine va_calli (va_runS (As := As) (rest := rest) F (hM H.size) cw ⟨sP_blind, fun U hU hW => ⟨rfl, by rw [hU], by rw [hU]; exact hPc, sK.moved hW.alike hK, hDc.weaken (fun _ _ _ _ => trivial)⟩⟩ rfl hn hsize hst (lv_room hW) hdg hroom) hS (fun q _ h => hFc q h) hFc (fun r u t H1 locs1 ht hvm hw hB hz1 hk1 hS1 => ?_)
  obtain ⟨hP1, hK1, hD1⟩ := hB
  rw [ht] at hP1
  obtain ⟨hP2, hD2⟩ := va_join (wr := pk W0 isR) (w1 := wf u) hP hD isC isR hC hR hnR hdis hk1 hFc hP1 hD1
  exact kk r u H1 locs1 hw hP2 hD2 hS1
theorem xc_Sz {post : Bool → S → Prop} (hM : CtZ l y ws rm D cs As wc wf post) (F : CallFix p m c cc nL s args Ts own) (cw : CallB R s args own index y bytes maxL ret ws rm 0 0 n ∧ (Cond.static y).before args s = true)
    (hK : sK D cs s) (hP : va_P D vwCl W0 H) (hD : va_D A W0) (hS : va_S A H0 H locs) (hA : ∀ q : Nat, H0.size ≤ q → A q) (isC isR : List Nat) (hC : isC.map (fun i => W0[i]?) = wc.map some) (hnd : xs_ok W0 isC isR = true)
    (hn : As.length = n) (hsize : ls.size = nL) (hst : st0 = As.reverse ++ rest) (hW : (rest.map fun v => v.category).sum ≤ 8) (hdg : decode cc pc = .ok (.invokestatic index, 3)) (hroom : cells ≤ R.cells ∧ slots ≤ R.slots) 
    (kk : ∀ (r : Bool) (u : S) (H1 : Heap) (locs1 : List Loc), post r u → va_P D vwCl (pk W0 isR ++ wf u) H1 → va_D A (pk W0 isR ++ wf u) → va_S A H0 H1 locs1 → W p l e R s m args below meth c H1 locs1 cells slots Q (F0 m (pc + 3) ls (.int (b2i r) :: rest))) :
    W p l e R s m args below meth c H locs cells slots Q (F0 m pc ls st0) := by
  obtain ⟨hnC, hnR, hdis, hR⟩ := xs_dis hnd
  have hPc : va_P D vwCl wc H := hP.sub isC (xs_fm hC)
  have hDc : va_D A wc := hD.sub isC hnC hC
  have hFc := va_free (wc := wc) hD hS hA isC hC
  refine va_calli (va_runS (As := As) (rest := rest) F (hM H.size) cw ⟨sP_blind, fun U hU hW => ⟨rfl, by rw [hU], by rw [hU]; exact hPc, sK.moved hW.alike hK, hDc.weaken (fun _ _ _ _ => trivial)⟩⟩ rfl hn hsize hst (lv_room hW) hdg hroom) hS (fun q _ h => hFc q h) hFc (fun r0 u t H1 locs1 ht hvm hw hB hz1 hk1 hS1 => ?_)
  obtain ⟨hP1, hK1, hD1⟩ := hB
  rw [ht] at hP1
  obtain ⟨r, rfl, hw⟩ := hw
  obtain ⟨hP2, hD2⟩ := va_join (wr := pk W0 isR) (w1 := wf u) hP hD isC isR hC hR hnR hdis hk1 hFc hP1 hD1
  exact kk r u H1 locs1 hw hP2 hD2 hS1
theorem xc_Sl {post : Int64 → S → Prop} (hM : CtL l y ws rm D cs As wc wf post) (F : CallFix p m c cc nL s args Ts own) (cw : CallB R s args own index y bytes maxL ret ws rm 0 0 n ∧ (Cond.static y).before args s = true)
    (hK : sK D cs s) (hP : va_P D vwCl W0 H) (hD : va_D A W0) (hS : va_S A H0 H locs) (hA : ∀ q : Nat, H0.size ≤ q → A q) (isC isR : List Nat) (hC : isC.map (fun i => W0[i]?) = wc.map some) (hnd : xs_ok W0 isC isR = true)
    (hn : As.length = n) (hsize : ls.size = nL) (hst : st0 = As.reverse ++ rest) (hW : (rest.map fun v => v.category).sum ≤ 8) (hdg : decode cc pc = .ok (.invokestatic index, 3)) (hroom : cells ≤ R.cells ∧ slots ≤ R.slots) 
    (kk : ∀ (r : Int64) (u : S) (H1 : Heap) (locs1 : List Loc), post r u → va_P D vwCl (pk W0 isR ++ wf u) H1 → va_D A (pk W0 isR ++ wf u) → va_S A H0 H1 locs1 → W p l e R s m args below meth c H1 locs1 cells slots Q (F0 m (pc + 3) ls (.long r :: rest))) :
    W p l e R s m args below meth c H locs cells slots Q (F0 m pc ls st0) := by
  obtain ⟨hnC, hnR, hdis, hR⟩ := xs_dis hnd
  have hPc : va_P D vwCl wc H := hP.sub isC (xs_fm hC)
  have hDc : va_D A wc := hD.sub isC hnC hC
  have hFc := va_free (wc := wc) hD hS hA isC hC
  refine va_calll (va_runS (As := As) (rest := rest) F (hM H.size) cw ⟨sP_blind, fun U hU hW => ⟨rfl, by rw [hU], by rw [hU]; exact hPc, sK.moved hW.alike hK, hDc.weaken (fun _ _ _ _ => trivial)⟩⟩ rfl hn hsize hst (lv_room hW) hdg hroom) hS (fun q _ h => hFc q h) hFc (fun r u t H1 locs1 ht hvm hw hB hz1 hk1 hS1 => ?_)
  obtain ⟨hP1, hK1, hD1⟩ := hB
  rw [ht] at hP1
  obtain ⟨hP2, hD2⟩ := va_join (wr := pk W0 isR) (w1 := wf u) hP hD isC isR hC hR hnR hdis hk1 hFc hP1 hD1
  exact kk r u H1 locs1 hw hP2 hD2 hS1
theorem xc_Sv {post : S → Prop} (hM : CtV l y ws rm D cs As wc wf 0 0 post) (F : CallFix p m c cc nL s args Ts own) (cw : CallB R s args own index y bytes maxL ret ws rm 0 0 n ∧ (Cond.static y).before args s = true)
    (hK : sK D cs s) (hP : va_P D vwCl W0 H) (hD : va_D A W0) (hS : va_S A H0 H locs) (hA : ∀ q : Nat, H0.size ≤ q → A q) (isC isR : List Nat) (hC : isC.map (fun i => W0[i]?) = wc.map some) (hnd : xs_ok W0 isC isR = true)
    (hn : As.length = n) (hsize : ls.size = nL) (hst : st0 = As.reverse ++ rest) (hW : (rest.map fun v => v.category).sum ≤ 8) (hdg : decode cc pc = .ok (.invokestatic index, 3)) (hroom : cells ≤ R.cells ∧ slots ≤ R.slots) 
    (kk : ∀ (u : S) (H1 : Heap) (locs1 : List Loc), post u → va_P D vwCl (pk W0 isR ++ wf u) H1 → va_D A (pk W0 isR ++ wf u) → va_S A H0 H1 locs1 → W p l e R s m args below meth c H1 locs1 cells slots Q (F0 m (pc + 3) ls (rest))) :
    W p l e R s m args below meth c H locs cells slots Q (F0 m pc ls st0) := by
  obtain ⟨hnC, hnR, hdis, hR⟩ := xs_dis hnd
  have hPc : va_P D vwCl wc H := hP.sub isC (xs_fm hC)
  have hDc : va_D A wc := hD.sub isC hnC hC
  have hFc := va_free (wc := wc) hD hS hA isC hC
  refine va_callv (va_runS (As := As) (rest := rest) F (hM H.size) cw ⟨sP_blind, fun U hU hW => ⟨rfl, by rw [hU], by rw [hU]; exact hPc, sK.moved hW.alike hK, hDc.weaken (fun _ _ _ _ => trivial)⟩⟩ rfl hn hsize hst (lv_room hW) hdg hroom) hS (fun q _ h => hFc q h) hFc (fun u t H1 locs1 ht hvm hw hB hz1 hk1 hS1 => ?_)
  obtain ⟨hP1, hK1, hD1⟩ := hB
  rw [ht] at hP1
  obtain ⟨hP2, hD2⟩ := va_join (wr := pk W0 isR) (w1 := wf u) hP hD isC isR hC hR hnR hdis hk1 hFc hP1 hD1
  exact kk u H1 locs1 hw hP2 hD2 hS1
theorem xc_Iv {mc ms : Nat} {post : S → Prop} (hM : CtV l y ws rm D cs (.ref b :: As) wc wf mc ms post) (F : CallFix p m c cc nL s args Ts own) (cw : CallB R s args own index y bytes maxL none ws rm mc ms n ∧ y.name = "<init>" ∧ (Cond.instanceMethod y).before args s = true)
    (hK : sK D cs s) (hP : va_P D vwCl W0 H) (hD : va_D A W0) (hS : va_S A H0 H locs) (hA : ∀ q : Nat, H0.size ≤ q → A q) (isC isR : List Nat) (hC : isC.map (fun i => W0[i]?) = wc.map some) (hnd : xs_ok W0 isC isR = true)
    (hn : As.length = n) (hsize : ls.size = nL) (hst : st0 = As.reverse ++ .ref b :: rest) (hW : (rest.map fun v => v.category).sum ≤ 8) (hdg : decode cc pc = .ok (.invokespecial index, 3)) (hroom : cells + mc ≤ R.cells ∧ slots + ms ≤ R.slots) 
    (kk : ∀ (u : S) (H1 : Heap) (locs1 : List Loc), post u → va_P D vwCl (pk W0 isR ++ wf u) H1 → va_D A (pk W0 isR ++ wf u) → va_S A H0 H1 locs1 → W p l e R s m args below meth c H1 locs1 (cells + mc) (slots + ms) Q (F0 m (pc + 3) ls (rest))) :
    W p l e R s m args below meth c H locs cells slots Q (F0 m pc ls st0) := by
  obtain ⟨hnC, hnR, hdis, hR⟩ := xs_dis hnd
  have hPc : va_P D vwCl wc H := hP.sub isC (xs_fm hC)
  have hDc : va_D A wc := hD.sub isC hnC hC
  have hFc := va_free (wc := wc) hD hS hA isC hC
  refine va_callv (va_runI (As := As) (rest := rest) F (hM H.size) cw ⟨sP_blind, fun U hU hW => ⟨rfl, by rw [hU], by rw [hU]; exact hPc, sK.moved hW.alike hK, hDc.weaken (fun _ _ _ _ => trivial)⟩⟩ rfl hn hsize hst (lv_room hW) hdg hroom) hS (fun q _ h => hFc q h) hFc (fun u t H1 locs1 ht hvm hw hB hz1 hk1 hS1 => ?_)
  obtain ⟨hP1, hK1, hD1⟩ := hB
  rw [ht] at hP1
  obtain ⟨hP2, hD2⟩ := va_join (wr := pk W0 isR) (w1 := wf u) hP hD isC isR hC hR hnR hdis hk1 hFc hP1 hD1
  exact kk u H1 locs1 hw hP2 hD2 hS1
theorem xi_ifeqz {b : Bool} (F : CallFix p m c cc nL s args Ts own) {off : Int} {tgt : Nat} (hdg : decode cc pc = .ok (.ifCond .eq off, 3)) (ht : (pc : Int) + off = (tgt : Int)) (kt : b = false → W p l e R s m args below meth c H locs cells slots Q (F0 m tgt ls rest)) (kf : b = true → W p l e R s m args below meth c H locs cells slots Q (F0 m (pc + 3) ls rest)) : W p l e R s m args below meth c H locs cells slots Q (F0 m pc ls (.int (b2i b) :: rest)) :=
  lv_if_eq F.1 F.2.1 hdg ht (fun h => kt ((b2i_eq0 b).mp h)) (fun h => kf (by cases b; exact absurd rfl h; rfl))
theorem xi_ifnez {b : Bool} (F : CallFix p m c cc nL s args Ts own) {off : Int} {tgt : Nat} (hdg : decode cc pc = .ok (.ifCond .ne off, 3)) (ht : (pc : Int) + off = (tgt : Int)) (kt : b = true → W p l e R s m args below meth c H locs cells slots Q (F0 m tgt ls rest)) (kf : b = false → W p l e R s m args below meth c H locs cells slots Q (F0 m (pc + 3) ls rest)) : W p l e R s m args below meth c H locs cells slots Q (F0 m pc ls (.int (b2i b) :: rest)) :=
  lv_if_ne F.1 F.2.1 hdg ht (fun h => kt (by cases b; exact absurd rfl h; rfl)) (fun h => kf ((b2i_eq0 b).mp h))
theorem xi_lcmp_lt {x y : Int64} (F : CallFix p m c cc nL s args Ts own) {off : Int} {tgt : Nat} (hd0 : decode cc pc = .ok (.lcmp, 1)) (hdg : decode cc (pc + 1) = .ok (.ifCond .lt off, 3)) (ht : ((pc + 1 : Nat) : Int) + off = (tgt : Int)) (kt : x < y → W p l e R s m args below meth c H locs cells slots Q (F0 m tgt ls rest)) (kf : ¬ x < y → W p l e R s m args below meth c H locs cells slots Q (F0 m (pc + 1 + 3) ls rest)) : W p l e R s m args below meth c H locs cells slots Q (F0 m pc ls (.long y :: .long x :: rest)) :=
  W.lcmp F.1 F.2.1 hd0 (lv_if_lt F.1 F.2.1 hdg ht (fun h => kt ((lg_cmp_lt x y).mp h)) (fun h => kf (fun h2 => h ((lg_cmp_lt x y).mpr h2))))
theorem xi_lcmp_ge {x y : Int64} (F : CallFix p m c cc nL s args Ts own) {off : Int} {tgt : Nat} (hd0 : decode cc pc = .ok (.lcmp, 1)) (hdg : decode cc (pc + 1) = .ok (.ifCond .ge off, 3)) (ht : ((pc + 1 : Nat) : Int) + off = (tgt : Int)) (kt : y ≤ x → W p l e R s m args below meth c H locs cells slots Q (F0 m tgt ls rest)) (kf : ¬ y ≤ x → W p l e R s m args below meth c H locs cells slots Q (F0 m (pc + 1 + 3) ls rest)) : W p l e R s m args below meth c H locs cells slots Q (F0 m pc ls (.long y :: .long x :: rest)) :=
  W.lcmp F.1 F.2.1 hd0 (lv_if_ge F.1 F.2.1 hdg ht (fun h => kt ((lg_cmp_ge x y).mp h)) (fun h => kf (fun h2 => h ((lg_cmp_ge x y).mpr h2))))
theorem xi_lcmp_gt {x y : Int64} (F : CallFix p m c cc nL s args Ts own) {off : Int} {tgt : Nat} (hd0 : decode cc pc = .ok (.lcmp, 1)) (hdg : decode cc (pc + 1) = .ok (.ifCond .gt off, 3)) (ht : ((pc + 1 : Nat) : Int) + off = (tgt : Int)) (kt : y < x → W p l e R s m args below meth c H locs cells slots Q (F0 m tgt ls rest)) (kf : ¬ y < x → W p l e R s m args below meth c H locs cells slots Q (F0 m (pc + 1 + 3) ls rest)) : W p l e R s m args below meth c H locs cells slots Q (F0 m pc ls (.long y :: .long x :: rest)) :=
  W.lcmp F.1 F.2.1 hd0 (lv_if_gt F.1 F.2.1 hdg ht (fun h => kt ((lg_cmp_gt x y).mp h)) (fun h => kf (fun h2 => h ((lg_cmp_gt x y).mpr h2))))
theorem xi_lcmp_le {x y : Int64} (F : CallFix p m c cc nL s args Ts own) {off : Int} {tgt : Nat} (hd0 : decode cc pc = .ok (.lcmp, 1)) (hdg : decode cc (pc + 1) = .ok (.ifCond .le off, 3)) (ht : ((pc + 1 : Nat) : Int) + off = (tgt : Int)) (kt : x ≤ y → W p l e R s m args below meth c H locs cells slots Q (F0 m tgt ls rest)) (kf : ¬ x ≤ y → W p l e R s m args below meth c H locs cells slots Q (F0 m (pc + 1 + 3) ls rest)) : W p l e R s m args below meth c H locs cells slots Q (F0 m pc ls (.long y :: .long x :: rest)) :=
  W.lcmp F.1 F.2.1 hd0 (lv_if_le F.1 F.2.1 hdg ht (fun h => kt ((lg_cmp_le x y).mp h)) (fun h => kf (fun h2 => h ((lg_cmp_le x y).mpr h2))))
theorem xi_lcmp_eq {x y : Int64} (F : CallFix p m c cc nL s args Ts own) {off : Int} {tgt : Nat} (hd0 : decode cc pc = .ok (.lcmp, 1)) (hdg : decode cc (pc + 1) = .ok (.ifCond .eq off, 3)) (ht : ((pc + 1 : Nat) : Int) + off = (tgt : Int)) (kt : x = y → W p l e R s m args below meth c H locs cells slots Q (F0 m tgt ls rest)) (kf : ¬ x = y → W p l e R s m args below meth c H locs cells slots Q (F0 m (pc + 1 + 3) ls rest)) : W p l e R s m args below meth c H locs cells slots Q (F0 m pc ls (.long y :: .long x :: rest)) :=
  W.lcmp F.1 F.2.1 hd0 (lv_if_eq F.1 F.2.1 hdg ht (fun h => kt ((lg_cmp_eq x y).mp h)) (fun h => kf (fun h2 => h ((lg_cmp_eq x y).mpr h2))))
theorem xi_lcmp_ne {x y : Int64} (F : CallFix p m c cc nL s args Ts own) {off : Int} {tgt : Nat} (hd0 : decode cc pc = .ok (.lcmp, 1)) (hdg : decode cc (pc + 1) = .ok (.ifCond .ne off, 3)) (ht : ((pc + 1 : Nat) : Int) + off = (tgt : Int)) (kt : ¬ x = y → W p l e R s m args below meth c H locs cells slots Q (F0 m tgt ls rest)) (kf : x = y → W p l e R s m args below meth c H locs cells slots Q (F0 m (pc + 1 + 3) ls rest)) : W p l e R s m args below meth c H locs cells slots Q (F0 m pc ls (.long y :: .long x :: rest)) :=
  W.lcmp F.1 F.2.1 hd0 (lv_if_ne F.1 F.2.1 hdg ht (fun h => kt (fun h2 => h ((lg_cmp_eq x y).mpr h2))) (fun h => kf ((lg_cmp_eq x y).mp h)))
theorem xi_tswIn (F : CallFix p m c cc nL s args Ts own) {dflt lo hi off : Int} {offs : Array Int} {len tgt : Nat} {x v : Int32} (hdg : decode cc pc = .ok (.tableswitch dflt lo hi offs, len)) (hx : x = v) (h : (decide (¬ v.toInt < lo) && decide (¬ hi < v.toInt) && decide (offs[(v.toInt - lo).toNat]? = some off) && decide ((pc : Int) + off = (tgt : Int))) = true) (k : W p l e R s m args below meth c H locs cells slots Q (F0 m tgt ls rest)) : W p l e R s m args below meth c H locs cells slots Q (F0 m pc ls (.int x :: rest)) := by
  subst hx
  simp only [Bool.and_eq_true, decide_eq_true_eq] at h
  exact lv_tableIn F.1 F.2.1 hdg h.1.1.1 h.1.1.2 h.1.2 h.2 k
theorem xi_tswOut (F : CallFix p m c cc nL s args Ts own) {dflt lo hi : Int} {offs : Array Int} {len tgt : Nat} {x : Int32} (hdg : decode cc pc = .ok (.tableswitch dflt lo hi offs, len)) (h : ∀ k : Nat, (k : Int) ≤ hi - lo → ¬ x = Int32.ofInt (lo + k)) (ht : (pc : Int) + dflt = (tgt : Int)) (k : W p l e R s m args below meth c H locs cells slots Q (F0 m tgt ls rest)) : W p l e R s m args below meth c H locs cells slots Q (F0 m pc ls (.int x :: rest)) := by
  refine lv_tableOut F.1 F.2.1 hdg ?_ ht k
  rcases Int.lt_or_le x.toInt lo with q | q
  · exact Or.inl q
  · rcases Int.lt_or_le hi x.toInt with q2 | q2
    · exact Or.inr q2
    · refine absurd ?_ (h (x.toInt - lo).toNat (by omega))
      have : lo + ((x.toInt - lo).toNat : Int) = x.toInt := by omega
      rw [this, Int32.ofInt_toInt]
end XC
end
